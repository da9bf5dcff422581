/-! ===== words that are no names; names ===== -/
def resW : Nat → List Nat
  | 0 => [114, 101, 110, 114, 111, 99]
  | 1 => [116, 101, 101, 114, 116, 115]
  | 2 => [110, 111, 115, 114, 101, 112]
  | 3 => [116, 120, 101, 110]
  | 4 => [115, 119, 111, 108, 108, 111, 102]
  | 5 => [115, 101, 111, 103]
  | 6 => [115, 112, 111, 114, 100]
  | 7 => [115, 101, 118, 97, 101, 108]
  | 8 => [115, 101, 114, 105, 104]
  | 9 => [101, 116, 117, 110, 105, 109]
  | 10 => [114, 111]
  | 11 => [100, 110, 97]
  | 12 => [116, 111, 110]
  | 13 => [101, 110, 111, 108, 97]
  | 14 => [100, 101, 103, 110, 105, 114]
  | 15 => [101, 108, 100, 105]
  | 16 => [116, 97]
  | 17 => [114, 101, 116, 102, 97]
  | 18 => [115, 110, 117, 98]
  | 19 => [116, 102, 101, 108]
  | 20 => [100, 110, 105, 104, 101, 98]
  | 21 => [114, 101, 98, 109, 117, 110]
  | _ => []
theorem resW_ok : ∀ k, k < 22 → wOK (resW k) := by
  have h : ∀ k, k < 22 → ((resW k).all (fun c => decide (97 ≤ c ∧ c ≤ 122)) && decide ((resW k).length ≤ 7)) = true := by decide +kernel
  intro k hk
  have := h k hk
  rw [Bool.and_eq_true, List.all_eq_true, decide_eq_true_eq] at this
  exact ⟨fun c hc => of_decide_eq_true (this.1 c hc), this.2⟩
def ixF (N : Nat → List Nat) (w : List Nat) : Nat → Nat → Nat
  | 0, j => j
  | f + 1, j => if N j = w then j else ixF N w f (j + 1)
theorem ixF_ge {N : Nat → List Nat} {w : List Nat} : ∀ f j, j ≤ ixF N w f j ∧ ixF N w f j ≤ j + f
  | 0, j => by rw [ixF]; omega
  | f + 1, j => by
    rw [ixF]
    split
    · omega
    · have := ixF_ge (N := N) (w := w) f (j + 1); omega
theorem ixF_hit {N : Nat → List Nat} {w : List Nat} : ∀ f j, ixF N w f j < j + f → N (ixF N w f j) = w
  | 0, j, h => by rw [ixF] at h; omega
  | f + 1, j, h => by
    rw [ixF] at h ⊢
    split at h
    · next e => rw [if_pos e]; exact e
    · next e => rw [if_neg e]; exact ixF_hit f (j + 1) (by omega)
theorem ixF_miss {N : Nat → List Nat} {w : List Nat} : ∀ f j i, j ≤ i → i < ixF N w f j → N i ≠ w
  | 0, j, i, h1, h2 => by rw [ixF] at h2; omega
  | f + 1, j, i, h1, h2 => by
    rw [ixF] at h2
    split at h2
    · omega
    · next e =>
      by_cases e2 : i = j
      · rw [e2]; exact e
      · exact ixF_miss f (j + 1) i (by omega) h2
/-- which of the words that are no names: 22 is none -/
def tW (k : Nat) (w : List Nat) : Nat := if k = 1 then ixF resW w 22 0 else 22
theorem tW_le (k : Nat) (w : List Nat) : tW k w ≤ 22 := by
  unfold tW
  split
  · have := ixF_ge (N := resW) (w := w) 22 0; omega
  · omega
theorem resW_inj : ∀ i, i < 22 → ∀ j, j < 22 → resW i = resW j → i = j := by decide +kernel
theorem tW_eq {w : List Nat} {j : Nat} (hj : j < 22) : ixF resW w 22 0 = j ↔ w = resW j := by
  constructor
  · intro h
    have := ixF_hit (N := resW) (w := w) 22 0 (by omega)
    rw [h] at this; exact this.symm
  · intro h
    have h1 := ixF_ge (N := resW) (w := w) 22 0
    rcases Nat.lt_or_ge j (ixF resW w 22 0) with h2 | h2
    · exact absurd h.symm (ixF_miss 22 0 j (by omega) h2)
    · have h3 := ixF_hit (N := resW) (w := w) 22 0 (by omega)
      exact resW_inj _ (by omega) _ hj (h3.trans h)
theorem x_told {n L k v a p : Nat} {w : List Nat} {rx rm : Nat → Int32} {wx wm tw : Nat → Int64} (h : tokR n L rx wx rm wm k v w a p) (hw : ∀ j, j < 22 → tw j = lN (cv (resW j))) : fRd_toldWord rx wx tw = some (if tW k w < 22 then nI (tW k w) else -1) := by
  unfold fRd_toldWord tW
  have hk : rx 5 = 1 ↔ k = 1 := by
    rcases h.2.2.2.2.2.2.2.2.2 with ⟨c1, c2⟩ | ⟨c1, c2, -⟩ | ⟨c1, c2, -⟩ | ⟨c1, c2, c3, -⟩ | ⟨c1, c2⟩
    · rw [c1, c2]; decide
    · rw [c1, c2]; decide
    · rw [c1, c2]; decide
    · rw [c1, c3, nI_k1 (by unfold isSg at c2; omega)]; unfold isSg at c2; omega
    · rw [c1, c2]; decide
  by_cases e : k = 1
  · rw [if_pos (hk.mpr e), if_pos e]
    have hwd : wOK w ∧ wx 6 = lN (cv w) := by
      rcases h.2.2.2.2.2.2.2.2.2 with ⟨c1, -⟩ | ⟨c1, c2, c3, c4, -⟩ | ⟨c1, -⟩ | ⟨c1, -⟩ | ⟨c1, -⟩
      · omega
      · exact ⟨c3, c4⟩
      · omega
      · omega
      · omega
    have key : ∀ f j, f + j = 22 → zLP (fun s : Int32 => fRd_toldWord_L10 wx tw s) (nI j) = some (if ixF resW w f j < 22 then nI (ixF resW w f j) else -1) := by
      intro f
      induction f with
      | zero =>
        intro j hj
        refine zLP_out ?_
        unfold fRd_toldWord_L10
        rw [if_pos (ze22 (by omega) (by omega)), ixF, if_neg (by omega)]
      | succ f ih =>
        intro j hj
        rw [ixF]
        by_cases e2 : resW j = w
        · rw [if_pos e2, if_pos (by omega)]
          refine zLP_out ?_
          unfold fRd_toldWord_L10
          rw [if_neg (zg22 (by omega)), zrd_n (by omega) (by omega), hw j (by omega), hwd.2]
          simp only [Option.bind_some]
          rw [if_pos (lg_cmp0.mpr (by rw [e2]))]
        · rw [if_neg e2, ← ih (j + 1) (by omega)]
          refine zLP_go ?_
          unfold fRd_toldWord_L10
          rw [if_neg (zg22 (by omega)), zrd_n (by omega) (by omega), hw j (by omega), hwd.2]
          simp only [Option.bind_some]
          rw [if_neg (fun h => e2 ((cw_eq (resW_ok j (by omega)) hwd.1).mp (lg_cmp0.mp h)))]
          simp only [zlet, nI_1]
    exact key 22 0 rfl
  · rw [if_neg (fun h => e (hk.mp h)), if_neg e, if_neg (by omega)]
theorem tok_11 {n L k v a p : Nat} {w : List Nat} {rx rm : Nat → Int32} {wx wm : Nat → Int64} (h : tokR n L rx wx rm wm k v w a p) : k ≤ 4 ∧ rm 11 = nI k ∧ (k = 1 → wOK w ∧ wx 6 = lN (cv w) ∧ wm 17 = lN (mv w)) := by
  refine ⟨?_, h.2.2.2.2.2.1, ?_⟩
  · rcases h.2.2.2.2.2.2.2.2.2 with ⟨c1, -⟩ | ⟨c1, -⟩ | ⟨c1, -⟩ | ⟨c1, -⟩ | ⟨c1, -⟩ <;> omega
  · intro e
    rcases h.2.2.2.2.2.2.2.2.2 with ⟨c1, -⟩ | ⟨c1, c2, c3, c4, c5, -⟩ | ⟨c1, -⟩ | ⟨c1, -⟩ | ⟨c1, -⟩
    · omega
    · exact ⟨c3, c4, c5⟩
    · omega
    · omega
    · omega
theorem m_isW {n L k v a p : Nat} {w : List Nat} {rx rm : Nat → Int32} {wx wm : Nat → Int64} (h : tokR n L rx wx rm wm k v w a p) {j : Nat} (hj : j < 22) {c : Int64} (hc : c = lN (mv (resW j))) : fM_isWord rm wm c = decide (tW k w = j) := by
  obtain ⟨h1, h2, h3⟩ := tok_11 h
  unfold fM_isWord tW
  rw [h2]
  by_cases e : k = 1
  · obtain ⟨w1, w2, w3⟩ := h3 e
    rw [if_pos ((nI_k1 (by omega)).mpr e), if_pos e, w3, hc]
    by_cases e2 : w = resW j
    · rw [if_pos (lg_cmp0.mpr (by rw [e2])), decide_eq_true ((tW_eq hj).mpr e2)]
    · rw [if_neg (fun h => e2 ((mw_eq w1 (resW_ok j hj)).mp (lg_cmp0.mp h))), decide_eq_false (fun h => e2 ((tW_eq hj).mp h))]
  · rw [if_neg (fun h => e ((nI_k1 (by omega)).mp h)), if_neg e, decide_eq_false (by omega)]
theorem m_isName {n L k v a p : Nat} {w : List Nat} {rx rm : Nat → Int32} {wx wm rs : Nat → Int64} (h : tokR n L rx wx rm wm k v w a p) (hr : ∀ j, j < 22 → rs j = lN (mv (resW j))) : fM_isName rm wm rs = some (decide (k = 1 ∧ tW k w = 22)) := by
  obtain ⟨h1, h2, h3⟩ := tok_11 h
  have key0 : ∀ f j, f + j = 22 → zLP (fun s : Int32 × Int32 => fM_isName_L16 wm rs s.1 s.2) (0, nI j) = some 0 := by
    intro f
    induction f with
    | zero =>
      intro j hj
      refine zLP_out ?_
      show fM_isName_L16 wm rs 0 (nI j) = _
      unfold fM_isName_L16
      rw [if_pos (ze22 (by omega) (by omega))]
    | succ f ih =>
      intro j hj
      rw [← ih (j + 1) (by omega)]
      refine zLP_go ?_
      show fM_isName_L16 wm rs 0 (nI j) = _
      unfold fM_isName_L16
      rw [if_neg (zg22 (by omega)), if_pos rfl]
      simp only [zlet, nI_1]
  unfold fM_isName
  rw [h2]
  by_cases e : k = 1
  · obtain ⟨w1, w2, w3⟩ := h3 e
    have key1 : ∀ f j, f + j = 22 → zLP (fun s : Int32 × Int32 => fM_isName_L16 wm rs s.1 s.2) (1, nI j) = some (if ixF resW w f j = 22 then 1 else 0) := by
      intro f
      induction f with
      | zero =>
        intro j hj
        refine zLP_out ?_
        show fM_isName_L16 wm rs 1 (nI j) = _
        unfold fM_isName_L16
        rw [if_pos (ze22 (by omega) (by omega)), ixF, if_pos (by omega)]
      | succ f ih =>
        intro j hj
        have hb : fM_isName_L16 wm rs 1 (nI j) = some (.inl (zb (if lg_cmp (lN (mv w)) (lN (mv (resW j))) = 0 then false else true), nI (j + 1))) := by
          unfold fM_isName_L16
          rw [if_neg (zg22 (by omega)), if_neg (by decide), zrd_n (by omega) (by omega), hr j (by omega), w3]
          simp only [Option.bind_some, zlet, nI_1]
        rw [ixF]
        by_cases e2 : resW j = w
        · rw [if_pos (lg_cmp0.mpr (by rw [e2]))] at hb
          rw [if_pos e2, if_neg (by omega), ← key0 f (j + 1) (by omega)]
          exact zLP_go hb
        · rw [if_neg (fun h => e2 ((mw_eq w1 (resW_ok j (by omega))).mp (lg_cmp0.mp h)).symm)] at hb
          rw [if_neg e2, ← ih (j + 1) (by omega)]
          exact zLP_go hb
    have hz : zb (if nI k = 1 then true else false) = 1 := by rw [e]; decide
    rw [hz, show ((1 : Int32), (0 : Int32)) = (1, nI 0) from rfl, key1 22 0 rfl]
    simp only [Option.bind_some]
    have htw : tW k w = ixF resW w 22 0 := by unfold tW; rw [if_pos e]
    rw [htw]
    by_cases e3 : ixF resW w 22 0 = 22
    · rw [if_pos e3, decide_eq_true (show k = 1 ∧ ixF resW w 22 0 = 22 from ⟨e, e3⟩)]; rfl
    · rw [if_neg e3, decide_eq_false (show ¬ (k = 1 ∧ ixF resW w 22 0 = 22) from fun h => e3 h.2)]; rfl
  · have hz : zb (if nI k = 1 then true else false) = 0 := by rw [if_neg (fun h => e ((nI_k1 (by omega)).mp h))]; rfl
    rw [hz, show ((0 : Int32), (0 : Int32)) = (0, nI 0) from rfl, key0 22 0 rfl]
    simp only [Option.bind_some]
    rw [decide_eq_false (show ¬ (k = 1 ∧ tW k w = 22) from fun h => e h.1)]; rfl
/-! ## names -/
def nX (c : Nat) (N : Nat → List Nat) (r : Nat → Int64) : Prop := ∀ j, j < c → wOK (N j) ∧ r j = lN (cv (N j))
def nM (from_ c : Nat) (N : Nat → List Nat) (r : Nat → Int64) : Prop := ∀ j, j < c → r (from_ + j) = lN (mv (N j))
theorem x_cornerN {C : Nat} {N : Nat → List Nat} {w : List Nat} {r : Nat → Int32} {cn : Nat → Int64} (hC : C ≤ 8) (hr : r 4 = nI C) (hN : nX C N cn) (hw : wOK w) : fPl_cornerNamed r cn (lN (cv w)) = some (if ixF N w C 0 < C then nI (ixF N w C 0) else -1) := by
  have key : ∀ f j, f + j = C → zLP (fun s : Int32 => fPl_cornerNamed_L2 r cn (lN (cv w)) s) (nI j) = some (if ixF N w f j < C then nI (ixF N w f j) else -1) := by
    intro f
    induction f with
    | zero =>
      intro j hj
      refine zLP_out ?_
      unfold fPl_cornerNamed_L2
      rw [hr, if_pos (nI_le (by omega) (by omega)), ixF, if_neg (by omega)]
    | succ f ih =>
      intro j hj
      rw [ixF]
      by_cases e2 : N j = w
      · rw [if_pos e2, if_pos (by omega)]
        refine zLP_out ?_
        unfold fPl_cornerNamed_L2
        rw [hr, if_neg (nI_ge (by omega) (by omega)), if_neg (zg8 (by omega)), zrd_n (by omega) (by omega), (hN j (by omega)).2]
        simp only [Option.bind_some]
        rw [if_pos (lg_cmp0.mpr (by rw [e2]))]
      · rw [if_neg e2, ← ih (j + 1) (by omega)]
        refine zLP_go ?_
        unfold fPl_cornerNamed_L2
        rw [hr, if_neg (nI_ge (by omega) (by omega)), if_neg (zg8 (by omega)), zrd_n (by omega) (by omega), (hN j (by omega)).2]
        simp only [Option.bind_some]
        rw [if_neg (fun h => e2 ((cw_eq (hN j (by omega)).1 hw).mp (lg_cmp0.mp h)))]
        simp only [zlet, nI_1]
  exact key C 0 rfl
theorem x_personN {P : Nat} {N : Nat → List Nat} {w : List Nat} {r : Nat → Int32} {pn : Nat → Int64} (hP : P ≤ 6) (hr : r 6 = nI P) (hN : nX P N pn) (hw : wOK w) : fPl_personNamed r pn (lN (cv w)) = some (if ixF N w P 0 < P then nI (ixF N w P 0) else -1) := by
  have key : ∀ f j, f + j = P → zLP (fun s : Int32 => fPl_personNamed_L2 r pn (lN (cv w)) s) (nI j) = some (if ixF N w f j < P then nI (ixF N w f j) else -1) := by
    intro f
    induction f with
    | zero =>
      intro j hj
      refine zLP_out ?_
      unfold fPl_personNamed_L2
      rw [hr, if_pos (nI_le (by omega) (by omega)), ixF, if_neg (by omega)]
    | succ f ih =>
      intro j hj
      rw [ixF]
      by_cases e2 : N j = w
      · rw [if_pos e2, if_pos (by omega)]
        refine zLP_out ?_
        unfold fPl_personNamed_L2
        rw [hr, if_neg (nI_ge (by omega) (by omega)), if_neg (zg6 (by omega)), zrd_n (by omega) (by omega), (hN j (by omega)).2]
        simp only [Option.bind_some]
        rw [if_pos (lg_cmp0.mpr (by rw [e2]))]
      · rw [if_neg e2, ← ih (j + 1) (by omega)]
        refine zLP_go ?_
        unfold fPl_personNamed_L2
        rw [hr, if_neg (nI_ge (by omega) (by omega)), if_neg (zg6 (by omega)), zrd_n (by omega) (by omega), (hN j (by omega)).2]
        simp only [Option.bind_some]
        rw [if_neg (fun h => e2 ((cw_eq (hN j (by omega)).1 hw).mp (lg_cmp0.mp h)))]
        simp only [zlet, nI_1]
  exact key P 0 rfl
theorem m_seek {fr c : Nat} {N : Nat → List Nat} {w : List Nat} {wm nm : Nat → Int64} (hc : fr + c ≤ 28) (hO : ∀ j, j < c → wOK (N j)) (hN : nM fr c N nm) (hw : wOK w) (h17 : wm 17 = lN (mv w)) : fM_seek wm nm (nI fr) (nI c) = some (if ixF N w c 0 < c then nI (ixF N w c 0) else -1) := by
  have key : ∀ f j, f + j = c → zLP (fun s : Int32 => fM_seek_L2 wm nm (nI fr) (nI c) s) (nI j) = some (if ixF N w f j < c then nI (ixF N w f j) else -1) := by
    intro f
    induction f with
    | zero =>
      intro j hj
      refine zLP_out ?_
      unfold fM_seek_L2
      rw [if_pos (nI_le (by omega) (by omega)), ixF, if_neg (by omega)]
    | succ f ih =>
      intro j hj
      rw [ixF]
      by_cases e2 : N j = w
      · rw [if_pos e2, if_pos (by omega)]
        refine zLP_out ?_
        unfold fM_seek_L2
        rw [if_neg (nI_ge (by omega) (by omega)), nI_add, zrd_n (by omega) (by omega), hN j (by omega), h17]
        simp only [Option.bind_some]
        rw [if_pos (lg_cmp0.mpr (by rw [e2]))]
      · rw [if_neg e2, ← ih (j + 1) (by omega)]
        refine zLP_go ?_
        unfold fM_seek_L2
        rw [if_neg (nI_ge (by omega) (by omega)), nI_add, zrd_n (by omega) (by omega), hN j (by omega), h17]
        simp only [Option.bind_some]
        rw [if_neg (fun h => e2 ((mw_eq (hO j (by omega)) hw).mp (lg_cmp0.mp h)))]
        simp only [zlet, nI_1]
  exact key c 0 rfl
/-! ## behind a fault the class's reader stands -/
theorem d_good {rx : Nat → Int32} (h : ¬ rx 8 = 0) : fRd_isGood rx = false := by
  unfold fRd_isGood
  rw [if_neg h]
theorem d_go {rx tp tb : Nat → Int32} {wx : Nat → Int64} (h : ¬ rx 8 = 0) : fRd_goOn rx wx tp tb = some (rx, wx) := by
  unfold fRd_goOn
  rw [if_neg h]
theorem d_fail {rx : Nat → Int32} {x : Int32} (h : ¬ rx 8 = 0) : fRd_fail rx x = some rx := by
  unfold fRd_fail
  rw [if_neg h]
theorem d_told {rx : Nat → Int32} {wx tw : Nat → Int64} : ∃ v, fRd_toldWord rx wx tw = some v := by
  unfold fRd_toldWord
  by_cases e : rx 5 = 1
  · rw [if_pos e]
    obtain ⟨r, h1, -⟩ := zLP_inv (body := fun s : Int32 => fRd_toldWord_L10 wx tw s) (s := 0) (fun k t => t = nI k) (fun _ => True) 22 rfl (fun k t hk ht => by
      subst ht
      show (∃ t', fRd_toldWord_L10 wx tw (nI k) = _ ∧ _) ∨ (∃ r, fRd_toldWord_L10 wx tw (nI k) = _ ∧ _)
      unfold fRd_toldWord_L10
      rw [if_neg (zg22 hk), zrd_n (by omega) (by omega)]
      simp only [Option.bind_some]
      by_cases e2 : lg_cmp (tw k) (wx 6) = 0
      · rw [if_pos e2]; exact Or.inr ⟨_, rfl, trivial⟩
      · rw [if_neg e2]; exact Or.inl ⟨_, rfl, nI_1 k⟩) (fun t ht => by
      subst ht
      refine ⟨-1, ?_, trivial⟩
      show fRd_toldWord_L10 wx tw (nI 22) = _
      unfold fRd_toldWord_L10
      rw [if_pos (by decide)])
    exact ⟨r, h1⟩
  · rw [if_neg e]; exact ⟨_, rfl⟩
theorem d_name {rx : Nat → Int32} {wx tw : Nat → Int64} (h : ¬ rx 8 = 0) : fRd_needName rx wx tw = some (false, rx) := by
  unfold fRd_needName
  obtain ⟨v, hv⟩ := d_told (rx := rx) (wx := wx) (tw := tw)
  rw [hv, d_fail h]
  simp only [Option.bind_some, d_good h]
  by_cases e : rx 5 = 1
  · rw [if_pos e]
    by_cases e2 : v = -1
    · rw [if_pos e2]
    · rw [if_neg e2]
  · rw [if_neg e]
theorem d_corner {rx rp : Nat → Int32} {wx tw cn : Nat → Int64} (h : ¬ rx 8 = 0) : fRd_needCorner rx wx tw rp cn = some (-1, rx) := by
  unfold fRd_needCorner
  rw [d_name h]
  simp only [Option.bind_some, d_fail h, Bool.false_eq_true, if_false, if_true]
theorem d_person {rx rp : Nat → Int32} {wx tw pn : Nat → Int64} (h : ¬ rx 8 = 0) : fRd_needPerson rx wx tw rp pn = some (-1, rx) := by
  unfold fRd_needPerson
  rw [d_name h]
  simp only [Option.bind_some, d_fail h, Bool.false_eq_true, if_false, if_true]
theorem d_new {rx rp : Nat → Int32} {wx tw cn pn : Nat → Int64} (h : ¬ rx 8 = 0) : fPl_needNewName rp cn pn rx wx tw = some (false, rx) := by
  unfold fPl_needNewName
  rw [d_name h]
  simp only [Option.bind_some, d_good h, Bool.false_eq_true, if_false]
theorem d_number {rx tp tb : Nat → Int32} {wx : Nat → Int64} {a b : Int32} (h : ¬ rx 8 = 0) : fRd_takeNumber rx wx tp tb a b = some (rx 7, rx, wx) := by
  unfold fRd_takeNumber
  simp only [zlet, d_fail h, d_go h, Option.bind_some]
  by_cases e1 : rx 5 = 2
  · rw [if_pos e1]
    by_cases e2 : rx 7 < a
    · rw [if_pos e2]
    · rw [if_neg e2]
      by_cases e3 : rx 7 ≤ b
      · rw [if_pos e3]
      · rw [if_neg e3]
  · rw [if_neg e1]
theorem d_sign {rx tp tb : Nat → Int32} {wx : Nat → Int64} {a : Int32} (h : ¬ rx 8 = 0) : fRd_takeSign rx wx tp tb a = some (rx, wx) := by
  unfold fRd_takeSign
  simp only [d_fail h, d_go h, Option.bind_some]
  by_cases e1 : rx 5 = a
  · rw [if_pos e1]
  · rw [if_neg e1]
theorem d_comp {rx tp tb : Nat → Int32} {wx : Nat → Int64} (h : ¬ rx 8 = 0) : fRd_takeComparison rx wx tp tb = some (rx 5, rx, wx) := by
  unfold fRd_takeComparison
  simp only [zlet, d_fail h, d_go h, Option.bind_some]
  by_cases e1 : rx 5 = 60
  · rw [if_pos e1]
  · rw [if_neg e1]
    by_cases e2 : rx 5 = 61
    · rw [if_pos e2]
    · rw [if_neg e2]
      by_cases e3 : rx 5 = 62
      · rw [if_pos e3]
      · rw [if_neg e3]
