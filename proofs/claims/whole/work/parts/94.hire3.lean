/-! ===== the reference's table ===== -/
theorem zset_no {f : Nat → Bool} {n : Nat} (h : ∀ k, k < n → f k = false) : zset f n = 0 := zset_more (Nat.zero_le n) (fun k _ hk => h k hk)
theorem z_64 (a b : Nat) : (64 : Int32) * nI a + nI b = nI (64 * a + b) := by rw [show (64 : Int32) = nI 64 from rfl, nI_mul, nI_add]
theorem z_gr {a b : Nat} (ha : a < 2 ^ 31) (hb : b < 2 ^ 31) : fM_greater (nI a) (nI b) = nI (max a b) := by
  unfold fM_greater
  by_cases e : a ≤ b
  · rw [if_pos (nI_le e hb), show max a b = b by omega]
  · rw [if_neg (nI_ge (by omega) ha), show max a b = a by omega]
theorem nI_dn {k P : Nat} (h : k < P) : nI (P - k) - 1 = nI (P - k - 1) := nI_p1 (by omega)
theorem nI_dn1 {k P : Nat} (h : k < P) : nI (P - k - 1) + (-1) = nI (P - (k + 1)) - 1 := by rw [Int32.sub_eq_add_neg, show P - k - 1 = P - (k + 1) by omega]
section HM
variable {C P : Nat} {B : Nat → Nat} {A : aD} {rp bs far s ap : Nat → Int32}
theorem m_91 (d2 : sD P A s) {q : Nat} (hq : q < P) : s (91 + q) = nI (dW A 0 q) := d2.2.2.1 q 0 hq (by omega)
theorem m_could (G : gX C P B rp bs far) (M : gM C P B s ap) (d2 : sD P A s) (V : dV C P A) {n set : Nat} (hq : 5 - n < P) (hset : set < 64) :
    fM_couldBe s ap (nI (5 - n)) (nI set) = some (nI (zset (hO (kOk P A far) n set) P)) := by
  obtain ⟨hC, hP, hr, hB, hb, hf⟩ := id G
  have hA6 : ∀ r, r < 6 → dA A r ≤ 6 := fun r hr => by have := (V.2.1 r hr).1; omega
  have hM8 := dV_M V
  have hfl := dFol_lt A (5 - n)
  have hno : kHq P A (5 - n) = false → zset (hO (kOk P A far) n set) P = 0 := fun h => zset_no (fun k _ => by
    unfold hO kOk; rw [h, Bool.false_and, Bool.false_and, Bool.false_and])
  unfold fM_couldBe
  rw [z_145, zrd_n (by omega) (by omega), d2.2.2.2.2.2.2.2.1 (5 - n) (by omega), Option.bind_some]
  have h8 := hM8 (5 - n) (by omega)
  by_cases c1 : dM A (5 - n) = 0
  · rw [if_pos ((nI_e0 (by omega)).mpr c1), hno (by unfold kHq; exact decide_eq_false (fun q => q.2.1 c1))]; rfl
  · rw [if_neg (fun h => c1 ((nI_e0 (by omega)).mp h)), m_folOf d2 V hP M.1 (by omega), Option.bind_some]
    by_cases c2 : dFol A (5 - n) = 0
    · rw [if_pos ((nI_e0 (by omega)).mpr c2)]
      have hh : kHq P A (5 - n) = true := by unfold kHq; exact decide_eq_true ⟨hq, c1, c2⟩
      have k1 : zLP (fun t : Int32 × Int32 => fM_couldBe_L28 s ap (nI (5 - n)) (nI set) t.1 t.2) (0, 0) = some (nI (zset (hO (kOk P A far) n set) P)) := by
        refine zLP_cnt (fun k => (nI (zset (hO (kOk P A far) n set) k), nI k)) P rfl (fun k hk => ?_) ?_
        · show fM_couldBe_L28 s ap (nI (5 - n)) (nI set) (nI _) (nI k) = _
          unfold fM_couldBe_L28
          rw [M.1, if_neg (nI_ge hk (by omega)), m_idle d2 hA6 hM8 (by omega), Option.bind_some, zlet_e, zlet_e, nI_1, z_bo (by omega) (by omega), Int32.or_zero]
          show _ = some (Sum.inl (nI (zset _ k ||| if hO (kOk P A far) n set k = true then 2 ^ k else 0), nI (k + 1)))
          by_cases i1 : decide (dA A k = 0 ∧ dM A k = 0) = true
          · rw [if_pos i1]
            have hi : kId P A k = true := by unfold kId; exact decide_eq_true ⟨hk, of_decide_eq_true i1⟩
            by_cases i2 : set.testBit k = true
            · have ho : ¬ hO (kOk P A far) n set k = true := by unfold hO; rw [i2]; simp
              rw [if_pos i2, if_neg ho, Nat.or_zero]
            · have w1 := V.1 k 0 hk (by omega)
              have w2 := V.1 (5 - n) 0 hq (by omega)
              rw [if_neg i2, z_91, zrd_n (by omega) (by omega), m_91 d2 hk, Option.bind_some, z_91, zrd_n (by omega) (by omega), m_91 d2 hq, Option.bind_some, z_8mul, zrd_n (by omega) (by omega), Option.bind_some, zlet_e, zlet_e]
              rcases k_far G M w1 w2 with ⟨f1, f2⟩ | ⟨f1, j, f2, f3, f4⟩
              · have ho : ¬ hO (kOk P A far) n set k = true := by unfold hO kOk; rw [decide_eq_true f1]; simp
                rw [f2, if_pos (by decide), if_neg ho, Int32.or_zero, Nat.or_zero]
              · have ho : hO (kOk P A far) n set k = true := by unfold hO kOk; rw [hh, hi, decide_eq_false f1, Bool.eq_false_iff.mpr i2]; rfl
                rw [f4, if_neg (show ¬ (1000000 : Int32) ≤ nI j from nI_ge (b := 1000000) (by omega) (by omega)), if_pos ho, z_sh (by omega), z_or]
          · have ho : ¬ hO (kOk P A far) n set k = true := by
              unfold hO kOk kId
              rw [decide_eq_false (fun q : k < P ∧ dA A k = 0 ∧ dM A k = 0 => i1 (decide_eq_true q.2))]; simp
            rw [if_neg i1, if_neg ho, Nat.or_zero]
        · show fM_couldBe_L28 s ap (nI (5 - n)) (nI set) (nI _) (nI P) = _
          unfold fM_couldBe_L28
          rw [M.1, if_pos (nI_le (Nat.le_refl _) (by omega))]
      rw [k1, Option.bind_some]
    · rw [if_neg (fun h => c2 ((nI_e0 (by omega)).mp h)), hno (by unfold kHq; exact decide_eq_false (fun q => c2 q.2.2))]; rfl
theorem m_worthN {wo : Nat → Int32} {n set : Nat} (hn : n ≤ 5) (hset : set < 64) : fM_worthBy s ap wo (nI (5 - n)) (nI set) (-1) = some (wo (64 * (6 - n) + set)) := by
  unfold fM_worthBy
  rw [if_neg (by decide), nI_1, z_64, zrd_n (by omega) (by omega), Option.bind_some, show 5 - n + 1 = 6 - n by omega]
theorem m_worthR (G : gX C P B rp bs far) (M : gM C P B s ap) (d2 : sD P A s) (V : dV C P A) {wo : Nat → Int32} {n set r : Nat} (hn : n ≤ 5) (hq : 5 - n < P) (hset : set < 64) (hr : r < P) (ho : hO (kOk P A far) n set r = true) (hw : wo (64 * (6 - n) + (set ||| 2 ^ r)) = nI (hW (kOk P A far) (kDd A far) n (set ||| 2 ^ r))) :
    fM_worthBy s ap wo (nI (5 - n)) (nI set) (nI r) = some (nI (hV (kOk P A far) (kDd A far) n set r)) := by
  have hP := G.2.1
  have hC := G.1
  have w1 := V.1 r 0 hr (by omega)
  have w2 := V.1 (5 - n) 0 hq (by omega)
  have hs := or_lt64 hset (show r < 6 by omega)
  unfold fM_worthBy
  rw [if_pos (nI_pos' (by omega)), z_91, zrd_n (by omega) (by omega), m_91 d2 hr, Option.bind_some, z_91, zrd_n (by omega) (by omega), m_91 d2 hq, Option.bind_some, z_8mul, zrd_n (by omega) (by omega), Option.bind_some, z_sh (by omega), z_or, nI_1, z_64, show 5 - n + 1 = 6 - n by omega, zrd_n (by omega) (by omega), hw, Option.bind_some]
  unfold hO kOk at ho
  simp only [Bool.and_eq_true, Bool.not_eq_true', decide_eq_false_iff_not] at ho
  rcases k_far G M w1 w2 with ⟨f1, f2⟩ | ⟨f1, j, f2, f3, f4⟩
  · exact absurd f1 ho.1.2
  · have hd : kDd A far (5 - n) r = j := by unfold kDd; rw [f3, nI_clamp (by omega)]
    rw [f4]
    unfold hV
    rw [hd, show (1000 : Int32) - nI j = nI (1000 - j) from nI_sub (a := 1000) (by omega), nI_add]
/-- one place of the table -/
theorem m_bestW (G : gX C P B rp bs far) (M : gM C P B s ap) (d2 : sD P A s) (V : dV C P A) {wo : Nat → Int32} {n set : Nat} (hn : n ≤ 5) (hq : 5 - n < P) (hset : set < 64) (hw : ∀ set, set < 64 → wo (64 * (6 - n) + set) = nI (hW (kOk P A far) (kDd A far) n set)) :
    zLP (fun t : Int32 × Int32 => fM_hires_L76 s ap (nI (5 - n)) wo (nI set) (nI (zset (hO (kOk P A far) n set) P)) t.1 t.2) (nI (hW (kOk P A far) (kDd A far) n set), 0) = some (nI (hW (kOk P A far) (kDd A far) (n + 1) set)) := by
  have hP := G.2.1
  have hz : zset (hO (kOk P A far) n set) P < 64 := Nat.lt_of_lt_of_le (zset_lt _ _) (Nat.pow_le_pow_right (by omega) hP : 2 ^ P ≤ 2 ^ 6)
  have hW1 : ∀ set, hW (kOk P A far) (kDd A far) n set ≤ 5000 := fun set => by have := hV_le (ok := kOk P A far) (dd := kDd A far) n set; omega
  have hV1 : ∀ r, hV (kOk P A far) (kDd A far) n set r ≤ 6000 := fun r => by have := hW1 (set ||| 2 ^ r); unfold hV; omega
  have hM1 : ∀ k, (hMF (hV (kOk P A far) (kDd A far) n set) (hO (kOk P A far) n set) k).1 ≤ 6000 := fun k => by
    by_cases e : (hMF (hV (kOk P A far) (kDd A far) n set) (hO (kOk P A far) n set) k).1 = 0
    · omega
    · rw [← ((hMF_sp (v := hV (kOk P A far) (kDd A far) n set) (o := hO (kOk P A far) n set) k).2 e).2.2.1]; exact hV1 _
  have hX6 : hX (kOk P A far) (kDd A far) n set = hMF (hV (kOk P A far) (kDd A far) n set) (hO (kOk P A far) n set) P := hMF_more hP (fun k hk _ => by
    unfold hO kOk kId
    rw [decide_eq_false (fun q : k < P ∧ dA A k = 0 ∧ dM A k = 0 => absurd q.1 (by omega))]; simp)
  rw [hW_s, hX6]
  refine zLP_cnt (fun k => (nI (max (hMF (hV (kOk P A far) (kDd A far) n set) (hO (kOk P A far) n set) k).1 (hW (kOk P A far) (kDd A far) n set)), nI k)) P ?_ (fun k hk => ?_) ?_
  · show (_, _) = (nI (max 0 (hW (kOk P A far) (kDd A far) n set)), nI 0)
    rw [Nat.zero_max]; rfl
  · show fM_hires_L76 s ap (nI (5 - n)) wo (nI set) (nI (zset (hO (kOk P A far) n set) P)) (nI _) (nI k) = _
    unfold fM_hires_L76
    rw [M.1, if_neg (nI_ge hk (by omega)), z_bo (by omega) (by omega), zset_tb, decide_eq_true hk, Bool.true_and, zlet_e, nI_1]
    have h1 := hM1 k
    have h2 := hW1 set
    have h3 := hV1 k
    by_cases c : hO (kOk P A far) n set k = true
    · rw [if_pos c, m_worthR G M d2 V hn hq hset hk c (hw _ (or_lt64 hset (by omega))), Option.bind_some, zlet_e, zlet_e, z_gr (by omega) (by omega)]
      have E : max (hMF (hV (kOk P A far) (kDd A far) n set) (hO (kOk P A far) n set) (k + 1)).1 (hW (kOk P A far) (kDd A far) n set) = max (max (hMF (hV (kOk P A far) (kDd A far) n set) (hO (kOk P A far) n set) k).1 (hW (kOk P A far) (kDd A far) n set)) (hV (kOk P A far) (kDd A far) n set k) := by
        rw [hMF]
        by_cases w : (hMF (hV (kOk P A far) (kDd A far) n set) (hO (kOk P A far) n set) k).1 < hV (kOk P A far) (kDd A far) n set k
        · rw [if_pos ⟨c, w⟩]; dsimp only; omega
        · rw [if_neg (fun q => w q.2)]; omega
      rw [E]
    · have E : hMF (hV (kOk P A far) (kDd A far) n set) (hO (kOk P A far) n set) (k + 1) = hMF (hV (kOk P A far) (kDd A far) n set) (hO (kOk P A far) n set) k := by rw [hMF, if_neg (fun q => c q.1)]
      rw [if_neg c, E]
  · show fM_hires_L76 s ap (nI (5 - n)) wo (nI set) (nI (zset (hO (kOk P A far) n set) P)) (nI _) (nI P) = _
    unfold fM_hires_L76
    rw [M.1, if_pos (nI_le (Nat.le_refl _) (by omega))]
theorem m_row (G : gX C P B rp bs far) (M : gM C P B s ap) (d2 : sD P A s) (V : dV C P A) {wo : Nat → Int32} {n : Nat} (hn : n ≤ 5) (hq : 5 - n < P) (hw : ∀ set, set < 64 → wo (64 * (6 - n) + set) = nI (hW (kOk P A far) (kDd A far) n set)) :
    ∃ wo', zLP (fun t : (Nat → Int32) × Int32 => fM_hires_L51 s ap (nI (5 - n)) t.1 t.2) (wo, 0) = some wo' ∧ (∀ set, set < 64 → wo' (64 * (5 - n) + set) = nI (hW (kOk P A far) (kDd A far) (n + 1) set)) ∧ ∀ j, 64 * (6 - n) ≤ j → wo' j = wo j := by
  have hP := G.2.1
  refine zLP_inv (fun k t => t.2 = nI k ∧ (∀ set, set < k → t.1 (64 * (5 - n) + set) = nI (hW (kOk P A far) (kDd A far) (n + 1) set)) ∧ ∀ j, 64 * (6 - n) ≤ j → t.1 j = wo j) _ 64 ⟨rfl, fun _ h => absurd h (by omega), fun _ _ => rfl⟩ ?_ ?_
  · rintro k ⟨t1, t2⟩ hk ⟨e1, e2, e3⟩
    dsimp only at e1 e2 e3
    left
    have hw' : ∀ set, set < 64 → t1 (64 * (6 - n) + set) = nI (hW (kOk P A far) (kDd A far) n set) := fun set h => (e3 _ (by omega)).trans (hw set h)
    refine ⟨(zup t1 (64 * (5 - n) + k) (nI (hW (kOk P A far) (kDd A far) (n + 1) k)), nI (k + 1)), ?_, rfl, fun set h => ?_, fun j hj => ?_⟩
    · show fM_hires_L51 s ap (nI (5 - n)) t1 t2 = _
      unfold fM_hires_L51
      rw [e1, if_neg (zg64 hk), m_worthN hn hk, Option.bind_some, m_could G M d2 V hq hk, Option.bind_some, hw' k hk, m_bestW G M d2 V hn hq hk hw', Option.bind_some, z_64, zwr_n (by omega) (by omega), Option.bind_some, zlet_e, nI_1]
    · show zup t1 (64 * (5 - n) + k) _ (64 * (5 - n) + set) = _
      by_cases e : set = k
      · rw [e, zup_s]
      · rw [zup_n (by omega)]; exact e2 set (by omega)
    · show zup t1 (64 * (5 - n) + k) _ j = _
      rw [zup_n (by omega)]; exact e3 j hj
  · rintro ⟨t1, t2⟩ ⟨e1, e2, e3⟩
    dsimp only at e1 e2 e3
    refine ⟨t1, ?_, e2, e3⟩
    show fM_hires_L51 s ap (nI (5 - n)) t1 t2 = _
    unfold fM_hires_L51
    rw [e1, if_pos (by decide)]
theorem hW_out {ok : Nat → Nat → Bool} {dd : Nat → Nat → Nat} (hk : ∀ p r, P ≤ p → ok p r = false) : ∀ n set, P ≤ 6 - n → n ≤ 6 → hW ok dd n set = 0 := by
  intro n
  induction n with
  | zero => intro set _ _; rfl
  | succ n ih =>
    intro set h1 h2
    rw [hW_s, hX_no (fun r _ => hk (5 - n) r (by omega)), ih set (by omega) (by omega)]; rfl
theorem kOk_out {p r : Nat} (h : P ≤ p) : kOk P A far p r = false := by
  unfold kOk kHq
  rw [decide_eq_false (fun q : p < P ∧ dM A p ≠ 0 ∧ dFol A p = 0 => absurd q.1 (by omega))]; rfl
theorem m_table (G : gX C P B rp bs far) (M : gM C P B s ap) (d2 : sD P A s) (V : dV C P A) {wo : Nat → Int32} :
    ∃ w1 wo', zLP (fun t : (Nat → Int32) × Int32 => fM_hires_L7 s t.1 t.2) (wo, 0) = some w1 ∧ zLP (fun t : (Nat → Int32) × Int32 => fM_hires_L45 s ap t.1 t.2) (w1, nI P - 1) = some wo' ∧ ∀ q set, q ≤ P → set < 64 → wo' (64 * q + set) = nI (hW (kOk P A far) (kDd A far) (6 - q) set) := by
  have hP := G.2.1
  obtain ⟨w1, k1, k2⟩ : ∃ w1, zLP (fun t : (Nat → Int32) × Int32 => fM_hires_L7 s t.1 t.2) (wo, 0) = some w1 ∧ ∀ set, set < 64 → w1 (64 * P + set) = 0 := by
    refine zLP_inv (fun k t => t.2 = nI k ∧ ∀ set, set < k → t.1 (64 * P + set) = 0) _ 64 ⟨rfl, fun _ h => absurd h (by omega)⟩ ?_ ?_
    · rintro k ⟨t1, t2⟩ hk ⟨e1, e2⟩
      dsimp only at e1 e2
      left
      refine ⟨(zup t1 (64 * P + k) 0, nI (k + 1)), ?_, rfl, fun set h => ?_⟩
      · show fM_hires_L7 s t1 t2 = _
        unfold fM_hires_L7
        rw [e1, if_neg (zg64 hk), M.1, z_64, zwr_n (by omega) (by omega), Option.bind_some, zlet_e, nI_1]
      · show zup t1 (64 * P + k) 0 (64 * P + set) = 0
        by_cases e : set = k
        · rw [e, zup_s]
        · rw [zup_n (by omega)]; exact e2 set (by omega)
    · rintro ⟨t1, t2⟩ ⟨e1, e2⟩
      dsimp only at e1 e2
      refine ⟨t1, ?_, e2⟩
      show fM_hires_L7 s t1 t2 = _
      unfold fM_hires_L7
      rw [e1, if_pos (by decide)]
  refine ⟨w1, ?_⟩
  obtain ⟨wo', j1, j2⟩ : ∃ wo', zLP (fun t : (Nat → Int32) × Int32 => fM_hires_L45 s ap t.1 t.2) (w1, nI P - 1) = some wo' ∧ ∀ q set, q ≤ P → set < 64 → wo' (64 * q + set) = nI (hW (kOk P A far) (kDd A far) (6 - q) set) := by
    refine zLP_inv (fun k t => t.2 = nI (P - k) - 1 ∧ ∀ q set, P - k ≤ q → q ≤ P → set < 64 → t.1 (64 * q + set) = nI (hW (kOk P A far) (kDd A far) (6 - q) set)) _ P ⟨rfl, fun q set h1 h2 h3 => ?_⟩ ?_ ?_
    · have e : q = P := by omega
      rw [e]
      show w1 (64 * P + set) = _
      rw [k2 set h3, hW_out (P := P) (fun p r h => kOk_out h) (6 - P) set (by omega) (by omega)]; rfl
    · rintro k ⟨t1, t2⟩ hk ⟨e1, e2⟩
      dsimp only at e1 e2
      left
      have hn : 5 - (5 - (P - k - 1)) = P - k - 1 := by omega
      have hn6 : 6 - (5 - (P - k - 1)) = P - k := by omega
      obtain ⟨w2, g1, g2, g3⟩ := m_row (wo := t1) (n := 5 - (P - k - 1)) G M d2 V (by omega) (by omega) (fun set h => by
        rw [hn6, e2 (P - k) set (by omega) (by omega) h, show 6 - (P - k) = 5 - (P - k - 1) by omega])
      rw [hn] at g1 g2
      rw [hn6] at g3
      refine ⟨(w2, nI (P - (k + 1)) - 1), ?_, rfl, fun q set h1 h2 h3 => ?_⟩
      · show fM_hires_L45 s ap t1 t2 = _
        unfold fM_hires_L45
        rw [e1, nI_dn hk, if_neg (nI_pos (by omega)), g1, Option.bind_some, zlet_e, nI_dn1 hk]
      · show w2 (64 * q + set) = _
        by_cases e : q = P - k - 1
        · rw [e, g2 set h3, show 6 - (P - k - 1) = 5 - (P - k - 1) + 1 by omega]
        · rw [g3 _ (by omega)]; exact e2 q set (by omega) h2 h3
    · rintro ⟨t1, t2⟩ ⟨e1, e2⟩
      dsimp only at e1 e2
      refine ⟨t1, ?_, fun q set h1 h2 => e2 q set (by omega) h1 h2⟩
      show fM_hires_L45 s ap t1 t2 = _
      unfold fM_hires_L45
      rw [e1, show P - P = 0 by omega, if_pos (by decide)]
  exact ⟨wo', k1, j1, j2⟩
end HM
