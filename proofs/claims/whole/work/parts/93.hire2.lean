/-! ===== the class's search, whole ===== -/
section HU
variable {ok : Nat → Nat → Bool} {dd : Nat → Nat → Nat} {hq id_ : Nat → Bool} {rp far pl le lf : Nat → Int32}
/-- p hires nobody: what comes behind the loop -/
theorem x_tryN {F : hRec} {n : Nat} (hn : n ≤ 5) (T : hTry ok dd id_ rp far pl le lf F n) {set m pairs fr kb : Nat} {tr ch t1 t2 t3 : Nat → Int32} (hset : set < 64) (hm : m < 64) (hmb : ∀ r, r < 6 → m.testBit r = (id_ r && !set.testBit r)) (hp : pairs + (n + 1) ≤ 6) (hfr : fr ≤ 7 * pairs) (L : hLoop ok dd n set (1000 * pairs - fr) kb 6 tr ch t1 t2 t3) :
    ∃ r0' tr' ch', ((zwr t2 6 (nI (5 - n)) (-1)).bind (fun (r0_0v6 : Nat → Int32) => (F t1 r0_0v6 t3 rp far pl le lf (nI (5 - n) + 1) (nI m) (nI pairs) (nI fr)).bind (fun (y7 : (Nat → Int32) × (Nat → Int32) × (Nat → Int32)) => some (y7.1, y7.2.1, y7.2.2)))) = some (r0', tr', ch') ∧ (∀ i, i < 5 - n → tr' i = tr i) ∧
      ((1000 * pairs - fr + hW ok dd (n + 1) set < kb ∧ bBt kb r0' ∧ ∀ i, i < 6 → ch' i = ch i) ∨ (kb ≤ 1000 * pairs - fr + hW ok dd (n + 1) set ∧ bBt (1000 * pairs - fr + hW ok dd (n + 1) set + 1) r0' ∧ ∀ i, i < 6 → ch' i = if i < 5 - n then tr i else hG ok dd (n + 1) set i)) := by
  obtain ⟨l1, l2⟩ := L
  obtain ⟨kb1, hb1, hst⟩ : ∃ kb1, bBt kb1 t1 ∧ ((((hX ok dd n set).1 = 0 ∨ 1000 * pairs - fr + (hX ok dd n set).1 < kb) ∧ kb1 = kb ∧ ∀ i, i < 6 → t3 i = ch i) ∨ ((hX ok dd n set).1 ≠ 0 ∧ kb ≤ 1000 * pairs - fr + (hX ok dd n set).1 ∧ kb1 = 1000 * pairs - fr + (hX ok dd n set).1 + 1 ∧ ∀ i, i < 6 → t3 i = if i < 5 - n then tr i else if i = 5 - n then nI (hX ok dd n set).2 else hG ok dd n (set ||| 2 ^ (hX ok dd n set).2) i)) := by
    rcases l2 with ⟨a1, a2, a3⟩ | ⟨a1, a2, a3, a4⟩
    · exact ⟨kb, a2, Or.inl ⟨a1, rfl, a3⟩⟩
    · exact ⟨_, a3, Or.inr ⟨a1, a2, rfl, a4⟩⟩
  obtain ⟨r0', tr', ch', f1, f2, f3⟩ := T set m pairs fr kb1 t1 (zup t2 (5 - n) (-1)) t3 hset hm hmb (by omega) hfr hb1
  rw [zwr_n (by omega) (by omega), Option.bind_some, nI_1, show 5 - n + 1 = 6 - n by omega, f1, Option.bind_some]
  refine ⟨r0', tr', ch', rfl, fun i hi => ?_, ?_⟩
  · rw [f2 i (by omega), zup_n (by omega)]; exact l1 i hi
  · rw [hW_s]
    by_cases A : (hX ok dd n set).1 = 0 ∨ (hX ok dd n set).1 < hW ok dd n set
    · have hc : hC ok dd n set = none := by unfold hC; rw [if_pos A]
      have hmx : max (hX ok dd n set).1 (hW ok dd n set) = hW ok dd n set := by omega
      rw [hmx]
      rcases f3 with ⟨g1, g2, g3⟩ | ⟨g1, g2, g3⟩
      · left
        rcases hst with ⟨b1, b2, b3⟩ | ⟨b1, b2, b3, b4⟩
        · exact ⟨by omega, b2 ▸ g2, fun i hi => (g3 i hi).trans (b3 i hi)⟩
        · omega
      · right
        refine ⟨?_, g2, fun i hi => ?_⟩
        · rcases hst with ⟨b1, b2, b3⟩ | ⟨b1, b2, b3, b4⟩ <;> omega
        · rw [g3 i hi]
          by_cases i1 : i < 5 - n
          · rw [if_pos (by omega), if_pos i1, zup_n (by omega)]; exact l1 i i1
          · rw [if_neg i1, hG, hc]
            by_cases i2 : i = 5 - n
            · rw [if_pos (by omega), if_pos i2, i2, zup_s]; rfl
            · rw [if_neg (by omega), if_neg i2]; rfl
    · have hc : hC ok dd n set = some (hX ok dd n set).2 := by unfold hC; rw [if_neg A]
      have hmx : max (hX ok dd n set).1 (hW ok dd n set) = (hX ok dd n set).1 := by omega
      rw [hmx]
      rcases hst with ⟨b1, b2, b3⟩ | ⟨b1, b2, b3, b4⟩
      · left
        rcases f3 with ⟨g1, g2, g3⟩ | ⟨g1, g2, g3⟩
        · exact ⟨by omega, b2 ▸ g2, fun i hi => (g3 i hi).trans (b3 i hi)⟩
        · omega
      · right
        rcases f3 with ⟨g1, g2, g3⟩ | ⟨g1, g2, g3⟩
        · refine ⟨b2, b3 ▸ g2, fun i hi => ?_⟩
          rw [g3 i hi, b4 i hi, hG, hc]; rfl
        · omega
theorem x_try (Q : hAsk ok dd hq id_ rp far pl le lf) : ∀ n, n ≤ 6 → hTry ok dd id_ rp far pl le lf (fPr_tryFrom (n + 2)) n := by
  intro n
  induction n with
  | zero =>
    intro _ set m pairs fr kb r0 tr ch hset hm hmb hp hfr hb
    obtain ⟨r0', ch', k1, k2⟩ := x_better (tr := tr) (ch := ch) (by omega) hfr hb
    refine ⟨r0', tr, ch', ?_, fun _ _ => rfl, ?_⟩
    · show fPr_tryFromB (fPr_tryFrom 1) r0 tr ch rp far pl le lf (nI 6) (nI m) (nI pairs) (nI fr) = _
      unfold fPr_tryFromB
      rw [if_neg (by decide), k1, Option.bind_some]
    · rcases k2 with ⟨g1, g2, g3⟩ | ⟨g1, g2, g3⟩
      · exact Or.inl ⟨g1, g2, g3⟩
      · exact Or.inr ⟨g1, g2, fun i hi => by rw [if_pos (by omega)]; exact g3 i hi⟩
  | succ n ih =>
    intro hn set m pairs fr kb r0 tr ch hset hm hmb hp hfr hb
    have T := ih (by omega)
    have h0 : hq (5 - n) = false → hLoop ok dd n set (1000 * pairs - fr) kb 6 tr ch r0 tr ch := fun h => by
      have hx : hMF (hV ok dd n set) (hO ok n set) 6 = (0, 0) := hX_no (ok := ok) (dd := dd) (n := n) (set := set) (fun r _ => by
        cases c : ok (5 - n) r with
        | false => rfl
        | true => rw [(Q.2.2 _ _ c).1] at h; cases h)
      exact ⟨fun _ _ => rfl, Or.inl ⟨Or.inl (by rw [hx]), hb, fun _ _ => rfl⟩⟩
    obtain ⟨y, q1, q2, q3⟩ := Q.1 (5 - n) (by omega)
    have hp1 : 6 - (n + 1) = 5 - n := by omega
    rw [hp1]
    show ∃ r0' tr' ch', fPr_tryFromB (fPr_tryFrom (n + 2)) r0 tr ch rp far pl le lf (nI (5 - n)) (nI m) (nI pairs) (nI fr) = some (r0', tr', ch') ∧ _
    unfold fPr_tryFromB
    rw [if_pos (show nI (5 - n) < 6 from nI_lt (b := 6) (by omega) (by omega)), q1, Option.bind_some, zlet_e]
    by_cases c : y ≤ 0
    · rw [if_pos c]
      exact x_tryN (by omega) T hset hm hmb (by omega) hfr (h0 (q2 c))
    · obtain ⟨z, z1, z2, z3⟩ := q3 c
      rw [if_neg c, z1, Option.bind_some]
      by_cases d : z = 0
      · obtain ⟨⟨v1, v2, v3⟩, k1, k2⟩ := x_tryL (n := n) (by omega) Q T hset hm hmb (by omega) hfr hb (z2 d) (tr := tr) (ch := ch)
        dsimp only at k2
        rw [if_pos d, k1, Option.bind_some]
        exact x_tryN (by omega) T hset hm hmb (by omega) hfr k2
      · rw [if_neg d]
        exact x_tryN (by omega) T hset hm hmb (by omega) hfr (h0 (z3 d))
end HU
/-! what is asked, of a day -/
def kHq (P : Nat) (A : aD) (p : Nat) : Bool := decide (p < P ∧ dM A p ≠ 0 ∧ dFol A p = 0)
def kId (P : Nat) (A : aD) (r : Nat) : Bool := decide (r < P ∧ dA A r = 0 ∧ dM A r = 0)
def kOk (P : Nat) (A : aD) (far : Nat → Int32) (p r : Nat) : Bool := kHq P A p && kId P A r && !decide (far (8 * dW A 0 r + dW A 0 p) = -1)
def kDd (A : aD) (far : Nat → Int32) (p r : Nat) : Nat := (far (8 * dW A 0 r + dW A 0 p)).toNatClampNeg
section HV
variable {C P : Nat} {B : Nat → Nat} {A : aD} {rp bs far f pl bu le di wa lf ly pr s ap : Nat → Int32}
theorem k_far (G : gX C P B rp bs far) (M : gM C P B s ap) {c d : Nat} (hc : c < C) (hd : d < C) : (far (8 * c + d) = -1 ∧ ap (8 * c + d) = nI 1000000) ∨ (¬ far (8 * c + d) = -1 ∧ ∃ k, k < 8 ∧ far (8 * c + d) = nI k ∧ ap (8 * c + d) = nI k) := by
  rcases G.2.2.2.2.2 c d hc hd with ⟨k, k1, k2, k3⟩ | ⟨h1, h2⟩
  · right
    refine ⟨by rw [k2]; exact nI_nm1 (by omega), k, k1, k2, ?_⟩
    rcases M.2.2 c d hc hd with ⟨j, j1, j2, j3⟩ | ⟨j1, j2⟩
    · rw [j2, p_D_uni k3 j3]
    · exact absurd k3.1 (j2 k)
  · left
    refine ⟨h1, ?_⟩
    rcases M.2.2 c d hc hd with ⟨j, j1, j2, j3⟩ | ⟨j1, j2⟩
    · exact absurd j3.1 (h2 j)
    · exact j1
theorem k_ask (G : gX C P B rp bs far) (D : dX P A f pl bu le di wa lf ly pr) (V : dV C P A) : hAsk (kOk P A far) (kDd A far) (kHq P A) (kId P A) rp far pl le lf := by
  obtain ⟨hC, hP, hr, hB, hb, hf⟩ := id G
  have hA6 : ∀ r, r < 6 → dA A r ≤ 6 := fun r hr => by have := (V.2.1 r hr).1; omega
  have hfar : ∀ p r, kOk P A far p r = true → ∃ k, k < 8 ∧ far (8 * dW A 0 r + dW A 0 p) = nI k := fun p r h => by
    unfold kOk kHq kId at h
    simp only [Bool.and_eq_true, decide_eq_true_eq, Bool.not_eq_true', decide_eq_false_iff_not] at h
    obtain ⟨⟨⟨p1, -, -⟩, ⟨r1, -, -⟩⟩, h2⟩ := h
    rcases hf _ _ (V.1 r 0 r1 (by omega)) (V.1 p 0 p1 (by omega)) with ⟨k, k1, k2, k3⟩ | ⟨h3, -⟩
    · exact ⟨k, k1, k2⟩
    · exact absurd h3 h2
  refine ⟨fun p hp => ?_, fun p r hp hr6 h1 h2 => ?_, fun p r h => ?_⟩
  · have hM := V.2.2.1 p hp
    refine ⟨lf p, x_way hp, fun h => ?_, fun h => ⟨_, x_folOf D.2.2.2.2.1 hp hA6, fun h2 => ?_, fun h2 => ?_⟩⟩
    · rw [D.2.2.2.2.2.2.2.1 p hp] at h
      have := (nI_le0 (by omega)).mp h
      unfold kHq
      exact decide_eq_false (fun q => q.2.1 this)
    · rw [D.2.2.2.2.2.2.2.1 p hp] at h
      have h3 : dM A p ≠ 0 := fun q => h ((nI_le0 (by omega)).mpr q)
      have hfl := dFol_lt A p
      unfold kHq
      exact decide_eq_true ⟨hM.2 h3, h3, (nI_e0 (by omega)).mp h2⟩
    · have hfl := dFol_lt A p
      unfold kHq
      exact decide_eq_false (fun q => h2 ((nI_e0 (by omega)).mpr q.2.2))
  · unfold kHq at h1
    unfold kId at h2
    have p1 := (of_decide_eq_true h1).1
    have r1 := (of_decide_eq_true h2).1
    have w1 := V.1 r 0 r1 (by omega)
    have w2 := V.1 p 0 p1 (by omega)
    have e1 : pl (6 * r) = nI (dW A 0 r) := by have := D.2.2.1 r 0 hr6 (by omega); rw [if_pos r1] at this; exact this
    have e2 : pl (6 * p) = nI (dW A 0 p) := by have := D.2.2.1 p 0 hp (by omega); rw [if_pos p1] at this; exact this
    refine ⟨_, _, x_whe hr6, x_whe hp, ?_⟩
    rw [e1, e2]
    unfold fPl_farFrom
    rw [p_hasCorner hC hr, p_hasCorner hC hr, p_has_y (by omega) w1, p_has_y (by omega) w2, if_pos rfl, if_pos rfl, z_mul8, zrd_n (by omega) (by omega), Option.bind_some]
    by_cases c : kOk P A far p r = true
    · rw [if_pos c]
      obtain ⟨k, k1, k2⟩ := hfar p r c
      unfold kDd
      rw [k2, nI_clamp (by omega)]
    · rw [if_neg c]
      unfold kOk kHq kId at c
      rw [h1, h2] at c
      simp only [Bool.true_and, Bool.not_eq_true', decide_eq_false_iff_not, Classical.not_not] at c
      rw [c]
  · obtain ⟨k, k1, k2⟩ := hfar p r h
    unfold kOk at h
    rw [Bool.and_eq_true, Bool.and_eq_true] at h
    refine ⟨h.1.1, h.1.2, ?_⟩
    unfold kDd
    rw [k2, nI_clamp (by omega)]; omega
theorem x_hires {r0 tr ch : Nat → Int32} (G : gX C P B rp bs far) (r6 : rp 6 = nI P) (D : dX P A f pl bu le di wa lf ly pr) (V : dV C P A) :
    ∃ r0' tr' ch', fX_hires rp far pl le lf r0 tr ch = some (r0' 2, r0', tr', ch') ∧ bBt (hW (kOk P A far) (kDd A far) 6 0 + 1) r0' ∧ ∀ i, i < 6 → ch' i = hG (kOk P A far) (kDd A far) 6 0 i := by
  obtain ⟨hC, hP, hr, hB, hb, hf⟩ := id G
  have hA6 : ∀ r, r < 6 → dA A r ≤ 6 := fun r hr => by have := (V.2.1 r hr).1; omega
  have hM8 := dV_M V
  have k1 : zLP (fun s : Int32 × Int32 => fPr_choose_L5 rp le lf s.1 s.2) (0, 0) = some (nI (zset (fun r => decide (dA A r = 0 ∧ dM A r = 0)) P)) := by
    refine zLP_cnt (fun k => (nI (zset (fun r => decide (dA A r = 0 ∧ dM A r = 0)) k), nI k)) P rfl (fun k hk => ?_) ?_
    · show fPr_choose_L5 rp le lf (nI _) (nI k) = _
      unfold fPr_choose_L5 fPl_persons
      rw [r6, if_neg (nI_ge hk (by omega)), x_idle D.2.2.2.2.1 D.2.2.2.2.2.2.2.1 hA6 hM8 (by omega), Option.bind_some, zlet_e, zlet_e, zlet_e, nI_1, z_sh (by omega), z_or]
      show _ = some (Sum.inl (nI (zset _ k ||| if decide (dA A k = 0 ∧ dM A k = 0) = true then 2 ^ k else 0), nI (k + 1)))
      by_cases c : decide (dA A k = 0 ∧ dM A k = 0) = true
      · rw [if_pos c, if_pos c]
      · rw [if_neg c, if_neg c, Nat.or_zero]
    · show fPr_choose_L5 rp le lf (nI _) (nI P) = _
      unfold fPr_choose_L5 fPl_persons
      rw [r6, if_pos (nI_le (Nat.le_refl _) (by omega))]
  have hz : zset (fun r => decide (dA A r = 0 ∧ dM A r = 0)) P < 64 := Nat.lt_of_lt_of_le (zset_lt _ _) (Nat.pow_le_pow_right (by omega) hP : 2 ^ P ≤ 2 ^ 6)
  obtain ⟨r0', tr', ch', e1, e2, e3⟩ := x_try (k_ask G D V) 6 (Nat.le_refl _) 0 (zset (fun r => decide (dA A r = 0 ∧ dM A r = 0)) P) 0 0 0 (zup (zup r0 2 (-1)) 3 (-1)) tr ch (by omega) hz (fun r hr => by
    rw [zset_tb, Nat.zero_testBit, Bool.not_false, Bool.and_true]
    unfold kId
    by_cases c : r < P
    · rw [decide_eq_true c, Bool.true_and]
      exact decide_eq_decide.mpr ⟨fun q => ⟨c, q⟩, fun q => q.2⟩
    · rw [decide_eq_false c, Bool.false_and, decide_eq_false (fun q => c q.1)]) (by omega) (by omega) (Or.inl ⟨rfl, by rw [zup_n (by omega), zup_s]⟩)
  rw [show 1000 * 0 - 0 + hW (kOk P A far) (kDd A far) 6 0 = hW (kOk P A far) (kDd A far) 6 0 by omega] at e3
  rcases e3 with ⟨g1, -, -⟩ | ⟨g1, g2, g3⟩
  · omega
  · refine ⟨r0', tr', ch', ?_, g2, fun i hi => (g3 i hi).trans (if_neg (by omega))⟩
    unfold fX_hires fPr_choose fPr_pairs
    rw [k1, Option.bind_some, zlet_e, zlet_e]
    have e1' : fPr_tryFrom 8 (zup (zup r0 2 (-1)) 3 (-1)) tr ch rp far pl le lf 0 (nI (zset (fun r => decide (dA A r = 0 ∧ dM A r = 0)) P)) 0 0 = _ := e1
    rw [e1', Option.bind_some, Option.bind_some]
end HV
