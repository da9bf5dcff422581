/-! ===== a line told, byte by byte ===== -/
def lX (l : List Nat) (r0 r : Nat → Int32) : Prop := r0 1 = nI l.length ∧ ∀ i, i < l.length → r i = nI (l.getD i 0)
def lM (l : List Nat) (rm tx : Nat → Int32) : Prop := rm 38 = nI l.length ∧ ∀ i, i < l.length → tx i = nI (l.getD i 0)
theorem l_up {l : List Nat} {c : Nat} {r : Nat → Int32} (h : ∀ i, i < l.length → r i = nI (l.getD i 0)) : ∀ i, i < (l ++ [c]).length → zup r l.length (nI c) i = nI ((l ++ [c]).getD i 0) := fun i hi => by
  rw [List.length_append, List.length_singleton] at hi
  rw [List.getD_eq_getElem?_getD]
  by_cases e : i = l.length
  · rw [e, zup_s, List.getElem?_append_right (Nat.le_refl _), Nat.sub_self]; rfl
  · rw [zup_n e, List.getElem?_append_left (by omega), ← List.getD_eq_getElem?_getD]; exact h i (by omega)
theorem x_byteL {l : List Nat} {c : Nat} {r0 r : Nat → Int32} (h : lX l r0 r) (hl : l.length < 40) : ∃ r0' r', fLn_addByte r0 r (nI c) = some (r0', r') ∧ lX (l ++ [c]) r0' r' := by
  obtain ⟨h1, h2⟩ := h
  refine ⟨zup r0 1 (nI (l.length + 1)), zup r l.length (nI c), ?_, ?_, l_up h2⟩
  · unfold fLn_addByte
    rw [h1, if_neg (zg40 hl), zwr_n hl (by omega), Option.bind_some, zlet_e, nI_1]
  · rw [zup_s, List.length_append, List.length_singleton]
theorem z_nb : ∀ c, c < 128 → vp_nar .byte (Int8.toInt32 (Int32.toInt8 (nI c))) = nI c := by
  intro c hc
  rw [vp_nar_byte]
  exact (show ∀ c, c < 128 → Int8.toInt32 (Int32.toInt8 (Int8.toInt32 (Int32.toInt8 (nI c)))) = nI c by decide +kernel) c hc
theorem m_byte {l : List Nat} {c : Nat} {rm tx : Nat → Int32} (h : lM l rm tx) (hl : l.length < 40) (hc : c < 128) : ∃ rm' tx', fM_lays rm tx (nI c) = some (rm', tx') ∧ lM (l ++ [c]) rm' tx' ∧ ∀ j, j ≠ 38 → rm' j = rm j := by
  obtain ⟨h1, h2⟩ := h
  refine ⟨zup rm 38 (nI (l.length + 1)), zup tx l.length (nI c), ?_, ⟨?_, l_up h2⟩, fun j hj => zup_n hj⟩
  · unfold fM_lays
    rw [h1, z_nb c hc, zwr_n (by omega) (by omega), Option.bind_some, zlet_e, nI_1]
  · rw [zup_s, List.length_append, List.length_singleton]
theorem l_tk {s : List Nat} {k : Nat} (h : k < s.length) : s.take (k + 1) = s.take k ++ [s.getD k 0] := by
  rw [List.take_succ, List.getD_eq_getElem?_getD, List.getElem?_eq_getElem h]; rfl
theorem x_text1 {l : List Nat} {r0 r : Nat → Int32} (h : lX l r0 r) (hl : l.length + 4 ≤ 40) : ∃ r0' r', fLn_addText_s1 r0 r = some (r0', r') ∧ lX (l ++ [32, 97, 116, 32]) r0' r' := by
  obtain ⟨⟨q1, q2⟩, k1, k2⟩ : ∃ q, zLP (fun t : (Nat → Int32) × (Nat → Int32) × Int32 => fLn_addText_s1_L2 t.1 t.2.1 t.2.2) (r0, r, 0) = some q ∧ lX (l ++ [32, 97, 116, 32]) q.1 q.2 := by
    refine zLP_inv (fun k t => t.2.2 = nI k ∧ lX (l ++ ([32, 97, 116, 32] : List Nat).take k) t.1 t.2.1) _ 4 ⟨rfl, by rw [List.take_zero, List.append_nil]; exact h⟩ ?_ ?_
    · rintro k ⟨t1, t2, t3⟩ hk ⟨e1, e2⟩
      dsimp only at e1 e2
      left
      have hz : zrd (zchr 1) 4 (nI k) = some (nI (([32, 97, 116, 32] : List Nat).getD k 0)) := (show ∀ k, k < 4 → zrd (zchr 1) 4 (nI k) = some (nI (([32, 97, 116, 32] : List Nat).getD k 0)) by decide +kernel) k hk
      obtain ⟨r0', r', g1, g2⟩ := x_byteL (c := ([32, 97, 116, 32] : List Nat).getD k 0) e2 (by rw [List.length_append, List.length_take]; simp only [List.length_cons, List.length_nil]; omega)
      refine ⟨(r0', r', nI (k + 1)), ?_, rfl, ?_⟩
      · show fLn_addText_s1_L2 t1 t2 t3 = _
        unfold fLn_addText_s1_L2
        rw [e1, if_neg (show ¬ (4 : Int32) ≤ nI k from nI_ge (b := 4) hk (by omega)), hz, Option.bind_some, g1, Option.bind_some, zlet_e, nI_1]
      · rw [l_tk (s := [32, 97, 116, 32]) hk, ← List.append_assoc]; exact g2
    · rintro ⟨t1, t2, t3⟩ ⟨e1, e2⟩
      dsimp only at e1 e2
      refine ⟨(t1, t2), ?_, e2⟩
      show fLn_addText_s1_L2 t1 t2 t3 = _
      unfold fLn_addText_s1_L2
      rw [e1, if_pos (by decide)]
  refine ⟨q1, q2, ?_, k2⟩
  unfold fLn_addText_s1
  rw [k1, Option.bind_some]
theorem x_text2 {l : List Nat} {r0 r : Nat → Int32} (h : lX l r0 r) (hl : l.length + 7 ≤ 40) : ∃ r0' r', fLn_addText_s2 r0 r = some (r0', r') ∧ lX (l ++ [32, 97, 102, 116, 101, 114, 32]) r0' r' := by
  obtain ⟨⟨q1, q2⟩, k1, k2⟩ : ∃ q, zLP (fun t : (Nat → Int32) × (Nat → Int32) × Int32 => fLn_addText_s2_L2 t.1 t.2.1 t.2.2) (r0, r, 0) = some q ∧ lX (l ++ [32, 97, 102, 116, 101, 114, 32]) q.1 q.2 := by
    refine zLP_inv (fun k t => t.2.2 = nI k ∧ lX (l ++ ([32, 97, 102, 116, 101, 114, 32] : List Nat).take k) t.1 t.2.1) _ 7 ⟨rfl, by rw [List.take_zero, List.append_nil]; exact h⟩ ?_ ?_
    · rintro k ⟨t1, t2, t3⟩ hk ⟨e1, e2⟩
      dsimp only at e1 e2
      left
      have hz : zrd (zchr 2) 7 (nI k) = some (nI (([32, 97, 102, 116, 101, 114, 32] : List Nat).getD k 0)) := (show ∀ k, k < 7 → zrd (zchr 2) 7 (nI k) = some (nI (([32, 97, 102, 116, 101, 114, 32] : List Nat).getD k 0)) by decide +kernel) k hk
      obtain ⟨r0', r', g1, g2⟩ := x_byteL (c := ([32, 97, 102, 116, 101, 114, 32] : List Nat).getD k 0) e2 (by rw [List.length_append, List.length_take]; simp only [List.length_cons, List.length_nil]; omega)
      refine ⟨(r0', r', nI (k + 1)), ?_, rfl, ?_⟩
      · show fLn_addText_s2_L2 t1 t2 t3 = _
        unfold fLn_addText_s2_L2
        rw [e1, if_neg (show ¬ (7 : Int32) ≤ nI k from nI_ge (b := 7) hk (by omega)), hz, Option.bind_some, g1, Option.bind_some, zlet_e, nI_1]
      · rw [l_tk (s := [32, 97, 102, 116, 101, 114, 32]) hk, ← List.append_assoc]; exact g2
    · rintro ⟨t1, t2, t3⟩ ⟨e1, e2⟩
      dsimp only at e1 e2
      refine ⟨(t1, t2), ?_, e2⟩
      show fLn_addText_s2_L2 t1 t2 t3 = _
      unfold fLn_addText_s2_L2
      rw [e1, if_pos (by decide)]
  refine ⟨q1, q2, ?_, k2⟩
  unfold fLn_addText_s2
  rw [k1, Option.bind_some]
theorem x_text3 {l : List Nat} {r0 r : Nat → Int32} (h : lX l r0 r) (hl : l.length + 6 ≤ 40) : ∃ r0' r', fLn_addText_s3 r0 r = some (r0', r') ∧ lX (l ++ [32, 103, 111, 101, 115, 32]) r0' r' := by
  obtain ⟨⟨q1, q2⟩, k1, k2⟩ : ∃ q, zLP (fun t : (Nat → Int32) × (Nat → Int32) × Int32 => fLn_addText_s3_L2 t.1 t.2.1 t.2.2) (r0, r, 0) = some q ∧ lX (l ++ [32, 103, 111, 101, 115, 32]) q.1 q.2 := by
    refine zLP_inv (fun k t => t.2.2 = nI k ∧ lX (l ++ ([32, 103, 111, 101, 115, 32] : List Nat).take k) t.1 t.2.1) _ 6 ⟨rfl, by rw [List.take_zero, List.append_nil]; exact h⟩ ?_ ?_
    · rintro k ⟨t1, t2, t3⟩ hk ⟨e1, e2⟩
      dsimp only at e1 e2
      left
      have hz : zrd (zchr 3) 6 (nI k) = some (nI (([32, 103, 111, 101, 115, 32] : List Nat).getD k 0)) := (show ∀ k, k < 6 → zrd (zchr 3) 6 (nI k) = some (nI (([32, 103, 111, 101, 115, 32] : List Nat).getD k 0)) by decide +kernel) k hk
      obtain ⟨r0', r', g1, g2⟩ := x_byteL (c := ([32, 103, 111, 101, 115, 32] : List Nat).getD k 0) e2 (by rw [List.length_append, List.length_take]; simp only [List.length_cons, List.length_nil]; omega)
      refine ⟨(r0', r', nI (k + 1)), ?_, rfl, ?_⟩
      · show fLn_addText_s3_L2 t1 t2 t3 = _
        unfold fLn_addText_s3_L2
        rw [e1, if_neg (show ¬ (6 : Int32) ≤ nI k from nI_ge (b := 6) hk (by omega)), hz, Option.bind_some, g1, Option.bind_some, zlet_e, nI_1]
      · rw [l_tk (s := [32, 103, 111, 101, 115, 32]) hk, ← List.append_assoc]; exact g2
    · rintro ⟨t1, t2, t3⟩ ⟨e1, e2⟩
      dsimp only at e1 e2
      refine ⟨(t1, t2), ?_, e2⟩
      show fLn_addText_s3_L2 t1 t2 t3 = _
      unfold fLn_addText_s3_L2
      rw [e1, if_pos (by decide)]
  refine ⟨q1, q2, ?_, k2⟩
  unfold fLn_addText_s3
  rw [k1, Option.bind_some]
theorem x_text4 {l : List Nat} {r0 r : Nat → Int32} (h : lX l r0 r) (hl : l.length + 6 ≤ 40) : ∃ r0' r', fLn_addText_s4 r0 r = some (r0', r') ∧ lX (l ++ [32, 115, 116, 97, 121, 115]) r0' r' := by
  obtain ⟨⟨q1, q2⟩, k1, k2⟩ : ∃ q, zLP (fun t : (Nat → Int32) × (Nat → Int32) × Int32 => fLn_addText_s4_L2 t.1 t.2.1 t.2.2) (r0, r, 0) = some q ∧ lX (l ++ [32, 115, 116, 97, 121, 115]) q.1 q.2 := by
    refine zLP_inv (fun k t => t.2.2 = nI k ∧ lX (l ++ ([32, 115, 116, 97, 121, 115] : List Nat).take k) t.1 t.2.1) _ 6 ⟨rfl, by rw [List.take_zero, List.append_nil]; exact h⟩ ?_ ?_
    · rintro k ⟨t1, t2, t3⟩ hk ⟨e1, e2⟩
      dsimp only at e1 e2
      left
      have hz : zrd (zchr 4) 6 (nI k) = some (nI (([32, 115, 116, 97, 121, 115] : List Nat).getD k 0)) := (show ∀ k, k < 6 → zrd (zchr 4) 6 (nI k) = some (nI (([32, 115, 116, 97, 121, 115] : List Nat).getD k 0)) by decide +kernel) k hk
      obtain ⟨r0', r', g1, g2⟩ := x_byteL (c := ([32, 115, 116, 97, 121, 115] : List Nat).getD k 0) e2 (by rw [List.length_append, List.length_take]; simp only [List.length_cons, List.length_nil]; omega)
      refine ⟨(r0', r', nI (k + 1)), ?_, rfl, ?_⟩
      · show fLn_addText_s4_L2 t1 t2 t3 = _
        unfold fLn_addText_s4_L2
        rw [e1, if_neg (show ¬ (6 : Int32) ≤ nI k from nI_ge (b := 6) hk (by omega)), hz, Option.bind_some, g1, Option.bind_some, zlet_e, nI_1]
      · rw [l_tk (s := [32, 115, 116, 97, 121, 115]) hk, ← List.append_assoc]; exact g2
    · rintro ⟨t1, t2, t3⟩ ⟨e1, e2⟩
      dsimp only at e1 e2
      refine ⟨(t1, t2), ?_, e2⟩
      show fLn_addText_s4_L2 t1 t2 t3 = _
      unfold fLn_addText_s4_L2
      rw [e1, if_pos (by decide)]
  refine ⟨q1, q2, ?_, k2⟩
  unfold fLn_addText_s4
  rw [k1, Option.bind_some]
theorem cv_dig : ∀ {w : List Nat} (i : Nat), wLet w → cv w / 32 ^ i % 32 = if i < w.length then w.getD i 0 - 96 else 0
  | [], i, _ => by
    rw [cv, Nat.zero_div, if_neg (by simp)]
  | c :: t, i, h => by
    have hc := h c (List.mem_cons_self)
    have ht : wLet t := fun d hd => h d (List.mem_cons_of_mem _ hd)
    rw [cv]
    cases i with
    | zero =>
      rw [if_pos (by simp), Nat.pow_zero, Nat.div_one]
      show _ = c - 96
      omega
    | succ i =>
      rw [Nat.pow_succ, Nat.mul_comm (32 ^ i) 32, ← Nat.div_div_eq_div_mul, show (cv t * 32 + (c - 96)) / 32 = cv t by omega, cv_dig i ht]
      by_cases e : i < t.length
      · rw [if_pos e, if_pos (by rw [List.length_cons]; omega)]; rfl
      · rw [if_neg e, if_neg (by rw [List.length_cons]; omega)]
theorem mv_dig : ∀ {w : List Nat} (i : Nat), wLet w → mv w / 256 ^ i % 256 = if i < w.length then w.getD i 0 else 0
  | [], i, _ => by
    rw [mv, Nat.zero_div, if_neg (by simp)]
  | c :: t, i, h => by
    have hc := h c (List.mem_cons_self)
    have ht : wLet t := fun d hd => h d (List.mem_cons_of_mem _ hd)
    rw [mv]
    cases i with
    | zero =>
      rw [if_pos (by simp), Nat.pow_zero, Nat.div_one]
      show _ = c
      omega
    | succ i =>
      rw [Nat.pow_succ, Nat.mul_comm (256 ^ i) 256, ← Nat.div_div_eq_div_mul, show (mv t * 256 + c) / 256 = mv t by omega, mv_dig i ht]
      by_cases e : i < t.length
      · rw [if_pos e, if_pos (by rw [List.length_cons]; omega)]; rfl
      · rw [if_neg e, if_neg (by rw [List.length_cons]; omega)]
theorem z_s63 : ∀ s, s < 64 → Int32.toInt64 (nI s) &&& 63 = lN s := by decide +kernel
theorem z_smd : ∀ s, s < 64 → BitVec.smod (BitVec.ofNat 64 s) 64 = BitVec.ofNat 64 s := by decide +kernel
theorem l_dig {v s m : Nat} (hv : v < 2 ^ 63) (hs : s < 64) (hm : m < 64) : (lN v >>> (Int32.toInt64 (nI s) &&& 63)) &&& lN (2 ^ m - 1) = lN (v / 2 ^ s % 2 ^ m) := by
  rw [z_s63 s hs]
  apply Int64.toBitVec_inj.1
  show (BitVec.ofNat 64 v).sshiftRight' (BitVec.smod (BitVec.ofNat 64 s) 64) &&& BitVec.ofNat 64 (2 ^ m - 1) = BitVec.ofNat 64 (v / 2 ^ s % 2 ^ m)
  have hm2 : 2 ^ m < 2 ^ 64 := Nat.pow_lt_pow_right (by omega) hm
  have hv2 : (BitVec.ofNat 64 v).toNat = v := by rw [BitVec.toNat_ofNat, Nat.mod_eq_of_lt (by omega)]
  have hmsb : (BitVec.ofNat 64 v).msb = false := by rw [BitVec.msb_eq_false_iff_two_mul_lt, hv2]; omega
  rw [z_smd s hs, BitVec.sshiftRight_eq', BitVec.toNat_ofNat, Nat.mod_eq_of_lt (show s < 2 ^ 64 by omega), BitVec.sshiftRight_eq_of_msb_false hmsb]
  apply BitVec.eq_of_toNat_eq
  have h1 : v / 2 ^ s % 2 ^ m < 2 ^ m := Nat.mod_lt _ (Nat.two_pow_pos m)
  rw [BitVec.toNat_and, BitVec.toNat_ushiftRight, hv2, BitVec.toNat_ofNat, BitVec.toNat_ofNat, Nat.mod_eq_of_lt (show 2 ^ m - 1 < 2 ^ 64 by omega), Nat.mod_eq_of_lt (show v / 2 ^ s % 2 ^ m < 2 ^ 64 by omega), Nat.shiftRight_eq_div_pow, Nat.and_two_pow_sub_one_eq_mod]
theorem l_dr {w : List Nat} {i : Nat} (h : i < w.length) : (w.drop i).reverse = (w.drop (i + 1)).reverse ++ [w.getD i 0] := by
  rw [List.drop_eq_getElem_cons h, List.reverse_cons, List.getD_eq_getElem?_getD, List.getElem?_eq_getElem h]; rfl
theorem l_dn {w : List Nat} {i : Nat} (h : ¬ i < w.length) : (w.drop i).reverse = (w.drop (i + 1)).reverse := by
  rw [List.drop_eq_nil_of_le (by omega), List.drop_eq_nil_of_le (by omega)]
theorem l_get {w : List Nat} (hw : wLet w) {i : Nat} (h : i < w.length) : 97 ≤ w.getD i 0 ∧ w.getD i 0 ≤ 122 := by
  rw [List.getD_eq_getElem?_getD, List.getElem?_eq_getElem h]
  exact hw _ (List.getElem_mem h)
theorem l_len {l w : List Nat} {k : Nat} (hw : w.length ≤ 7) (hl : l.length + w.length ≤ 40) (hk : k < w.length) : (l ++ (w.drop (k + 1)).reverse).length < 40 := by
  rw [List.length_append, List.length_reverse, List.length_drop]; omega
theorem x_name_ {l w : List Nat} {r0 r : Nat → Int32} (hw : wOK w) (h : lX l r0 r) (hl : l.length + w.length ≤ 40) : ∃ r0' r', fLn_addName r0 r (lN (cv w)) = some (r0', r') ∧ lX (l ++ w.reverse) r0' r' := by
  have h35 := cv_lt7 hw
  obtain ⟨⟨q1, q2⟩, k1, k2⟩ : ∃ q, zLP (fun t : (Nat → Int32) × (Nat → Int32) × Int32 => fLn_addName_L3 (lN (cv w)) t.1 t.2.1 t.2.2) (r0, r, 30) = some q ∧ lX (l ++ w.reverse) q.1 q.2 := by
    refine zLP_inv (fun k t => t.2.2 = nI (5 * (7 - k)) + (-5) ∧ lX (l ++ (w.drop (7 - k)).reverse) t.1 t.2.1) _ 7 ⟨rfl, by rw [List.drop_eq_nil_of_le (show w.length ≤ 7 - 0 from hw.2), List.reverse_nil, List.append_nil]; exact h⟩ ?_ ?_
    · rintro k ⟨t1, t2, t3⟩ hk ⟨e1, e2⟩
      dsimp only at e1 e2
      left
      obtain ⟨i, hi, rfl⟩ : ∃ i, i < 7 ∧ 6 - i = k := ⟨6 - k, by omega, by omega⟩
      have ei : 7 - (6 - i) = i + 1 := by omega
      have ej : 7 - (6 - i + 1) = i := by omega
      rw [ei] at e1 e2
      have e3 : nI (5 * (i + 1)) + (-5) = nI (5 * i) := by
        rw [show 5 * (i + 1) = 5 * i + 5 by omega, ← nI_add, Int32.add_assoc, show nI 5 + (-5) = 0 by decide, Int32.add_zero]
      have hd : Int64.toInt32 ((lN (cv w) >>> (Int32.toInt64 (nI (5 * i)) &&& 63)) &&& (31 : Int64)) = nI (if i < w.length then w.getD i 0 - 96 else 0) := by
        have := l_dig (v := cv w) (s := 5 * i) (m := 5) (by omega) (by omega) (by omega)
        rw [show (31 : Int64) = lN (2 ^ 5 - 1) from rfl, this, lN_i, Nat.pow_mul, show (2 : Nat) ^ 5 = 32 from rfl, cv_dig i hw.1]
      show ∃ t', fLn_addName_L3 (lN (cv w)) t1 t2 t3 = some (.inl t') ∧ _
      unfold fLn_addName_L3
      rw [e1, e3, if_neg (nI_pos (by omega)), zlet_e, hd, zlet_e]
      by_cases c : i < w.length
      · have hg := l_get hw.1 c
        obtain ⟨r0', r', g1, g2⟩ := x_byteL (c := w.getD i 0) e2 (l_len hw.2 hl c)
        have hb : (97 : Int32) + nI (w.getD i 0 - 96) - 1 = nI (w.getD i 0) := by
          rw [show (97 : Int32) = nI 97 from rfl, nI_add, show (1 : Int32) = nI 1 from rfl, nI_sub (by omega)]; congr 1; omega
        rw [if_pos c, if_neg (nI_ne0 (by omega) (by omega)), hb, g1, Option.bind_some, zlet_e]
        refine ⟨_, rfl, ?_, ?_⟩
        · rw [ej]
        · rw [ej, l_dr c, ← List.append_assoc]; exact g2
      · rw [if_neg c, if_pos (show nI 0 = 0 from rfl)]
        refine ⟨_, rfl, ?_, ?_⟩
        · rw [ej]
        · rw [ej, l_dn c]; exact e2
    · rintro ⟨t1, t2, t3⟩ ⟨e1, e2⟩
      dsimp only at e1 e2
      refine ⟨(t1, t2), ?_, by rw [show 7 - 7 = 0 from rfl, List.drop_zero] at e2; exact e2⟩
      show fLn_addName_L3 (lN (cv w)) t1 t2 t3 = _
      unfold fLn_addName_L3
      rw [e1, if_pos (by decide)]
  refine ⟨q1, q2, ?_, k2⟩
  unfold fLn_addName
  rw [k1, Option.bind_some]
theorem m_spells {l w : List Nat} {rm tx : Nat → Int32} (hw : wOK w) (h : lM l rm tx) (hl : l.length + w.length ≤ 40) : ∃ rm' tx', fM_spells rm tx (lN (mv w)) = some (rm', tx') ∧ lM (l ++ w.reverse) rm' tx' ∧ ∀ j, j ≠ 38 → rm' j = rm j := by
  have h56 := mv_lt7 hw
  have hw7 := hw.2
  obtain ⟨⟨q1, q2⟩, k1, k2⟩ : ∃ q, zLP (fun t : (Nat → Int32) × (Nat → Int32) × Int32 => fM_spells_L3 (lN (mv w)) t.1 t.2.1 t.2.2) (rm, tx, 56) = some q ∧ (lM (l ++ w.reverse) q.1 q.2 ∧ ∀ j, j ≠ 38 → q.1 j = rm j) := by
    refine zLP_inv (fun k t => t.2.2 = nI (8 * (8 - k)) + (-8) ∧ lM (l ++ (w.drop (8 - k)).reverse) t.1 t.2.1 ∧ ∀ j, j ≠ 38 → t.1 j = rm j) _ 8 ⟨rfl, by rw [List.drop_eq_nil_of_le (show w.length ≤ 8 - 0 by omega), List.reverse_nil, List.append_nil]; exact h, fun _ _ => rfl⟩ ?_ ?_
    · rintro k ⟨t1, t2, t3⟩ hk ⟨e1, e2, e4⟩
      dsimp only at e1 e2 e4
      left
      obtain ⟨i, hi, rfl⟩ : ∃ i, i < 8 ∧ 7 - i = k := ⟨7 - k, by omega, by omega⟩
      have ei : 8 - (7 - i) = i + 1 := by omega
      have ej : 8 - (7 - i + 1) = i := by omega
      rw [ei] at e1 e2
      have e3 : nI (8 * (i + 1)) + (-8) = nI (8 * i) := by
        rw [show 8 * (i + 1) = 8 * i + 8 by omega, ← nI_add, Int32.add_assoc, show nI 8 + (-8) = 0 by decide, Int32.add_zero]
      have hd : (lN (mv w) >>> (Int32.toInt64 (nI (8 * i)) &&& 63)) &&& (255 : Int64) = lN (if i < w.length then w.getD i 0 else 0) := by
        have := l_dig (v := mv w) (s := 8 * i) (m := 8) (by omega) (by omega) (by omega)
        rw [show (255 : Int64) = lN (2 ^ 8 - 1) from rfl, this, Nat.pow_mul, show (2 : Nat) ^ 8 = 256 from rfl, mv_dig i hw.1]
      show ∃ t', fM_spells_L3 (lN (mv w)) t1 t2 t3 = some (.inl t') ∧ _
      unfold fM_spells_L3
      rw [e1, e3, if_neg (nI_pos (by omega)), hd, lN_i, zlet_e]
      by_cases c : i < w.length
      · have hg := l_get hw.1 c
        obtain ⟨r0', r', g1, g2, g3⟩ := m_byte (c := w.getD i 0) e2 (l_len hw.2 hl c) (by omega)
        have hne : ¬ lg_cmp (lN (w.getD i 0)) (0 : Int64) = 0 := fun q => by
          have := (lN_eq63 (b := 0) (by omega) (by omega)).mp (lg_cmp0.mp q)
          omega
        rw [if_pos c, if_neg hne, g1, Option.bind_some, zlet_e]
        refine ⟨_, rfl, ?_, ?_, fun j hj => (g3 j hj).trans (e4 j hj)⟩
        · rw [ej]
        · rw [ej, l_dr c, ← List.append_assoc]; exact g2
      · rw [if_neg c, if_pos (show lg_cmp (lN 0) (0 : Int64) = 0 from lg_cmp0.mpr rfl)]
        refine ⟨_, rfl, ?_, ?_, e4⟩
        · rw [ej]
        · rw [ej, l_dn c]; exact e2
    · rintro ⟨t1, t2, t3⟩ ⟨e1, e2, e4⟩
      dsimp only at e1 e2 e4
      refine ⟨(t1, t2), ?_, by rw [show 8 - 8 = 0 from rfl, List.drop_zero] at e2; exact e2, e4⟩
      show fM_spells_L3 (lN (mv w)) t1 t2 t3 = _
      unfold fM_spells_L3
      rw [e1, if_pos (by decide)]
  refine ⟨q1, q2, ?_, k2⟩
  unfold fM_spells
  rw [k1, Option.bind_some]
theorem m_says {l w : List Nat} {rm tx : Nat → Int32} (hw : wOK w) (h : lM l rm tx) (hl : l.length + 1 + w.length ≤ 40) : ∃ rm' tx', fM_says rm tx (lN (mv w)) = some (rm', tx') ∧ lM (l ++ 32 :: w.reverse) rm' tx' ∧ ∀ j, j ≠ 38 → rm' j = rm j := by
  obtain ⟨r1, x1, a1, a2, a3⟩ := m_byte (c := 32) h (by omega) (by omega)
  obtain ⟨r2, x2, b1, b2, b3⟩ := m_spells hw a2 (by rw [List.length_append, List.length_singleton]; omega)
  refine ⟨r2, x2, ?_, by rw [List.append_assoc] at b2; exact b2, fun j hj => (b3 j hj).trans (a3 j hj)⟩
  unfold fM_says
  rw [show fM_lays rm tx 32 = some (r1, x1) from a1, Option.bind_some, b1, Option.bind_some]
