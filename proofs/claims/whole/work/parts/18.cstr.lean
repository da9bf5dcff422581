/-! strings while objects are made (by wip/whole/g18.py) -/
section YS
variable {g : yG} {A : Nat → Prop} {d d' mc ms kc ks : Nat} {y z : zY} {pc pc' : Nat} {L L' : List (Nat × Value)} {rest st As : List Value} {ws ws' : va_W} {Q : Option Value → va_W → Prop} {x : Value}
theorem ny_compact {idx : Nat} (hdg : decode y.2.1 pc = .ok (.getstatic idx, 3)) (hp : pc + 3 = pc') (hf : Cond.fieldLink y.1.cls idx "java/lang/String" "COMPACT_STRINGS" "Z" ∈ zWS) (kk : yR g A d mc ms y pc' L (.int 1 :: rest) ws kc ks Q) : yR g A d mc ms y pc L rest ws kc ks Q := by
  subst hp
  intro p e s m args below meth c H locs ls C hW hl
  exact va_gets C.1 C.2.1 C.2.2.2.2.2.2.2.2.1.2.2.2.1 hW.2.2 C.2.2.2.2.2.1 (C.2.2.2.2.2.2.1 _ hf) (fun _ h => h) hdg (kk p e s m args below meth c H locs ls C hW hl)
theorem ny_getsq {idx : Nat} {cn fn dn : String} (hdg : decode y.2.1 pc = .ok (.getstatic idx, 3)) (hp : pc + 3 = pc') (hf : Cond.fieldLink y.1.cls idx cn fn dn ∈ zWS) (hq : (cn, fn, dn) ∈ zST) (kk : ∀ v : Value, (v = .null ∨ ∃ t, v = .ref t) → yR g A d mc ms y pc' L (v :: rest) ws kc ks Q) : yR g A d mc ms y pc L rest ws kc ks Q := by
  subst hp
  intro p e s m args below meth c H locs ls C hW hl
  rcases C.2.2.2.2.2.2.2.2.1.2.2.2.2.1 _ hq with h | ⟨t, h⟩
  · exact va_gets C.1 C.2.1 h hW.2.2 C.2.2.2.2.2.1 (C.2.2.2.2.2.2.1 _ hf) (fun _ h => h) hdg (kk _ (Or.inl rfl) p e s m args below meth c H locs ls C hW hl)
  · exact va_gets C.1 C.2.1 h hW.2.2 C.2.2.2.2.2.1 (C.2.2.2.2.2.2.1 _ hf) (fun _ h => h) hdg (kk _ (Or.inr ⟨t, rfl⟩) p e s m args below meth c H locs ls C hW hl)
theorem ny_scoder {idx k : Nat} (hdg : decode y.2.1 pc = .ok (.getfield idx, 3)) (hp : pc + 3 = pc') (hf : Cond.fieldLink y.1.cls idx "java/lang/String" "coder" "B" ∈ zWS) (hk : k < 7) (kk : yR g A d mc ms y pc' L (.int 0 :: rest) ws kc ks Q) : yR g A d mc ms y pc L (.ref (g.2.2.2.1 k) :: rest) ws kc ks Q := by
  subst hp
  intro p e s m args below meth c H locs ls C hW hl
  exact vk_getf C.1 C.2.1 (C.2.2.2.2.2.2.2.2.1.2.1.1 k hk).2.1 hW.2.2 C.2.2.2.2.2.1 (C.2.2.2.2.2.2.1 _ hf) (fun _ h => h) hdg (kk p e s m args below meth c H locs ls C hW hl)
theorem ny_svalue {idx k : Nat} (hdg : decode y.2.1 pc = .ok (.getfield idx, 3)) (hp : pc + 3 = pc') (hf : Cond.fieldLink y.1.cls idx "java/lang/String" "value" "[B" ∈ zWS) (hk : k < 7) (kk : yR g A d mc ms y pc' L (.ref (g.2.2.2.2 k) :: rest) ws kc ks Q) : yR g A d mc ms y pc L (.ref (g.2.2.2.1 k) :: rest) ws kc ks Q := by
  subst hp
  intro p e s m args below meth c H locs ls C hW hl
  exact vk_getf C.1 C.2.1 (C.2.2.2.2.2.2.2.2.1.2.1.1 k hk).2.2.1 hW.2.2 C.2.2.2.2.2.1 (C.2.2.2.2.2.2.1 _ hf) (fun _ h => h) hdg (kk p e s m args below meth c H locs ls C hW hl)
theorem ny_slen {k : Nat} {v : Int32} (hdg : decode y.2.1 pc = .ok (.arraylength, 1)) (hp : pc + 1 = pc') (hk : k < 7) (hv : Int32.ofNat (zSL.getD k 0) = v) (kk : yR g A d mc ms y pc' L (.int v :: rest) ws kc ks Q) : yR g A d mc ms y pc L (.ref (g.2.2.2.2 k) :: rest) ws kc ks Q := by
  subst hp
  intro p e s m args below meth c H locs ls C hW hl
  exact va_tlen C.1 C.2.1 (C.2.2.2.2.2.2.2.2.1.2.1.1 k hk).2.2.2 hW.2.2 hv hdg (kk p e s m args below meth c H locs ls C hW hl)
theorem ny_sbyte {k : Nat} {j : Int32} (hdg : decode y.2.1 pc = .ok (.baload, 1)) (hp : pc + 1 = pc') (hk : k < 7) (hin : vp_in j (zSL.getD k 0)) (kk : yR g A d mc ms y pc' L (.int (zchr k j.toNatClampNeg) :: rest) ws kc ks Q) : yR g A d mc ms y pc L (.int j :: .ref (g.2.2.2.2 k) :: rest) ws kc ks Q := by
  subst hp
  intro p e s m args below meth c H locs ls C hW hl
  exact va_tb C.1 C.2.1 (C.2.2.2.2.2.2.2.2.1.2.1.1 k hk).2.2.2 hW.2.2 hin rfl hdg (kk p e s m args below meth c H locs ls C hW hl)
theorem ny_i2c {v w : Int32} (hdg : decode y.2.1 pc = .ok (.i2c, 1)) (hp : pc + 1 = pc') (hv : (v.toUInt32 % 65536).toInt32 = w) (k : yR g A d mc ms y pc' L (.int w :: rest) ws kc ks Q) : yR g A d mc ms y pc L (.int v :: rest) ws kc ks Q := by
  subst hp
  intro p e s m args below meth c H locs ls C hW hl
  exact lv_i2c C.1 C.2.1 hdg hv (k p e s m args below meth c H locs ls C hW hl)
theorem ny_nret {v : Int32} {ty : FieldType} (hdg : decode y.2.1 pc = .ok (.ireturn, 1)) (hr : y.2.2.2 = some ty) (hv : narrow ty (.int v) = .int v) (hc : kc ≤ mc) (hs : ks ≤ ms) (q : Q (some (.int v)) ws) : yR g A d mc ms y pc L [.int v] ws kc ks Q := by
  intro p e s m args below meth c H locs ls C hW hl
  refine W.widen hc hs ?_
  exact W.zret C.1 C.2.1 (C.2.2.2.1.trans hr) hv (fun t ht hWm => ⟨⟨_, ws, rfl, q, by rw [ht]; exact hW.1, hW.2.1⟩, hW.2.2.F ht⟩) hW.2.2.2.2 hdg C.2.2.2.2.1
theorem nd_range : ∀ n a : Nat, va_nd (List.range' a n) = true
  | 0, _ => rfl
  | n + 1, a => by
    rw [List.range'_succ]
    simp only [va_nd, Bool.and_eq_true, decide_eq_true_eq]
    refine ⟨fun h => ?_, nd_range n (a + 1)⟩
    have := List.mem_range'_1.mp h
    omega
theorem map_range (ws : va_W) : (List.range' 0 ws.length).map (fun i => ws[i]?) = ws.map some := by
  apply List.ext_getElem?
  intro j
  simp only [List.getElem?_map]
  by_cases h : j < ws.length
  · rw [List.getElem?_range' h]
    simp [h]
  · have h1 : (List.range' 0 ws.length)[j]? = none := by simp; omega
    rw [h1]
    simp [Nat.le_of_not_lt h]
theorem ny_VS1 {idx n k0 : Nat} (hdg : decode y.2.1 pc = .ok (.invokevirtual idx, 3)) (hp : pc + 3 = pc') (hlk : Cond.methodLink y.1.cls idx z.1 ∈ zWS) (hz : zlkV z n) (hcls : z.1.cls = "java/lang/String") (hk0 : k0 < 7) (hst : st = As.reverse ++ .ref (g.2.2.2.1 k0) :: rest) (hn : As.length = n) (hcat : (rest.map fun v => v.category).sum ≤ 8) (hd : d' + 1 ≤ d) (hc : kc ≤ mc) (hs : ks ≤ ms)
    (hK : yK g d' 0 0 z (.ref (g.2.2.2.1 k0) :: As) [] (fun v w => v = some x ∧ w = [])) (k : yR g A d mc ms y pc' L (x :: rest) ws kc ks Q) : yR g A d mc ms y pc L st ws kc ks Q :=
  ny_VS hdg hp hlk hz hcls hk0 hst hn hcat hd hc hs (List.range' 0 ws.length) (map_range ws) (nd_range _ _) hK (fun v w1 hq => by obtain ⟨rfl, rfl⟩ := hq; rw [List.append_nil]; exact k)
theorem ny_S1 {idx n : Nat} (hdg : decode y.2.1 pc = .ok (.invokestatic idx, 3)) (hp : pc + 3 = pc') (hlk : Cond.methodLink y.1.cls idx z.1 ∈ zWS) (hz : zlkS z n) (hst : st = As.reverse ++ rest) (hn : As.length = n) (hcat : (rest.map fun v => v.category).sum ≤ 8) (hd : d' + 1 ≤ d) (hc : kc ≤ mc) (hs : ks ≤ ms)
    (hK : yK g d' 0 0 z As [] (fun v w => v = some x ∧ w = [])) (k : yR g A d mc ms y pc' L (x :: rest) ws kc ks Q) : yR g A d mc ms y pc L st ws kc ks Q :=
  ny_S (mc' := 0) (ms' := 0) (wc := []) hdg hp hlk hz hst hn hcat hd hc hs [] (List.range' 0 ws.length) rfl rfl (map_range ws) (nd_range _ _) (fun _ _ h => by cases h) hK (fun v w1 hq => by obtain ⟨rfl, rfl⟩ := hq; rw [List.append_nil]; exact k)
theorem ny_S0 {idx n : Nat} (hdg : decode y.2.1 pc = .ok (.invokestatic idx, 3)) (hp : pc + 3 = pc') (hlk : Cond.methodLink y.1.cls idx z.1 ∈ zWS) (hz : zlkS z n) (hst : st = As.reverse ++ rest) (hn : As.length = n) (hcat : (rest.map fun v => v.category).sum ≤ 8) (hd : d' + 1 ≤ d) (hc : kc ≤ mc) (hs : ks ≤ ms)
    (hK : yK g d' 0 0 z As [] (fun v w => v = none ∧ w = [])) (k : yR g A d mc ms y pc' L rest ws kc ks Q) : yR g A d mc ms y pc L st ws kc ks Q :=
  ny_S (mc' := 0) (ms' := 0) (wc := []) hdg hp hlk hz hst hn hcat hd hc hs [] (List.range' 0 ws.length) rfl rfl (map_range ws) (nd_range _ _) (fun _ _ h => by cases h) hK (fun v w1 hq => by obtain ⟨rfl, rfl⟩ := hq; rw [List.append_nil]; exact k)
theorem ny_eqi {a b : Int32} (h : a = b) (k : yR g A d mc ms y pc L (.int a :: rest) ws kc ks Q) : yR g A d mc ms y pc L (.int b :: rest) ws kc ks Q := h ▸ k
theorem ny_iret {v : Int32} (hdg : decode y.2.1 pc = .ok (.ireturn, 1)) (hr : y.2.2.2 = some .int) (hc : kc ≤ mc) (hs : ks ≤ ms) (q : Q (some (.int v)) ws) : yR g A d mc ms y pc L [.int v] ws kc ks Q := by
  intro p e s m args below meth c H locs ls C hW hl
  refine W.widen hc hs ?_
  exact W.iret C.1 C.2.1 (C.2.2.2.1.trans hr) (fun t ht hWm => ⟨⟨_, ws, rfl, q, by rw [ht]; exact hW.1, hW.2.1⟩, hW.2.2.F ht⟩) hW.2.2.2.2 hdg C.2.2.2.2.1
theorem ny_ishr {x z : Int32} (hdg : decode y.2.1 pc = .ok (.ishr, 1)) (hp : pc + 1 = pc') (k : yR g A d mc ms y pc' L (.int (x >>> (z &&& 31)) :: rest) ws kc ks Q) : yR g A d mc ms y pc L (.int z :: .int x :: rest) ws kc ks Q := by
  subst hp
  intro p e s m args below meth c H locs ls C hW hl
  exact lv_ishr C.1 C.2.1 hdg (k p e s m args below meth c H locs ls C hW hl)
theorem ny_iand {x z : Int32} (hdg : decode y.2.1 pc = .ok (.iand, 1)) (hp : pc + 1 = pc') (k : yR g A d mc ms y pc' L (.int (x &&& z) :: rest) ws kc ks Q) : yR g A d mc ms y pc L (.int z :: .int x :: rest) ws kc ks Q := by
  subst hp
  intro p e s m args below meth c H locs ls C hW hl
  exact lv_iand C.1 C.2.1 hdg (k p e s m args below meth c H locs ls C hW hl)
theorem ny_pop {va : Value} (hdg : decode y.2.1 pc = .ok (.pop, 1)) (hp : pc + 1 = pc') (hva : va.category = 1) (k : yR g A d mc ms y pc' L rest ws kc ks Q) : yR g A d mc ms y pc L (va :: rest) ws kc ks Q := by
  subst hp
  intro p e s m args below meth c H locs ls C hW hl
  exact lv_pop C.1 C.2.1 hdg hva (k p e s m args below meth c H locs ls C hW hl)
theorem ny_if_eq {off : Int} {tgt : Nat} {x : Int32} (hdg : decode y.2.1 pc = .ok (.ifCond .eq off, 3)) (hp : pc + 3 = pc') (ht : (pc : Int) + off = (tgt : Int)) (kt : x = 0 → yR g A d mc ms y tgt L rest ws kc ks Q) (kf : ¬ x = 0 → yR g A d mc ms y pc' L rest ws kc ks Q) : yR g A d mc ms y pc L (.int x :: rest) ws kc ks Q := by
  subst hp
  intro p e s m args below meth c H locs ls C hW hl
  exact lv_if_eq C.1 C.2.1 hdg ht (fun h => kt h p e s m args below meth c H locs ls C hW hl) (fun h => kf h p e s m args below meth c H locs ls C hW hl)
theorem ny_if_ne {off : Int} {tgt : Nat} {x : Int32} (hdg : decode y.2.1 pc = .ok (.ifCond .ne off, 3)) (hp : pc + 3 = pc') (ht : (pc : Int) + off = (tgt : Int)) (kt : ¬ x = 0 → yR g A d mc ms y tgt L rest ws kc ks Q) (kf : x = 0 → yR g A d mc ms y pc' L rest ws kc ks Q) : yR g A d mc ms y pc L (.int x :: rest) ws kc ks Q := by
  subst hp
  intro p e s m args below meth c H locs ls C hW hl
  exact lv_if_ne C.1 C.2.1 hdg ht (fun h => kt h p e s m args below meth c H locs ls C hW hl) (fun h => kf h p e s m args below meth c H locs ls C hW hl)
theorem ny_if_lt {off : Int} {tgt : Nat} {x : Int32} (hdg : decode y.2.1 pc = .ok (.ifCond .lt off, 3)) (hp : pc + 3 = pc') (ht : (pc : Int) + off = (tgt : Int)) (kt : x < 0 → yR g A d mc ms y tgt L rest ws kc ks Q) (kf : ¬ x < 0 → yR g A d mc ms y pc' L rest ws kc ks Q) : yR g A d mc ms y pc L (.int x :: rest) ws kc ks Q := by
  subst hp
  intro p e s m args below meth c H locs ls C hW hl
  exact lv_if_lt C.1 C.2.1 hdg ht (fun h => kt h p e s m args below meth c H locs ls C hW hl) (fun h => kf h p e s m args below meth c H locs ls C hW hl)
theorem ny_icmp_lt {off : Int} {tgt : Nat} {x z : Int32} (hdg : decode y.2.1 pc = .ok (.if_icmp .lt off, 3)) (hp : pc + 3 = pc') (ht : (pc : Int) + off = (tgt : Int)) (kt : x < z → yR g A d mc ms y tgt L rest ws kc ks Q) (kf : ¬ x < z → yR g A d mc ms y pc' L rest ws kc ks Q) : yR g A d mc ms y pc L (.int z :: .int x :: rest) ws kc ks Q := by
  subst hp
  intro p e s m args below meth c H locs ls C hW hl
  exact lv_icmp_lt C.1 C.2.1 hdg ht (fun h => kt h p e s m args below meth c H locs ls C hW hl) (fun h => kf h p e s m args below meth c H locs ls C hW hl)
theorem ny_Il {idx n b : Nat} {c0 : Nat × va_E} {wr : va_W} {mc' ms' : Nat} {Q' : Option Value → va_W → Prop} (hdg : decode y.2.1 pc = .ok (.invokespecial idx, 3)) (hp : pc + 3 = pc') (hlk : Cond.methodLink y.1.cls idx z.1 ∈ zWS ∨ (y.1.cls, idx, z.1, "ProperFollow") ∈ zNW) (hz : zlk z n) (hi : Cond.instanceMethod z.1 ∈ zWS) (hret : z.2.2.2 = none) (hname : z.1.name = "<init>") (hst : st = As.reverse ++ .ref b :: rest) (hn : As.length = n) (hcat : (rest.map fun v => v.category).sum ≤ 8) (hd : d' + 1 ≤ d) (hc : kc + mc' ≤ mc) (hs : ks + ms' ≤ ms)
    (hK : yK g d' mc' ms' z (.ref b :: As) [c0] Q') (k : ∀ w1, Q' none w1 → yR g A d mc ms y pc' L rest (wr ++ w1) (kc + mc') (ks + ms') Q) (hv : ∀ v w1, Q' v w1 → v = none) : yR g A d mc ms y pc L st (wr ++ [c0]) kc ks Q := by
  have hC : [wr.length].map (fun i => (wr ++ [c0])[i]?) = [c0].map some := by simp
  have hR : (List.range' 0 wr.length).map (fun i => (wr ++ [c0])[i]?) = wr.map some := by
    rw [← map_range wr]
    apply List.map_congr_left
    intro i hi
    have := List.mem_range'_1.mp hi
    exact List.getElem?_append_left (by omega)
  have hdis : ∀ i ∈ List.range' 0 wr.length, i ∉ [wr.length] := by
    intro i hi
    have := List.mem_range'_1.mp hi
    simp; omega
  rcases hlk with hlk | hlk
  · exact ny_I hdg hp hlk hz hi hret hname hst hn hcat hd hc hs [wr.length] (List.range' 0 wr.length) hC rfl hR (nd_range _ _) hdis hK k hv
  · exact ny_IN hdg hp hlk hz hi hret hname hst hn hcat hd hc hs [wr.length] (List.range' 0 wr.length) hC rfl hR (nd_range _ _) hdis hK k hv
end YS
theorem MS_cod (g : yG) (k : Nat) (hk : k < 7) : yK g 1 0 0 YJ0_coder_7d493 [.ref (g.2.2.2.1 k)] [] (fun v w9 => v = some (.int 0) ∧ w9 = []) := by
  refine yK_of (by decide) (Nat.le_of_ble_eq_true rfl) (fun A => ?_)
  refine ny_loc [0] rfl ?_
  refine ny_compact (pc' := 3) dJ0_coder_7d493_0 rfl ffJ0_38 ?_
  refine ny_if_eq (tgt := 13) (pc' := 6) dJ0_coder_7d493_3 rfl (by decide) (fun c => absurd c (by decide)) (fun _ => ?_)
  refine ny_aload_n 0 (pc' := 7) dJ0_coder_7d493_6 rfl rfl rfl ?_
  refine ny_scoder (pc' := 10) dJ0_coder_7d493_7 rfl ffJ0_15 hk ?_
  refine ny_goto (tgt := 14) dJ0_coder_7d493_10 (by decide) ?_
  exact ny_nret dJ0_coder_7d493_14 rfl rfl (Nat.le_refl _) (Nat.le_refl _) ⟨rfl, rfl⟩
theorem MS_isl (g : yG) (k : Nat) (hk : k < 7) : yK g 1 0 0 YJ0_isLatin1_aae02 [.ref (g.2.2.2.1 k)] [] (fun v w9 => v = some (.int 1) ∧ w9 = []) := by
  refine yK_of (by decide) (Nat.le_of_ble_eq_true rfl) (fun A => ?_)
  refine ny_loc [0] rfl ?_
  refine ny_compact (pc' := 3) dJ0_isLatin1_aae02_0 rfl ffJ0_38 ?_
  refine ny_if_eq (tgt := 17) (pc' := 6) dJ0_isLatin1_aae02_3 rfl (by decide) (fun c => absurd c (by decide)) (fun _ => ?_)
  refine ny_aload_n 0 (pc' := 7) dJ0_isLatin1_aae02_6 rfl rfl rfl ?_
  refine ny_scoder (pc' := 10) dJ0_isLatin1_aae02_7 rfl ffJ0_15 hk ?_
  refine ny_if_ne (tgt := 17) (pc' := 13) dJ0_isLatin1_aae02_10 rfl (by decide) (fun c => absurd rfl c) (fun _ => ?_)
  refine ny_iconst (pc' := 14) dJ0_isLatin1_aae02_13 rfl kiconst_1 ?_
  refine ny_goto (tgt := 18) dJ0_isLatin1_aae02_14 (by decide) ?_
  exact ny_nret dJ0_isLatin1_aae02_18 rfl rfl (Nat.le_refl _) (Nat.le_refl _) ⟨rfl, rfl⟩
theorem MS_len (g : yG) (k : Nat) (hk : k < 7) : yK g 2 0 0 YJ0_length_8abf5 [.ref (g.2.2.2.1 k)] [] (fun v w9 => v = some (.int (nI (zSL.getD k 0))) ∧ w9 = []) := by
  refine yK_of (by decide) (Nat.le_of_ble_eq_true rfl) (fun A => ?_)
  refine ny_loc [0] rfl ?_
  refine ny_aload_n 0 (pc' := 1) dJ0_length_8abf5_0 rfl rfl rfl ?_
  refine ny_svalue (pc' := 4) dJ0_length_8abf5_1 rfl ffJ0_9 hk ?_
  refine ny_slen (pc' := 5) dJ0_length_8abf5_4 rfl hk rfl ?_
  refine ny_aload_n 0 (pc' := 6) dJ0_length_8abf5_5 rfl rfl rfl ?_
  refine ny_VS1 (pc' := 9) (z := YJ0_coder_7d493) (As := []) dJ0_length_8abf5_6 rfl mlJ0_335 lkJ0_coder_7d493 rfl hk rfl rfl (Nat.le_of_ble_eq_true rfl) (Nat.le_of_ble_eq_true rfl) (Nat.le_refl _) (Nat.le_refl _) (MS_cod g k hk) ?_
  refine ny_ishr (pc' := 10) dJ0_length_8abf5_9 rfl ?_
  refine ny_eqi (zSL_ok k hk).1.symm ?_
  exact ny_iret dJ0_length_8abf5_10 rfl (Nat.le_refl _) (Nat.le_refl _) ⟨rfl, rfl⟩
theorem MS_chk3 (g : yG) (i n : Int32) (v : Value) (hv : v = .null ∨ ∃ t, v = .ref t) (h0 : ¬ i < 0) (h1 : i < n) : yK g 1 0 0 YJ3_checkIndex_8e157 [.int i, .int n, v] [] (fun w w9 => w = some (.int i) ∧ w9 = []) := by
  have hl : lv_args 0 [.int i, .int n, v] = [(0, .int i), (1, .int n), (2, v)] := by rcases hv with rfl | ⟨t, rfl⟩ <;> rfl
  refine yK_of (by decide) (by rcases hv with rfl | ⟨t, rfl⟩ <;> exact (Nat.le_of_ble_eq_true rfl)) (fun A => ?_)
  rw [hl]
  refine ny_iload_n 0 (pc' := 1) dJ3_checkIndex_8e157_0 rfl rfl rfl ?_
  refine ny_if_lt (tgt := 9) (pc' := 4) dJ3_checkIndex_8e157_1 rfl (by decide) (fun c => absurd c h0) (fun _ => ?_)
  refine ny_iload_n 0 (pc' := 5) dJ3_checkIndex_8e157_4 rfl rfl rfl ?_
  refine ny_iload_n 1 (pc' := 6) dJ3_checkIndex_8e157_5 rfl rfl rfl ?_
  refine ny_icmp_lt (tgt := 16) (pc' := 9) dJ3_checkIndex_8e157_6 rfl (by decide) (fun _ => ?_) (fun c => absurd h1 c)
  refine ny_iload_n 0 (pc' := 17) dJ3_checkIndex_8e157_16 rfl rfl rfl ?_
  exact ny_iret dJ3_checkIndex_8e157_17 rfl (Nat.le_refl _) (Nat.le_refl _) ⟨rfl, rfl⟩
theorem MS_chk (g : yG) (i n : Int32) (h0 : ¬ i < 0) (h1 : i < n) : yK g 2 0 0 YJ0_checkIndex_df160 [.int i, .int n] [] (fun w w9 => w = none ∧ w9 = []) := by
  refine yK_of (by decide) (Nat.le_of_ble_eq_true rfl) (fun A => ?_)
  refine ny_loc [0, 1] rfl ?_
  refine ny_iload_n 0 (pc' := 1) dJ0_checkIndex_df160_0 rfl rfl rfl ?_
  refine ny_iload_n 1 (pc' := 2) dJ0_checkIndex_df160_1 rfl rfl rfl ?_
  refine ny_getsq (pc' := 5) dJ0_checkIndex_df160_2 rfl ffJ0_1053 (by decide) (fun v hv => ?_)
  refine ny_S1 (pc' := 8) (z := YJ3_checkIndex_8e157) (As := [.int i, .int n, v]) dJ0_checkIndex_df160_5 rfl mlJ0_1059 lkJ3_checkIndex_8e157 rfl rfl (Nat.le_of_ble_eq_true rfl) (Nat.le_of_ble_eq_true rfl) (Nat.le_refl _) (Nat.le_refl _) (MS_chk3 g i n v hv h0 h1) ?_
  refine ny_pop (pc' := 9) dJ0_checkIndex_df160_8 rfl rfl ?_
  exact ny_vret dJ0_checkIndex_df160_9 rfl (Nat.le_refl _) (Nat.le_refl _) ⟨rfl, rfl⟩
theorem MS_chr1 (g : yG) (k : Nat) (hk : k < 7) (j : Int32) {v : Int32} (hv : zrd (zchr k) (zSL.getD k 0) j = some v) : yK g 3 0 0 YJ1_charAt_3b067 [.ref (g.2.2.2.2 k), .int j] [] (fun w w9 => w = some (.int v) ∧ w9 = []) := by
  obtain ⟨hin, e⟩ := zrd_some hv
  have ok := zSL_ok k hk
  obtain ⟨q, hq, rfl⟩ := vp_in_of hin ok.2.1
  rw [nI_clamp (by omega)] at e
  refine yK_of (by decide) (Nat.le_of_ble_eq_true rfl) (fun A => ?_)
  refine ny_loc [0, 1] rfl ?_
  refine ny_iload_n 1 (pc' := 1) dJ1_charAt_3b067_0 rfl rfl rfl ?_
  refine ny_aload_n 0 (pc' := 2) dJ1_charAt_3b067_1 rfl rfl rfl ?_
  refine ny_slen (pc' := 3) dJ1_charAt_3b067_2 rfl hk rfl ?_
  refine ny_S0 (pc' := 6) (z := YJ0_checkIndex_df160) (As := [.int (nI q), .int (nI (zSL.getD k 0))]) dJ1_charAt_3b067_3 rfl mlJ1_9 lkJ0_checkIndex_df160 rfl rfl (Nat.le_of_ble_eq_true rfl) (Nat.le_of_ble_eq_true rfl) (Nat.le_refl _) (Nat.le_refl _) (MS_chk g (nI q) (nI (zSL.getD k 0)) (nI_pos (by omega)) (nI_lt hq ok.2.1)) ?_
  refine ny_aload_n 0 (pc' := 7) dJ1_charAt_3b067_6 rfl rfl rfl ?_
  refine ny_iload_n 1 (pc' := 8) dJ1_charAt_3b067_7 rfl rfl rfl ?_
  refine ny_sbyte (pc' := 9) dJ1_charAt_3b067_8 rfl hk hin ?_
  rw [nI_clamp (by omega)]
  refine ny_sipush (pc' := 12) dJ1_charAt_3b067_9 rfl ksipush_255 ?_
  refine ny_iand (pc' := 13) dJ1_charAt_3b067_12 rfl ?_
  refine ny_i2c (pc' := 14) dJ1_charAt_3b067_13 rfl (ok.2.2 q hq).1 ?_
  exact ny_nret dJ1_charAt_3b067_14 rfl (ok.2.2 q hq).2 (Nat.le_refl _) (Nat.le_refl _) ⟨by rw [e], rfl⟩
theorem MS_chr (g : yG) (k : Nat) (hk : k < 7) (j : Int32) {v : Int32} (hv : zrd (zchr k) (zSL.getD k 0) j = some v) : yK g 4 0 0 YJ0_charAt_5068e [.ref (g.2.2.2.1 k), .int j] [] (fun w w9 => w = some (.int v) ∧ w9 = []) := by
  refine yK_of (by decide) (Nat.le_of_ble_eq_true rfl) (fun A => ?_)
  refine ny_loc [0, 1] rfl ?_
  have hn : narrow .char (.int v) = .int v := by
    obtain ⟨hin, e⟩ := zrd_some hv
    have ok := zSL_ok k hk
    obtain ⟨q, hq, rfl⟩ := vp_in_of hin ok.2.1
    rw [nI_clamp (by omega)] at e
    rw [← e]
    exact (ok.2.2 q hq).2
  refine ny_aload_n 0 (pc' := 1) dJ0_charAt_5068e_0 rfl rfl rfl ?_
  refine ny_VS1 (pc' := 4) (z := YJ0_isLatin1_aae02) (As := []) dJ0_charAt_5068e_1 rfl mlJ0_492 lkJ0_isLatin1_aae02 rfl hk rfl rfl (Nat.le_of_ble_eq_true rfl) (Nat.le_of_ble_eq_true rfl) (Nat.le_refl _) (Nat.le_refl _) (MS_isl g k hk) ?_
  refine ny_if_eq (tgt := 16) (pc' := 7) dJ0_charAt_5068e_4 rfl (by decide) (fun c => absurd c (by decide)) (fun _ => ?_)
  refine ny_aload_n 0 (pc' := 8) dJ0_charAt_5068e_7 rfl rfl rfl ?_
  refine ny_svalue (pc' := 11) dJ0_charAt_5068e_8 rfl ffJ0_9 hk ?_
  refine ny_iload_n 1 (pc' := 12) dJ0_charAt_5068e_11 rfl rfl rfl ?_
  refine ny_S1 (pc' := 15) (z := YJ1_charAt_3b067) (As := [.ref (g.2.2.2.2 k), .int j]) dJ0_charAt_5068e_12 rfl mlJ0_495 lkJ1_charAt_3b067 rfl rfl (Nat.le_of_ble_eq_true rfl) (Nat.le_of_ble_eq_true rfl) (Nat.le_refl _) (Nat.le_refl _) (MS_chr1 g k hk j hv) ?_
  exact ny_nret dJ0_charAt_5068e_15 rfl hn (Nat.le_refl _) (Nat.le_refl _) ⟨rfl, rfl⟩
