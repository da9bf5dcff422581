/-! rules for the making of objects (by wip/whole/g17.py) -/
section YJ
variable {g : yG} {A : Nat → Prop} {d mc ms kc ks : Nat} {y : zY} {pc pc' : Nat} {L L' : List (Nat × Value)} {rest : List Value} {ws ws' : va_W} {Q : Option Value → va_W → Prop}
theorem ny_iconst {n : Int} {v : Int32} (hdg : decode y.2.1 pc = .ok (.iconst n, 1)) (hp : pc + 1 = pc') (hv : Int32.ofInt n = v) (k : yR g A d mc ms y pc' L (.int v :: rest) ws kc ks Q) : yR g A d mc ms y pc L (rest) ws kc ks Q := by
  subst hp
  intro p e s m args below meth c H locs ls C hW hl
  exact lv_iconst C.1 C.2.1 hdg hv (k p e s m args below meth c H locs ls C hW hl)
theorem ny_bipush {n : Int} {v : Int32} (hdg : decode y.2.1 pc = .ok (.bipush n, 2)) (hp : pc + 2 = pc') (hv : (Int8.ofInt n).toInt32 = v) (k : yR g A d mc ms y pc' L (.int v :: rest) ws kc ks Q) : yR g A d mc ms y pc L (rest) ws kc ks Q := by
  subst hp
  intro p e s m args below meth c H locs ls C hW hl
  exact lv_bipush C.1 C.2.1 hdg hv (k p e s m args below meth c H locs ls C hW hl)
theorem ny_sipush {n : Int} {v : Int32} (hdg : decode y.2.1 pc = .ok (.sipush n, 3)) (hp : pc + 3 = pc') (hv : (Int16.ofInt n).toInt32 = v) (k : yR g A d mc ms y pc' L (.int v :: rest) ws kc ks Q) : yR g A d mc ms y pc L (rest) ws kc ks Q := by
  subst hp
  intro p e s m args below meth c H locs ls C hW hl
  exact lv_sipush C.1 C.2.1 hdg hv (k p e s m args below meth c H locs ls C hW hl)
theorem ny_dup {va : Value} (hdg : decode y.2.1 pc = .ok (.dup, 1)) (hp : pc + 1 = pc') (hva : va.category = 1) (k : yR g A d mc ms y pc' L (va :: va :: rest) ws kc ks Q) : yR g A d mc ms y pc L (va :: rest) ws kc ks Q := by
  subst hp
  intro p e s m args below meth c H locs ls C hW hl
  exact lv_dup C.1 C.2.1 hdg hva (k p e s m args below meth c H locs ls C hW hl)
theorem ny_iadd {x z : Int32} (hdg : decode y.2.1 pc = .ok (.iadd, 1)) (hp : pc + 1 = pc') (k : yR g A d mc ms y pc' L (.int (x + z) :: rest) ws kc ks Q) : yR g A d mc ms y pc L (.int z :: .int x :: rest) ws kc ks Q := by
  subst hp
  intro p e s m args below meth c H locs ls C hW hl
  exact lv_iadd C.1 C.2.1 hdg (k p e s m args below meth c H locs ls C hW hl)
theorem ny_isub {x z : Int32} (hdg : decode y.2.1 pc = .ok (.isub, 1)) (hp : pc + 1 = pc') (k : yR g A d mc ms y pc' L (.int (x - z) :: rest) ws kc ks Q) : yR g A d mc ms y pc L (.int z :: .int x :: rest) ws kc ks Q := by
  subst hp
  intro p e s m args below meth c H locs ls C hW hl
  exact lv_isub C.1 C.2.1 hdg (k p e s m args below meth c H locs ls C hW hl)
theorem ny_ladd {x z : Int64} (hdg : decode y.2.1 pc = .ok (.ladd, 1)) (hp : pc + 1 = pc') (k : yR g A d mc ms y pc' L (.long (x + z) :: rest) ws kc ks Q) : yR g A d mc ms y pc L (.long z :: .long x :: rest) ws kc ks Q := by
  subst hp
  intro p e s m args below meth c H locs ls C hW hl
  exact lv_ladd C.1 C.2.1 hdg (k p e s m args below meth c H locs ls C hW hl)
theorem ny_lmul {x z : Int64} (hdg : decode y.2.1 pc = .ok (.lmul, 1)) (hp : pc + 1 = pc') (k : yR g A d mc ms y pc' L (.long (x * z) :: rest) ws kc ks Q) : yR g A d mc ms y pc L (.long z :: .long x :: rest) ws kc ks Q := by
  subst hp
  intro p e s m args below meth c H locs ls C hW hl
  exact lv_lmul C.1 C.2.1 hdg (k p e s m args below meth c H locs ls C hW hl)
theorem ny_i2l {x : Int32} (hdg : decode y.2.1 pc = .ok (.i2l, 1)) (hp : pc + 1 = pc') (k : yR g A d mc ms y pc' L (.long (x.toInt64) :: rest) ws kc ks Q) : yR g A d mc ms y pc L (.int x :: rest) ws kc ks Q := by
  subst hp
  intro p e s m args below meth c H locs ls C hW hl
  exact lv_i2l C.1 C.2.1 hdg rfl (k p e s m args below meth c H locs ls C hW hl)
theorem ny_iload (k0 : Nat) {i : Nat} {x : Int32} (hdg : decode y.2.1 pc = .ok (.iload i, 2)) (hp : pc + 2 = pc') (hk : L[k0]? = some (i, .int x)) (k : yR g A d mc ms y pc' L (.int x :: rest) ws kc ks Q) : yR g A d mc ms y pc L rest ws kc ks Q := by
  subst hp
  intro p e s m args below meth c H locs ls C hW hl
  exact lv_iload C.1 C.2.1 hdg (lv_at hl k0 hk) (k p e s m args below meth c H locs ls C hW hl)
theorem ny_iload_n (k0 : Nat) {j : Fin 4} {i : Nat} {x : Int32} (hdg : decode y.2.1 pc = .ok (.iload_n j, 1)) (hp : pc + 1 = pc') (hi : (j : Nat) = i) (hk : L[k0]? = some (i, .int x)) (k : yR g A d mc ms y pc' L (.int x :: rest) ws kc ks Q) : yR g A d mc ms y pc L rest ws kc ks Q := by
  subst hp
  intro p e s m args below meth c H locs ls C hW hl
  exact lv_iload_n C.1 C.2.1 hdg hi (lv_at hl k0 hk) (k p e s m args below meth c H locs ls C hW hl)
theorem ny_istore_n {j : Fin 4} {i : Nat} {x : Int32} (hdg : decode y.2.1 pc = .ok (.istore_n j, 1)) (hp : pc + 1 = pc') (hi : (j : Nat) = i) (hn : i < y.2.2.1) (hL : (i, Value.int x) :: L.filter (fun q => !(q.1 == i) && !(q.1 + 1 == i && q.2.category == 2)) = L') (k : yR g A d mc ms y pc' L' rest ws kc ks Q) : yR g A d mc ms y pc L (.int x :: rest) ws kc ks Q := by
  subst hp
  intro p e s m args below meth c H locs ls C hW hl
  exact lv_istore_n C.1 C.2.1 hdg hi hl hn hL (fun ls hl => k p e s m args below meth c H locs ls C hW hl)
theorem ny_lload (k0 : Nat) {i : Nat} {x : Int64} (hdg : decode y.2.1 pc = .ok (.lload i, 2)) (hp : pc + 2 = pc') (hk : L[k0]? = some (i, .long x)) (k : yR g A d mc ms y pc' L (.long x :: rest) ws kc ks Q) : yR g A d mc ms y pc L rest ws kc ks Q := by
  subst hp
  intro p e s m args below meth c H locs ls C hW hl
  exact lv_lload C.1 C.2.1 hdg (lv_at hl k0 hk) (k p e s m args below meth c H locs ls C hW hl)
theorem ny_lload_n (k0 : Nat) {j : Fin 4} {i : Nat} {x : Int64} (hdg : decode y.2.1 pc = .ok (.lload_n j, 1)) (hp : pc + 1 = pc') (hi : (j : Nat) = i) (hk : L[k0]? = some (i, .long x)) (k : yR g A d mc ms y pc' L (.long x :: rest) ws kc ks Q) : yR g A d mc ms y pc L rest ws kc ks Q := by
  subst hp
  intro p e s m args below meth c H locs ls C hW hl
  exact lv_lload_n C.1 C.2.1 hdg hi (lv_at hl k0 hk) (k p e s m args below meth c H locs ls C hW hl)
theorem ny_aload (k0 : Nat) {i : Nat} {x : Nat} (hdg : decode y.2.1 pc = .ok (.aload i, 2)) (hp : pc + 2 = pc') (hk : L[k0]? = some (i, .ref x)) (k : yR g A d mc ms y pc' L (.ref x :: rest) ws kc ks Q) : yR g A d mc ms y pc L rest ws kc ks Q := by
  subst hp
  intro p e s m args below meth c H locs ls C hW hl
  exact lv_aload C.1 C.2.1 hdg (lv_at hl k0 hk) (k p e s m args below meth c H locs ls C hW hl)
theorem ny_aload_n (k0 : Nat) {j : Fin 4} {i : Nat} {x : Nat} (hdg : decode y.2.1 pc = .ok (.aload_n j, 1)) (hp : pc + 1 = pc') (hi : (j : Nat) = i) (hk : L[k0]? = some (i, .ref x)) (k : yR g A d mc ms y pc' L (.ref x :: rest) ws kc ks Q) : yR g A d mc ms y pc L rest ws kc ks Q := by
  subst hp
  intro p e s m args below meth c H locs ls C hW hl
  exact lv_aload_n C.1 C.2.1 hdg hi (lv_at hl k0 hk) (k p e s m args below meth c H locs ls C hW hl)
theorem ny_astore_n {j : Fin 4} {i : Nat} {x : Nat} (hdg : decode y.2.1 pc = .ok (.astore_n j, 1)) (hp : pc + 1 = pc') (hi : (j : Nat) = i) (hn : i < y.2.2.1) (hL : (i, Value.ref x) :: L.filter (fun q => !(q.1 == i) && !(q.1 + 1 == i && q.2.category == 2)) = L') (k : yR g A d mc ms y pc' L' rest ws kc ks Q) : yR g A d mc ms y pc L (.ref x :: rest) ws kc ks Q := by
  subst hp
  intro p e s m args below meth c H locs ls C hW hl
  exact lv_astore_n C.1 C.2.1 hdg hi hl hn hL (fun ls hl => k p e s m args below meth c H locs ls C hW hl)
theorem ny_iinc (k0 : Nat) {i : Nat} {n : Int} {x v : Int32} (hdg : decode y.2.1 pc = .ok (.iinc i n, 3)) (hp : pc + 3 = pc') (hk : L[k0]? = some (i, .int x)) (hv : x + Int32.ofInt n = v) (hn : i < y.2.2.1) (hL : (i, Value.int v) :: L.filter (fun q => !(q.1 == i) && !(q.1 + 1 == i && q.2.category == 2)) = L') (k : yR g A d mc ms y pc' L' rest ws kc ks Q) : yR g A d mc ms y pc L rest ws kc ks Q := by
  subst hp
  intro p e s m args below meth c H locs ls C hW hl
  exact lv_iinc C.1 C.2.1 hdg hl hk hv hn hL (fun ls hl => k p e s m args below meth c H locs ls C hW hl)
theorem ny_loc (is : List Nat) (hL : lv_pick L is = L') (k : yR g A d mc ms y pc L' rest ws kc ks Q) : yR g A d mc ms y pc L rest ws kc ks Q := fun p e s m args below meth c H locs ls C hW hl => k p e s m args below meth c H locs ls C hW (lv_sub hl is hL)
theorem ny_icmp_ge {off : Int} {tgt : Nat} {x z : Int32} (hdg : decode y.2.1 pc = .ok (.if_icmp .ge off, 3)) (hp : pc + 3 = pc') (ht : (pc : Int) + off = (tgt : Int)) (kt : z ≤ x → yR g A d mc ms y tgt L rest ws kc ks Q) (kf : ¬ z ≤ x → yR g A d mc ms y pc' L rest ws kc ks Q) : yR g A d mc ms y pc L (.int z :: .int x :: rest) ws kc ks Q := by
  subst hp
  intro p e s m args below meth c H locs ls C hW hl
  exact lv_icmp_ge C.1 C.2.1 hdg ht (fun h => kt h p e s m args below meth c H locs ls C hW hl) (fun h => kf h p e s m args below meth c H locs ls C hW hl)
theorem ny_icmp_ne {off : Int} {tgt : Nat} {x z : Int32} (hdg : decode y.2.1 pc = .ok (.if_icmp .ne off, 3)) (hp : pc + 3 = pc') (ht : (pc : Int) + off = (tgt : Int)) (kt : ¬ x = z → yR g A d mc ms y tgt L rest ws kc ks Q) (kf : x = z → yR g A d mc ms y pc' L rest ws kc ks Q) : yR g A d mc ms y pc L (.int z :: .int x :: rest) ws kc ks Q := by
  subst hp
  intro p e s m args below meth c H locs ls C hW hl
  exact lv_icmp_ne C.1 C.2.1 hdg ht (fun h => kt h p e s m args below meth c H locs ls C hW hl) (fun h => kf h p e s m args below meth c H locs ls C hW hl)
theorem ny_goto {off : Int} {tgt : Nat} (hdg : decode y.2.1 pc = .ok (.goto off, 3)) (ht : (pc : Int) + off = (tgt : Int)) (k : yR g A d mc ms y tgt L rest ws kc ks Q) : yR g A d mc ms y pc L rest ws kc ks Q := by
  intro p e s m args below meth c H locs ls C hW hl
  exact lv_goto C.1 C.2.1 hdg ht (k p e s m args below meth c H locs ls C hW hl)
theorem ny_ldc2 {idx : Nat} {v : Int64} (hdg : decode y.2.1 pc = .ok (.ldc2_w idx, 3)) (hp : pc + 3 = pc') (hc : Cond.constantLong y.1.cls idx v ∈ zWS) (k : yR g A d mc ms y pc' L (.long v :: rest) ws kc ks Q) : yR g A d mc ms y pc L rest ws kc ks Q := by
  subst hp
  intro p e s m args below meth c H locs ls C hW hl
  exact lv_ldc2 C.1 C.2.1 C.2.2.2.2.2.1 (C.2.2.2.2.2.2.1 _ hc) hdg (k p e s m args below meth c H locs ls C hW hl)
theorem ny_ldcS {idx k0 : Nat} {tx : String} (hdg : decode y.2.1 pc = .ok (.ldc idx, 2)) (hp : pc + 2 = pc') (hc : (y.1.cls, idx, tx, k0) ∈ zSC) (k : yR g A d mc ms y pc' L (.ref (g.2.2.2.1 k0) :: rest) ws kc ks Q) : yR g A d mc ms y pc L rest ws kc ks Q := by
  subst hp
  intro p e s m args below meth c H locs ls C hW hl
  exact va_ldcS C.1 C.2.1 C.2.2.2.2.2.1 (C.2.2.2.2.2.2.2.2.1.2.2.1 _ hc) hdg (k p e s m args below meth c H locs ls C hW hl)
theorem ny_obj {idx a : Nat} (hdg : decode y.2.1 pc = .ok (.invokespecial idx, 3)) (hp : pc + 3 = pc') (h1 : Cond.methodLink y.1.cls idx objectInit ∈ zWS) (h2 : Cond.instanceMethod objectInit ∈ zWS) (h3 : Cond.code objectInit ⟨#[0xb1]⟩ 1 none ∈ zWS) (hd : 1 ≤ d) (hcat : (rest.map fun v => v.category).sum ≤ 8) (k : yR g A d mc ms y pc' L rest ws kc ks Q) : yR g A d mc ms y pc L (.ref a :: rest) ws kc ks Q := by
  subst hp
  intro p e s m args below meth c H locs ls C hW hl
  have hts := C.2.2.2.2.2.2.1
  refine W.objInit C.1 C.2.1 C.2.2.2.2.2.1 (hts _ h1) (hts _ h2) (hts _ h3) rfl (by rw [C.2.2.1]; exact hl.1) rfl hdg hd ?_ ?_
  · show 2 * 0 + _ + 12 ≤ 64 * d
    omega
  · exact k p e s m args below meth c H locs ls C hW hl
theorem ny_vret (hdg : decode y.2.1 pc = .ok (.return_, 1)) (hr : y.2.2.2 = none) (hc : kc ≤ mc) (hs : ks ≤ ms) (q : Q none ws) : yR g A d mc ms y pc L [] ws kc ks Q := by
  intro p e s m args below meth c H locs ls C hW hl
  refine W.widen hc hs ?_
  exact W.vret C.1 C.2.1 (C.2.2.2.1.trans hr) (fun t ht hWm => ⟨⟨_, ws, rfl, q, by rw [ht]; exact hW.1, hW.2.1⟩, hW.2.2.F ht⟩) hW.2.2.2.2 hdg C.2.2.2.2.1
theorem ny_aret {a : Nat} {rt : FieldType} (hdg : decode y.2.1 pc = .ok (.areturn, 1)) (hr : y.2.2.2 = some rt) (hrt : (∃ n, rt = .object n) ∨ ∃ t, rt = .array t) (hc : kc ≤ mc) (hs : ks ≤ ms) (q : Q (some (.ref a)) ws) : yR g A d mc ms y pc L [.ref a] ws kc ks Q := by
  intro p e s m args below meth c H locs ls C hW hl
  refine W.widen hc hs ?_
  exact W.aret C.1 C.2.1 (C.2.2.2.1.trans hr) hrt (Or.inr ⟨_, rfl⟩) (fun t ht hWm => ⟨⟨_, ws, rfl, q, by rw [ht]; exact hW.1, hW.2.1⟩, hW.2.2.F ht⟩) hW.2.2.2.2 hdg C.2.2.2.2.1
theorem ny_lret {v : Int64} (hdg : decode y.2.1 pc = .ok (.lreturn, 1)) (hr : y.2.2.2 = some .long) (hc : kc ≤ mc) (hs : ks ≤ ms) (q : Q (some (.long v)) ws) : yR g A d mc ms y pc L [.long v] ws kc ks Q := by
  intro p e s m args below meth c H locs ls C hW hl
  refine W.widen hc hs ?_
  exact W.lret C.1 C.2.1 (C.2.2.2.1.trans hr) (fun t ht hWm => ⟨⟨_, ws, rfl, q, by rw [ht]; exact hW.1, hW.2.1⟩, hW.2.2.F ht⟩) hW.2.2.2.2 hdg C.2.2.2.2.1
theorem ny_newI {n : Int32} {N : Nat} (hdg : decode y.2.1 pc = .ok (.newarray .int, 2)) (hp : pc + 2 = pc') (hw : Cond.arrayClass .int ∈ zWS) (hn : ¬ n < 0) (hN : n.toNatClampNeg = N) (hb : N * 8 ≤ 536870912) (hc : kc + 1 ≤ mc) (hs : ks + N ≤ ms) (k : ∀ q : Nat, yR g A d mc ms y pc' L (.ref q :: rest) (ws ++ [(q, .inl (g.2.1 0, N, .inl (fun _ => 0)))]) (kc + 1) (ks + N) Q) : yR g A d mc ms y pc L (.int n :: rest) ws kc ks Q := by
  subst hp
  intro p e s m args below meth c H locs ls C hW hl
  have hts := C.2.2.2.2.2.2.1
  refine va_newa (atype := .int) C.1 C.2.1 (hts _ hw) rfl C.2.2.2.2.2.2.2.1 hW.1 hW.2.1 hW.2.2 C.2.2.2.2.2.2.2.2.2.1 (a0 := (N, .inl (fun _ => 0))) (fun _ => rfl) hn hN (Nat.le_trans (Nat.mul_le_mul_left N (by decide)) hb) hc hs hdg (fun q cA H1 hK hP hD hS => ?_)
  have e1 : va_RA s cA .int := (hK.2 6 (cA, .int) rfl).2
  have e2 : va_RA s (g.2.1 0) .int := (C.2.2.2.2.2.2.2.1.2 0 (g.2.1 0, .int) rfl).2
  have e3 : cA = g.2.1 0 := Option.some.inj (Eq.trans (Eq.symm e1) e2)
  subst e3
  exact k q p e s m args below meth c H1 locs ls C ⟨hP, hD, hS⟩ hl
theorem ny_newL {n : Int32} {N : Nat} (hdg : decode y.2.1 pc = .ok (.newarray .long, 2)) (hp : pc + 2 = pc') (hw : Cond.arrayClass .long ∈ zWS) (hn : ¬ n < 0) (hN : n.toNatClampNeg = N) (hb : N * 8 ≤ 536870912) (hc : kc + 1 ≤ mc) (hs : ks + N ≤ ms) (k : ∀ q : Nat, yR g A d mc ms y pc' L (.ref q :: rest) (ws ++ [(q, .inl (g.2.1 1, N, .inr (.inl (fun _ => 0))))]) (kc + 1) (ks + N) Q) : yR g A d mc ms y pc L (.int n :: rest) ws kc ks Q := by
  subst hp
  intro p e s m args below meth c H locs ls C hW hl
  have hts := C.2.2.2.2.2.2.1
  refine va_newa (atype := .long) C.1 C.2.1 (hts _ hw) rfl C.2.2.2.2.2.2.2.1 hW.1 hW.2.1 hW.2.2 C.2.2.2.2.2.2.2.2.2.1 (a0 := (N, .inr (.inl (fun _ => 0)))) (fun _ => rfl) hn hN (Nat.le_trans (Nat.mul_le_mul_left N (by decide)) hb) hc hs hdg (fun q cA H1 hK hP hD hS => ?_)
  have e1 : va_RA s cA .long := (hK.2 6 (cA, .long) rfl).2
  have e2 : va_RA s (g.2.1 1) .long := (C.2.2.2.2.2.2.2.1.2 1 (g.2.1 1, .long) rfl).2
  have e3 : cA = g.2.1 1 := Option.some.inj (Eq.trans (Eq.symm e1) e2)
  subst e3
  exact k q p e s m args below meth c H1 locs ls C ⟨hP, hD, hS⟩ hl
theorem ny_newB {n : Int32} {N : Nat} (hdg : decode y.2.1 pc = .ok (.newarray .byte, 2)) (hp : pc + 2 = pc') (hw : Cond.arrayClass .byte ∈ zWS) (hn : ¬ n < 0) (hN : n.toNatClampNeg = N) (hb : N * 8 ≤ 536870912) (hc : kc + 1 ≤ mc) (hs : ks + N ≤ ms) (k : ∀ q : Nat, yR g A d mc ms y pc' L (.ref q :: rest) (ws ++ [(q, .inl (g.2.1 2, N, .inl (fun _ => 0)))]) (kc + 1) (ks + N) Q) : yR g A d mc ms y pc L (.int n :: rest) ws kc ks Q := by
  subst hp
  intro p e s m args below meth c H locs ls C hW hl
  have hts := C.2.2.2.2.2.2.1
  refine va_newa (atype := .byte) C.1 C.2.1 (hts _ hw) rfl C.2.2.2.2.2.2.2.1 hW.1 hW.2.1 hW.2.2 C.2.2.2.2.2.2.2.2.2.1 (a0 := (N, .inl (fun _ => 0))) (fun _ => rfl) hn hN (Nat.le_trans (Nat.mul_le_mul_left N (by decide)) hb) hc hs hdg (fun q cA H1 hK hP hD hS => ?_)
  have e1 : va_RA s cA .byte := (hK.2 6 (cA, .byte) rfl).2
  have e2 : va_RA s (g.2.1 2) .byte := (C.2.2.2.2.2.2.2.1.2 2 (g.2.1 2, .byte) rfl).2
  have e3 : cA = g.2.1 2 := Option.some.inj (Eq.trans (Eq.symm e1) e2)
  subst e3
  exact k q p e s m args below meth c H1 locs ls C ⟨hP, hD, hS⟩ hl
theorem ny_newZ {n : Int32} {N : Nat} (hdg : decode y.2.1 pc = .ok (.newarray .boolean, 2)) (hp : pc + 2 = pc') (hw : Cond.arrayClass .boolean ∈ zWS) (hn : ¬ n < 0) (hN : n.toNatClampNeg = N) (hb : N * 8 ≤ 536870912) (hc : kc + 1 ≤ mc) (hs : ks + N ≤ ms) (k : ∀ q : Nat, yR g A d mc ms y pc' L (.ref q :: rest) (ws ++ [(q, .inl (g.2.1 3, N, .inl (fun _ => 0)))]) (kc + 1) (ks + N) Q) : yR g A d mc ms y pc L (.int n :: rest) ws kc ks Q := by
  subst hp
  intro p e s m args below meth c H locs ls C hW hl
  have hts := C.2.2.2.2.2.2.1
  refine va_newa (atype := .boolean) C.1 C.2.1 (hts _ hw) rfl C.2.2.2.2.2.2.2.1 hW.1 hW.2.1 hW.2.2 C.2.2.2.2.2.2.2.2.2.1 (a0 := (N, .inl (fun _ => 0))) (fun _ => rfl) hn hN (Nat.le_trans (Nat.mul_le_mul_left N (by decide)) hb) hc hs hdg (fun q cA H1 hK hP hD hS => ?_)
  have e1 : va_RA s cA .boolean := (hK.2 6 (cA, .boolean) rfl).2
  have e2 : va_RA s (g.2.1 3) .boolean := (C.2.2.2.2.2.2.2.1.2 3 (g.2.1 3, .boolean) rfl).2
  have e3 : cA = g.2.1 3 := Option.some.inj (Eq.trans (Eq.symm e1) e2)
  subst e3
  exact k q p e s m args below meth c H1 locs ls C ⟨hP, hD, hS⟩ hl
theorem ny_newD {n : Int32} {N idx : Nat} (hdg : decode y.2.1 pc = .ok (.anewarray idx, 3)) (hp : pc + 3 = pc') (hw : Cond.classLink y.1.cls idx "ProperFollow$Day" ∈ zWS) (hn : ¬ n < 0) (hN : n.toNatClampNeg = N) (hb : N * 4 ≤ 536870912) (hc : kc + 1 ≤ mc) (hs : ks + N ≤ ms) (k : ∀ q : Nat, yR g A d mc ms y pc' L (.ref q :: rest) (ws ++ [(q, .inl (g.2.1 4, N, .inr (.inr (.inr (.inr (fun _ => none))))))]) (kc + 1) (ks + N) Q) : yR g A d mc ms y pc L (.int n :: rest) ws kc ks Q := by
  subst hp
  intro p e s m args below meth c H locs ls C hW hl
  have hts := C.2.2.2.2.2.2.1
  refine va_newq C.1 C.2.1 C.2.2.2.2.2.1 (hts _ hw) C.2.2.2.2.2.2.2.2.1.2.2.2.2.2.1 C.2.2.2.2.2.2.2.1 hW.1 hW.2.1 hW.2.2 C.2.2.2.2.2.2.2.2.2.1 hn hN hb hc hs hdg (fun q cA H1 hK hP hD hS => ?_)
  have e1 : va_RA s cA (.object "ProperFollow$Day") := (hK.2 6 (cA, .object "ProperFollow$Day") rfl).2
  have e2 : va_RA s (g.2.1 4) (.object "ProperFollow$Day") := (C.2.2.2.2.2.2.2.1.2 4 (g.2.1 4, .object "ProperFollow$Day") rfl).2
  obtain ⟨_, _, -, -, -, f1⟩ := e1
  obtain ⟨_, _, -, -, -, f2⟩ := e2
  have e3 : cA = g.2.1 4 := Option.some.inj (f1.symm.trans f2)
  subst e3
  exact k q p e s m args below meth c H1 locs ls C ⟨hP, hD, hS⟩ hl
theorem ny_newK {n : Int32} {N idx : Nat} (hdg : decode y.2.1 pc = .ok (.anewarray idx, 3)) (hp : pc + 3 = pc') (hw : Cond.classLink y.1.cls idx "ProperFollow$Kept" ∈ zWS) (hn : ¬ n < 0) (hN : n.toNatClampNeg = N) (hb : N * 4 ≤ 536870912) (hc : kc + 1 ≤ mc) (hs : ks + N ≤ ms) (k : ∀ q : Nat, yR g A d mc ms y pc' L (.ref q :: rest) (ws ++ [(q, .inl (g.2.1 5, N, .inr (.inr (.inr (.inr (fun _ => none))))))]) (kc + 1) (ks + N) Q) : yR g A d mc ms y pc L (.int n :: rest) ws kc ks Q := by
  subst hp
  intro p e s m args below meth c H locs ls C hW hl
  have hts := C.2.2.2.2.2.2.1
  refine va_newq C.1 C.2.1 C.2.2.2.2.2.1 (hts _ hw) C.2.2.2.2.2.2.2.2.1.2.2.2.2.2.2 C.2.2.2.2.2.2.2.1 hW.1 hW.2.1 hW.2.2 C.2.2.2.2.2.2.2.2.2.1 hn hN hb hc hs hdg (fun q cA H1 hK hP hD hS => ?_)
  have e1 : va_RA s cA (.object "ProperFollow$Kept") := (hK.2 6 (cA, .object "ProperFollow$Kept") rfl).2
  have e2 : va_RA s (g.2.1 5) (.object "ProperFollow$Kept") := (C.2.2.2.2.2.2.2.1.2 5 (g.2.1 5, .object "ProperFollow$Kept") rfl).2
  obtain ⟨_, _, -, -, -, f1⟩ := e1
  obtain ⟨_, _, -, -, -, f2⟩ := e2
  have e3 : cA = g.2.1 5 := Option.some.inj (f1.symm.trans f2)
  subst e3
  exact k q p e s m args below meth c H1 locs ls C ⟨hP, hD, hS⟩ hl
def zfldF (own : String) (idx ci k : Nat) (ty : FieldType) : Prop := ∃ (C : String) (T : u_T) (N : Nat) (tf : Nat → FieldType), zCL[ci]? = some (C, T, N) ∧ (∀ w ∈ u_ws C T N, w ∈ zWS) ∧ k < N ∧ Cond.fieldLink own idx (T k).1 (T k).2.1 (T k).2.2.1 ∈ zWS ∧ (∀ k, k < N → parseFieldDescriptor (T k).2.2.1 = some (tf k)) ∧ (∀ a, a < N → ∀ b, b < N → a ≠ b → (T a).2.1 ≠ (T b).2.1) ∧ (T k).2.2.2 = true ∧ (T k).1 = own ∧ parseFieldDescriptor (T k).2.2.1 = some ty
theorem ny_putF {idx i ci k0 a : Nat} {fs : List Value} {v : Value} {ty : FieldType} (hdg : decode y.2.1 pc = .ok (.putfield idx, 3)) (hp : pc + 3 = pc') (hf : zfldF y.1.cls idx ci k0 ty) (hin : y.1.name = "<init>") (he : ws[i]? = some (a, .inr (ci, fs))) (hn : narrow ty v = v) (hfit : fits ty v = true) (hlen : k0 < fs.length) (hws : ws.set i (a, .inr (ci, fs.set k0 v)) = ws') (k : yR g A d mc ms y pc' L rest ws' kc ks Q) : yR g A d mc ms y pc L (v :: .ref a :: rest) ws kc ks Q := by
  subst hp
  intro p e s m args below meth c H locs ls C hW hl
  subst hws
  obtain ⟨C0, T, N, tf, h1, h2, h3, h4, h5, h6, h7, h9, h8⟩ := hf
  exact va_putF C.1 C.2.1 C.2.2.2.2.2.2.1 h2 tf h5 h6 C.2.2.2.2.2.1 C.2.2.2.2.2.2.2.1 hW.1 hW.2.1 hW.2.2 i he h1 k0 h3 (C.2.2.2.2.2.2.1 _ h4) (fun _ h => h) h7 (C.2.2.2.2.2.2.2.2.2.2.trans hin) h9 h8 hn hfit hlen hdg (fun H1 locs1 hP hD hS => k p e s m args below meth c H1 locs1 ls C ⟨hP, hD, hS⟩ hl)
theorem ny_put {idx i ci k0 a : Nat} {fs : List Value} {v : Value} {ty : FieldType} (hdg : decode y.2.1 pc = .ok (.putfield idx, 3)) (hp : pc + 3 = pc') (hf : zfldP y.1.cls idx ci k0 ty) (he : ws[i]? = some (a, .inr (ci, fs))) (hn : narrow ty v = v) (hfit : fits ty v = true) (hlen : k0 < fs.length) (hws : ws.set i (a, .inr (ci, fs.set k0 v)) = ws') (k : yR g A d mc ms y pc' L rest ws' kc ks Q) : yR g A d mc ms y pc L (v :: .ref a :: rest) ws kc ks Q := by
  subst hp
  intro p e s m args below meth c H locs ls C hW hl
  subst hws
  obtain ⟨C0, T, N, tf, h1, h2, h3, h4, h5, h6, h7, h8⟩ := hf
  exact va_put C.1 C.2.1 C.2.2.2.2.2.2.1 h2 tf h5 h6 C.2.2.2.2.2.1 C.2.2.2.2.2.2.2.1 hW.1 hW.2.1 hW.2.2 i he h1 k0 h3 (C.2.2.2.2.2.2.1 _ h4) (fun _ h => h) h7 h8 hn hfit hlen hdg (fun H1 locs1 hP hD hS => k p e s m args below meth c H1 locs1 ls C ⟨hP, hD, hS⟩ hl)
theorem ny_get {idx i ci k0 a : Nat} {fs : List Value} {v : Value} (hdg : decode y.2.1 pc = .ok (.getfield idx, 3)) (hp : pc + 3 = pc') (hf : zfld y.1.cls idx ci k0) (he : ws[i]? = some (a, .inr (ci, fs))) (hv : fs[k0]? = some v) (k : yR g A d mc ms y pc' L (v :: rest) ws kc ks Q) : yR g A d mc ms y pc L (.ref a :: rest) ws kc ks Q := by
  subst hp
  intro p e s m args below meth c H locs ls C hW hl
  obtain ⟨C0, T, N, h1, h2, h3, h4⟩ := hf
  exact va_get C.1 C.2.1 C.2.2.2.2.2.2.1 h2 C.2.2.2.2.2.1 C.2.2.2.2.2.2.2.1 hW.1 i he h1 k0 h3 (C.2.2.2.2.2.2.1 _ h4) (fun _ h => h) hv hdg (k p e s m args below meth c H locs ls C hW hl)
theorem ny_iald {i a n : Nat} {f : Nat → Int32} {j : Int32} (hdg : decode y.2.1 pc = .ok (.iaload, 1)) (hp : pc + 1 = pc') (he : ws[i]? = some (a, .inl (g.2.1 0, n, .inl f))) (hin : vp_in j n) (k : yR g A d mc ms y pc' L (.int (f j.toNatClampNeg) :: rest) ws kc ks Q) : yR g A d mc ms y pc L (.int j :: .ref a :: rest) ws kc ks Q := by
  subst hp
  intro p e s m args below meth c H locs ls C hW hl
  exact va_iald C.1 C.2.1 C.2.2.2.2.2.2.2.1 hW.1 i 0 he rfl hin hdg (k p e s m args below meth c H locs ls C hW hl)
theorem ny_lald {i a n : Nat} {f : Nat → Int64} {j : Int32} (hdg : decode y.2.1 pc = .ok (.laload, 1)) (hp : pc + 1 = pc') (he : ws[i]? = some (a, .inl (g.2.1 1, n, .inr (.inl f)))) (hin : vp_in j n) (k : yR g A d mc ms y pc' L (.long (f j.toNatClampNeg) :: rest) ws kc ks Q) : yR g A d mc ms y pc L (.int j :: .ref a :: rest) ws kc ks Q := by
  subst hp
  intro p e s m args below meth c H locs ls C hW hl
  exact va_lald C.1 C.2.1 C.2.2.2.2.2.2.2.1 hW.1 i 1 he rfl hin hdg (k p e s m args below meth c H locs ls C hW hl)
theorem ny_alen {i a n : Nat} {f : Nat → Int32} {v : Int32} (hdg : decode y.2.1 pc = .ok (.arraylength, 1)) (hp : pc + 1 = pc') (he : ws[i]? = some (a, .inl (g.2.1 0, n, .inl f))) (hv : Int32.ofNat n = v) (k : yR g A d mc ms y pc' L (.int v :: rest) ws kc ks Q) : yR g A d mc ms y pc L (.ref a :: rest) ws kc ks Q := by
  subst hp
  intro p e s m args below meth c H locs ls C hW hl
  exact va_alen C.1 C.2.1 C.2.2.2.2.2.2.2.1 hW.1 i 0 he rfl hv hdg (k p e s m args below meth c H locs ls C hW hl)
theorem ny_iast {i a n : Nat} {f : Nat → Int32} {j x : Int32} (hdg : decode y.2.1 pc = .ok (.iastore, 1)) (hp : pc + 1 = pc') (he : ws[i]? = some (a, .inl (g.2.1 0, n, .inl f))) (hin : vp_in j n) (hws : ws.set i (a, .inl (g.2.1 0, n, .inl (upd f j.toNatClampNeg x))) = ws') (k : yR g A d mc ms y pc' L rest ws' kc ks Q) : yR g A d mc ms y pc L (.int x :: .int j :: .ref a :: rest) ws kc ks Q := by
  subst hp
  intro p e s m args below meth c H locs ls C hW hl
  subst hws
  exact va_iast C.1 C.2.1 C.2.2.2.2.2.2.2.1 hW.1 hW.2.1 hW.2.2 i 0 he rfl hin hdg (fun H1 locs1 hP hD hS => k p e s m args below meth c H1 locs1 ls C ⟨hP, hD, hS⟩ hl)
theorem ny_last {i a n : Nat} {f : Nat → Int64} {j : Int32} {x : Int64} (hdg : decode y.2.1 pc = .ok (.lastore, 1)) (hp : pc + 1 = pc') (he : ws[i]? = some (a, .inl (g.2.1 1, n, .inr (.inl f)))) (hin : vp_in j n) (hws : ws.set i (a, .inl (g.2.1 1, n, .inr (.inl (vp_updL f j.toNatClampNeg x)))) = ws') (k : yR g A d mc ms y pc' L rest ws' kc ks Q) : yR g A d mc ms y pc L (.long x :: .int j :: .ref a :: rest) ws kc ks Q := by
  subst hp
  intro p e s m args below meth c H locs ls C hW hl
  subst hws
  exact va_last C.1 C.2.1 C.2.2.2.2.2.2.2.1 hW.1 hW.2.1 hW.2.2 i 1 he rfl hin hdg (fun H1 locs1 hP hD hS => k p e s m args below meth c H1 locs1 ls C ⟨hP, hD, hS⟩ hl)
theorem ny_astD {i i2 a v n : Nat} {vs : List Value} {f : Nat → Option Nat} {j : Int32} (hdg : decode y.2.1 pc = .ok (.aastore, 1)) (hp : pc + 1 = pc') (he : ws[i]? = some (a, .inl (g.2.1 4, n, .inr (.inr (.inr (.inr f)))))) (he2 : ws[i2]? = some (v, .inr (1, vs))) (hin : vp_in j n) (hws : ws.set i (a, .inl (g.2.1 4, n, .inr (.inr (.inr (.inr (va_up f j.toNatClampNeg (some v))))))) = ws') (k : yR g A d mc ms y pc' L rest ws' kc ks Q) : yR g A d mc ms y pc L (.ref v :: .int j :: .ref a :: rest) ws kc ks Q := by
  subst hp
  intro p e s m args below meth c H locs ls C hW hl
  subst hws
  exact va_astq C.1 C.2.1 C.2.2.2.2.2.2.2.1 hW.1 hW.2.1 hW.2.2 i 4 i2 1 he rfl he2 rfl hin hdg (fun H1 locs1 hP hD hS => k p e s m args below meth c H1 locs1 ls C ⟨hP, hD, hS⟩ hl)
theorem ny_astK {i i2 a v n : Nat} {vs : List Value} {f : Nat → Option Nat} {j : Int32} (hdg : decode y.2.1 pc = .ok (.aastore, 1)) (hp : pc + 1 = pc') (he : ws[i]? = some (a, .inl (g.2.1 5, n, .inr (.inr (.inr (.inr f)))))) (he2 : ws[i2]? = some (v, .inr (4, vs))) (hin : vp_in j n) (hws : ws.set i (a, .inl (g.2.1 5, n, .inr (.inr (.inr (.inr (va_up f j.toNatClampNeg (some v))))))) = ws') (k : yR g A d mc ms y pc' L rest ws' kc ks Q) : yR g A d mc ms y pc L (.ref v :: .int j :: .ref a :: rest) ws kc ks Q := by
  subst hp
  intro p e s m args below meth c H locs ls C hW hl
  subst hws
  exact va_astq C.1 C.2.1 C.2.2.2.2.2.2.2.1 hW.1 hW.2.1 hW.2.2 i 5 i2 4 he rfl he2 rfl hin hdg (fun H1 locs1 hP hD hS => k p e s m args below meth c H1 locs1 ls C ⟨hP, hD, hS⟩ hl)
end YJ
