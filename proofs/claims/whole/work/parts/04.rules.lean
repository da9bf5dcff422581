/-! rules of the light judgement, an instruction each (by wip/whole/g04.py) -/
section ZJ
variable {Γ : zG} {d : Nat} {y : zY} {pc pc' : Nat} {L L' : List (Nat × Value)} {rest : List Value} {M : zM} {Q : Option Value → zM → Prop}
theorem zj_iconst {n : Int} {v : Int32} (hdg : decode y.2.1 pc = .ok (.iconst n, 1)) (hp : pc + 1 = pc') (hv : Int32.ofInt n = v) (k : zR Γ d y pc' L (.int v :: rest) M Q) : zR Γ d y pc L (rest) M Q := by
  subst hp
  intro p e s m args below meth c H locs ls C hW hl
  exact lv_iconst C.1 C.2.1 hdg hv (k p e s m args below meth c H locs ls C hW hl)
theorem zj_bipush {n : Int} {v : Int32} (hdg : decode y.2.1 pc = .ok (.bipush n, 2)) (hp : pc + 2 = pc') (hv : (Int8.ofInt n).toInt32 = v) (k : zR Γ d y pc' L (.int v :: rest) M Q) : zR Γ d y pc L (rest) M Q := by
  subst hp
  intro p e s m args below meth c H locs ls C hW hl
  exact lv_bipush C.1 C.2.1 hdg hv (k p e s m args below meth c H locs ls C hW hl)
theorem zj_sipush {n : Int} {v : Int32} (hdg : decode y.2.1 pc = .ok (.sipush n, 3)) (hp : pc + 3 = pc') (hv : (Int16.ofInt n).toInt32 = v) (k : zR Γ d y pc' L (.int v :: rest) M Q) : zR Γ d y pc L (rest) M Q := by
  subst hp
  intro p e s m args below meth c H locs ls C hW hl
  exact lv_sipush C.1 C.2.1 hdg hv (k p e s m args below meth c H locs ls C hW hl)
theorem zj_lconst {n : Fin 2} {v : Int64} (hdg : decode y.2.1 pc = .ok (.lconst n, 1)) (hp : pc + 1 = pc') (hv : Int64.ofNat (n : Nat) = v) (k : zR Γ d y pc' L (.long v :: rest) M Q) : zR Γ d y pc L (rest) M Q := by
  subst hp
  intro p e s m args below meth c H locs ls C hW hl
  exact lv_lconst C.1 C.2.1 hdg hv (k p e s m args below meth c H locs ls C hW hl)
theorem zj_iadd {x z : Int32} (hdg : decode y.2.1 pc = .ok (.iadd, 1)) (hp : pc + 1 = pc') (k : zR Γ d y pc' L (.int (x + z) :: rest) M Q) : zR Γ d y pc L (.int z :: .int x :: rest) M Q := by
  subst hp
  intro p e s m args below meth c H locs ls C hW hl
  exact lv_iadd C.1 C.2.1 hdg (k p e s m args below meth c H locs ls C hW hl)
theorem zj_ladd {x z : Int64} (hdg : decode y.2.1 pc = .ok (.ladd, 1)) (hp : pc + 1 = pc') (k : zR Γ d y pc' L (.long (x + z) :: rest) M Q) : zR Γ d y pc L (.long z :: .long x :: rest) M Q := by
  subst hp
  intro p e s m args below meth c H locs ls C hW hl
  exact lv_ladd C.1 C.2.1 hdg (k p e s m args below meth c H locs ls C hW hl)
theorem zj_isub {x z : Int32} (hdg : decode y.2.1 pc = .ok (.isub, 1)) (hp : pc + 1 = pc') (k : zR Γ d y pc' L (.int (x - z) :: rest) M Q) : zR Γ d y pc L (.int z :: .int x :: rest) M Q := by
  subst hp
  intro p e s m args below meth c H locs ls C hW hl
  exact lv_isub C.1 C.2.1 hdg (k p e s m args below meth c H locs ls C hW hl)
theorem zj_imul {x z : Int32} (hdg : decode y.2.1 pc = .ok (.imul, 1)) (hp : pc + 1 = pc') (k : zR Γ d y pc' L (.int (x * z) :: rest) M Q) : zR Γ d y pc L (.int z :: .int x :: rest) M Q := by
  subst hp
  intro p e s m args below meth c H locs ls C hW hl
  exact lv_imul C.1 C.2.1 hdg (k p e s m args below meth c H locs ls C hW hl)
theorem zj_lmul {x z : Int64} (hdg : decode y.2.1 pc = .ok (.lmul, 1)) (hp : pc + 1 = pc') (k : zR Γ d y pc' L (.long (x * z) :: rest) M Q) : zR Γ d y pc L (.long z :: .long x :: rest) M Q := by
  subst hp
  intro p e s m args below meth c H locs ls C hW hl
  exact lv_lmul C.1 C.2.1 hdg (k p e s m args below meth c H locs ls C hW hl)
theorem zj_iand {x z : Int32} (hdg : decode y.2.1 pc = .ok (.iand, 1)) (hp : pc + 1 = pc') (k : zR Γ d y pc' L (.int (x &&& z) :: rest) M Q) : zR Γ d y pc L (.int z :: .int x :: rest) M Q := by
  subst hp
  intro p e s m args below meth c H locs ls C hW hl
  exact lv_iand C.1 C.2.1 hdg (k p e s m args below meth c H locs ls C hW hl)
theorem zj_land {x z : Int64} (hdg : decode y.2.1 pc = .ok (.land, 1)) (hp : pc + 1 = pc') (k : zR Γ d y pc' L (.long (x &&& z) :: rest) M Q) : zR Γ d y pc L (.long z :: .long x :: rest) M Q := by
  subst hp
  intro p e s m args below meth c H locs ls C hW hl
  exact lv_land C.1 C.2.1 hdg (k p e s m args below meth c H locs ls C hW hl)
theorem zj_ior {x z : Int32} (hdg : decode y.2.1 pc = .ok (.ior, 1)) (hp : pc + 1 = pc') (k : zR Γ d y pc' L (.int (x ||| z) :: rest) M Q) : zR Γ d y pc L (.int z :: .int x :: rest) M Q := by
  subst hp
  intro p e s m args below meth c H locs ls C hW hl
  exact lv_ior C.1 C.2.1 hdg (k p e s m args below meth c H locs ls C hW hl)
theorem zj_lor {x z : Int64} (hdg : decode y.2.1 pc = .ok (.lor, 1)) (hp : pc + 1 = pc') (k : zR Γ d y pc' L (.long (x ||| z) :: rest) M Q) : zR Γ d y pc L (.long z :: .long x :: rest) M Q := by
  subst hp
  intro p e s m args below meth c H locs ls C hW hl
  exact lv_lor C.1 C.2.1 hdg (k p e s m args below meth c H locs ls C hW hl)
theorem zj_ixor {x z : Int32} (hdg : decode y.2.1 pc = .ok (.ixor, 1)) (hp : pc + 1 = pc') (k : zR Γ d y pc' L (.int (x ^^^ z) :: rest) M Q) : zR Γ d y pc L (.int z :: .int x :: rest) M Q := by
  subst hp
  intro p e s m args below meth c H locs ls C hW hl
  exact lv_ixor C.1 C.2.1 hdg (k p e s m args below meth c H locs ls C hW hl)
theorem zj_idiv {x z : Int32} (hdg : decode y.2.1 pc = .ok (.idiv, 1)) (hp : pc + 1 = pc') (hne : ¬ z = 0) (k : zR Γ d y pc' L (.int (x / z) :: rest) M Q) : zR Γ d y pc L (.int z :: .int x :: rest) M Q := by
  subst hp
  intro p e s m args below meth c H locs ls C hW hl
  exact lv_idiv C.1 C.2.1 hdg hne (k p e s m args below meth c H locs ls C hW hl)
theorem zj_irem {x z : Int32} (hdg : decode y.2.1 pc = .ok (.irem, 1)) (hp : pc + 1 = pc') (hne : ¬ z = 0) (k : zR Γ d y pc' L (.int (x - x / z * z) :: rest) M Q) : zR Γ d y pc L (.int z :: .int x :: rest) M Q := by
  subst hp
  intro p e s m args below meth c H locs ls C hW hl
  exact lv_irem C.1 C.2.1 hdg hne (k p e s m args below meth c H locs ls C hW hl)
theorem zj_ineg {x : Int32} (hdg : decode y.2.1 pc = .ok (.ineg, 1)) (hp : pc + 1 = pc') (k : zR Γ d y pc' L (.int (-x) :: rest) M Q) : zR Γ d y pc L (.int x :: rest) M Q := by
  subst hp
  intro p e s m args below meth c H locs ls C hW hl
  exact lv_ineg C.1 C.2.1 hdg (k p e s m args below meth c H locs ls C hW hl)
theorem zj_ishl {x z : Int32} (hdg : decode y.2.1 pc = .ok (.ishl, 1)) (hp : pc + 1 = pc') (k : zR Γ d y pc' L (.int (x <<< (z &&& 31)) :: rest) M Q) : zR Γ d y pc L (.int z :: .int x :: rest) M Q := by
  subst hp
  intro p e s m args below meth c H locs ls C hW hl
  exact lv_ishl C.1 C.2.1 hdg (k p e s m args below meth c H locs ls C hW hl)
theorem zj_ishr {x z : Int32} (hdg : decode y.2.1 pc = .ok (.ishr, 1)) (hp : pc + 1 = pc') (k : zR Γ d y pc' L (.int (x >>> (z &&& 31)) :: rest) M Q) : zR Γ d y pc L (.int z :: .int x :: rest) M Q := by
  subst hp
  intro p e s m args below meth c H locs ls C hW hl
  exact lv_ishr C.1 C.2.1 hdg (k p e s m args below meth c H locs ls C hW hl)
theorem zj_iushr {x z : Int32} (hdg : decode y.2.1 pc = .ok (.iushr, 1)) (hp : pc + 1 = pc') (k : zR Γ d y pc' L (.int ((x.toUInt32 >>> (z.toUInt32 &&& Int32.toUInt32 31)).toInt32) :: rest) M Q) : zR Γ d y pc L (.int z :: .int x :: rest) M Q := by
  subst hp
  intro p e s m args below meth c H locs ls C hW hl
  exact lv_iushr C.1 C.2.1 hdg rfl (k p e s m args below meth c H locs ls C hW hl)
theorem zj_lshl {x : Int64} {z : Int32} (hdg : decode y.2.1 pc = .ok (.lshl, 1)) (hp : pc + 1 = pc') (k : zR Γ d y pc' L (.long (x <<< (z.toInt64 &&& 63)) :: rest) M Q) : zR Γ d y pc L (.int z :: .long x :: rest) M Q := by
  subst hp
  intro p e s m args below meth c H locs ls C hW hl
  exact lv_lshl C.1 C.2.1 hdg rfl (k p e s m args below meth c H locs ls C hW hl)
theorem zj_lshr {x : Int64} {z : Int32} (hdg : decode y.2.1 pc = .ok (.lshr, 1)) (hp : pc + 1 = pc') (k : zR Γ d y pc' L (.long (x >>> (z.toInt64 &&& 63)) :: rest) M Q) : zR Γ d y pc L (.int z :: .long x :: rest) M Q := by
  subst hp
  intro p e s m args below meth c H locs ls C hW hl
  exact lv_lshr C.1 C.2.1 hdg rfl (k p e s m args below meth c H locs ls C hW hl)
theorem zj_i2l {x : Int32} (hdg : decode y.2.1 pc = .ok (.i2l, 1)) (hp : pc + 1 = pc') (k : zR Γ d y pc' L (.long (x.toInt64) :: rest) M Q) : zR Γ d y pc L (.int x :: rest) M Q := by
  subst hp
  intro p e s m args below meth c H locs ls C hW hl
  exact lv_i2l C.1 C.2.1 hdg rfl (k p e s m args below meth c H locs ls C hW hl)
theorem zj_l2i {x : Int64} (hdg : decode y.2.1 pc = .ok (.l2i, 1)) (hp : pc + 1 = pc') (k : zR Γ d y pc' L (.int (x.toInt32) :: rest) M Q) : zR Γ d y pc L (.long x :: rest) M Q := by
  subst hp
  intro p e s m args below meth c H locs ls C hW hl
  exact lv_l2i C.1 C.2.1 hdg rfl (k p e s m args below meth c H locs ls C hW hl)
theorem zj_i2b {x : Int32} (hdg : decode y.2.1 pc = .ok (.i2b, 1)) (hp : pc + 1 = pc') (k : zR Γ d y pc' L (.int (x.toInt8.toInt32) :: rest) M Q) : zR Γ d y pc L (.int x :: rest) M Q := by
  subst hp
  intro p e s m args below meth c H locs ls C hW hl
  exact lv_i2b C.1 C.2.1 hdg rfl (k p e s m args below meth c H locs ls C hW hl)
theorem zj_dup {va : Value} (hdg : decode y.2.1 pc = .ok (.dup, 1)) (hp : pc + 1 = pc') (hva : va.category = 1) (k : zR Γ d y pc' L (va :: va :: rest) M Q) : zR Γ d y pc L (va :: rest) M Q := by
  subst hp
  intro p e s m args below meth c H locs ls C hW hl
  exact lv_dup C.1 C.2.1 hdg hva (k p e s m args below meth c H locs ls C hW hl)
theorem zj_pop {va : Value} (hdg : decode y.2.1 pc = .ok (.pop, 1)) (hp : pc + 1 = pc') (hva : va.category = 1) (k : zR Γ d y pc' L (rest) M Q) : zR Γ d y pc L (va :: rest) M Q := by
  subst hp
  intro p e s m args below meth c H locs ls C hW hl
  exact lv_pop C.1 C.2.1 hdg hva (k p e s m args below meth c H locs ls C hW hl)
theorem zj_dup2 {va vb : Value} (hdg : decode y.2.1 pc = .ok (.dup2, 1)) (hp : pc + 1 = pc') (hva : va.category = 1) (hvb : vb.category = 1) (k : zR Γ d y pc' L (va :: vb :: va :: vb :: rest) M Q) : zR Γ d y pc L (va :: vb :: rest) M Q := by
  subst hp
  intro p e s m args below meth c H locs ls C hW hl
  exact lv_dup2_11 C.1 C.2.1 hdg hva hvb (k p e s m args below meth c H locs ls C hW hl)
theorem zj_null  (hdg : decode y.2.1 pc = .ok (.aconst_null, 1)) (hp : pc + 1 = pc') (k : zR Γ d y pc' L (.null :: rest) M Q) : zR Γ d y pc L (rest) M Q := by
  subst hp
  intro p e s m args below meth c H locs ls C hW hl
  exact lv_null C.1 C.2.1 hdg (k p e s m args below meth c H locs ls C hW hl)
theorem zj_lcmp {x z : Int64} (hdg : decode y.2.1 pc = .ok (.lcmp, 1)) (hp : pc + 1 = pc') (k : zR Γ d y pc' L (.int (lg_cmp x z) :: rest) M Q) : zR Γ d y pc L (.long z :: .long x :: rest) M Q := by
  subst hp
  intro p e s m args below meth c H locs ls C hW hl
  exact W.lcmp C.1 C.2.1 hdg (k p e s m args below meth c H locs ls C hW hl)
theorem zj_iload (k0 : Nat) {i : Nat} {x : Int32} (hdg : decode y.2.1 pc = .ok (.iload i, 2)) (hp : pc + 2 = pc') (hk : L[k0]? = some (i, .int x)) (k : zR Γ d y pc' L (.int x :: rest) M Q) : zR Γ d y pc L rest M Q := by
  subst hp
  intro p e s m args below meth c H locs ls C hW hl
  exact lv_iload C.1 C.2.1 hdg (lv_at hl k0 hk) (k p e s m args below meth c H locs ls C hW hl)
theorem zj_iload_n (k0 : Nat) {j : Fin 4} {i : Nat} {x : Int32} (hdg : decode y.2.1 pc = .ok (.iload_n j, 1)) (hp : pc + 1 = pc') (hi : (j : Nat) = i) (hk : L[k0]? = some (i, .int x)) (k : zR Γ d y pc' L (.int x :: rest) M Q) : zR Γ d y pc L rest M Q := by
  subst hp
  intro p e s m args below meth c H locs ls C hW hl
  exact lv_iload_n C.1 C.2.1 hdg hi (lv_at hl k0 hk) (k p e s m args below meth c H locs ls C hW hl)
theorem zj_istore {i : Nat} {x : Int32} (hdg : decode y.2.1 pc = .ok (.istore i, 2)) (hp : pc + 2 = pc') (hn : i < y.2.2.1) (hL : (i, Value.int x) :: L.filter (fun q => !(q.1 == i) && !(q.1 + 1 == i && q.2.category == 2)) = L') (k : zR Γ d y pc' L' rest M Q) : zR Γ d y pc L (.int x :: rest) M Q := by
  subst hp
  intro p e s m args below meth c H locs ls C hW hl
  exact lv_istore C.1 C.2.1 hdg hl hn hL (fun ls hl => k p e s m args below meth c H locs ls C hW hl)
theorem zj_istore_n {j : Fin 4} {i : Nat} {x : Int32} (hdg : decode y.2.1 pc = .ok (.istore_n j, 1)) (hp : pc + 1 = pc') (hi : (j : Nat) = i) (hn : i < y.2.2.1) (hL : (i, Value.int x) :: L.filter (fun q => !(q.1 == i) && !(q.1 + 1 == i && q.2.category == 2)) = L') (k : zR Γ d y pc' L' rest M Q) : zR Γ d y pc L (.int x :: rest) M Q := by
  subst hp
  intro p e s m args below meth c H locs ls C hW hl
  exact lv_istore_n C.1 C.2.1 hdg hi hl hn hL (fun ls hl => k p e s m args below meth c H locs ls C hW hl)
theorem zj_lload (k0 : Nat) {i : Nat} {x : Int64} (hdg : decode y.2.1 pc = .ok (.lload i, 2)) (hp : pc + 2 = pc') (hk : L[k0]? = some (i, .long x)) (k : zR Γ d y pc' L (.long x :: rest) M Q) : zR Γ d y pc L rest M Q := by
  subst hp
  intro p e s m args below meth c H locs ls C hW hl
  exact lv_lload C.1 C.2.1 hdg (lv_at hl k0 hk) (k p e s m args below meth c H locs ls C hW hl)
theorem zj_lload_n (k0 : Nat) {j : Fin 4} {i : Nat} {x : Int64} (hdg : decode y.2.1 pc = .ok (.lload_n j, 1)) (hp : pc + 1 = pc') (hi : (j : Nat) = i) (hk : L[k0]? = some (i, .long x)) (k : zR Γ d y pc' L (.long x :: rest) M Q) : zR Γ d y pc L rest M Q := by
  subst hp
  intro p e s m args below meth c H locs ls C hW hl
  exact lv_lload_n C.1 C.2.1 hdg hi (lv_at hl k0 hk) (k p e s m args below meth c H locs ls C hW hl)
theorem zj_lstore {i : Nat} {x : Int64} (hdg : decode y.2.1 pc = .ok (.lstore i, 2)) (hp : pc + 2 = pc') (hn : i + 1 < y.2.2.1) (hL : (i, Value.long x) :: L.filter (fun q => !(q.1 == i) && (!(q.1 == i + 1) && !(q.1 + 1 == i && q.2.category == 2))) = L') (k : zR Γ d y pc' L' rest M Q) : zR Γ d y pc L (.long x :: rest) M Q := by
  subst hp
  intro p e s m args below meth c H locs ls C hW hl
  exact lv_lstore C.1 C.2.1 hdg hl hn hL (fun ls hl => k p e s m args below meth c H locs ls C hW hl)
theorem zj_lstore_n {j : Fin 4} {i : Nat} {x : Int64} (hdg : decode y.2.1 pc = .ok (.lstore_n j, 1)) (hp : pc + 1 = pc') (hi : (j : Nat) = i) (hn : i + 1 < y.2.2.1) (hL : (i, Value.long x) :: L.filter (fun q => !(q.1 == i) && (!(q.1 == i + 1) && !(q.1 + 1 == i && q.2.category == 2))) = L') (k : zR Γ d y pc' L' rest M Q) : zR Γ d y pc L (.long x :: rest) M Q := by
  subst hp
  intro p e s m args below meth c H locs ls C hW hl
  exact lv_lstore_n C.1 C.2.1 hdg hi hl hn hL (fun ls hl => k p e s m args below meth c H locs ls C hW hl)
theorem zj_aload (k0 : Nat) {i : Nat} {x : Nat} (hdg : decode y.2.1 pc = .ok (.aload i, 2)) (hp : pc + 2 = pc') (hk : L[k0]? = some (i, .ref x)) (k : zR Γ d y pc' L (.ref x :: rest) M Q) : zR Γ d y pc L rest M Q := by
  subst hp
  intro p e s m args below meth c H locs ls C hW hl
  exact lv_aload C.1 C.2.1 hdg (lv_at hl k0 hk) (k p e s m args below meth c H locs ls C hW hl)
theorem zj_aload_n (k0 : Nat) {j : Fin 4} {i : Nat} {x : Nat} (hdg : decode y.2.1 pc = .ok (.aload_n j, 1)) (hp : pc + 1 = pc') (hi : (j : Nat) = i) (hk : L[k0]? = some (i, .ref x)) (k : zR Γ d y pc' L (.ref x :: rest) M Q) : zR Γ d y pc L rest M Q := by
  subst hp
  intro p e s m args below meth c H locs ls C hW hl
  exact lv_aload_n C.1 C.2.1 hdg hi (lv_at hl k0 hk) (k p e s m args below meth c H locs ls C hW hl)
theorem zj_astore {i : Nat} {x : Nat} (hdg : decode y.2.1 pc = .ok (.astore i, 2)) (hp : pc + 2 = pc') (hn : i < y.2.2.1) (hL : (i, Value.ref x) :: L.filter (fun q => !(q.1 == i) && !(q.1 + 1 == i && q.2.category == 2)) = L') (k : zR Γ d y pc' L' rest M Q) : zR Γ d y pc L (.ref x :: rest) M Q := by
  subst hp
  intro p e s m args below meth c H locs ls C hW hl
  exact lv_astore C.1 C.2.1 hdg hl hn hL (fun ls hl => k p e s m args below meth c H locs ls C hW hl)
theorem zj_astore_n {j : Fin 4} {i : Nat} {x : Nat} (hdg : decode y.2.1 pc = .ok (.astore_n j, 1)) (hp : pc + 1 = pc') (hi : (j : Nat) = i) (hn : i < y.2.2.1) (hL : (i, Value.ref x) :: L.filter (fun q => !(q.1 == i) && !(q.1 + 1 == i && q.2.category == 2)) = L') (k : zR Γ d y pc' L' rest M Q) : zR Γ d y pc L (.ref x :: rest) M Q := by
  subst hp
  intro p e s m args below meth c H locs ls C hW hl
  exact lv_astore_n C.1 C.2.1 hdg hi hl hn hL (fun ls hl => k p e s m args below meth c H locs ls C hW hl)
theorem zj_iinc (k0 : Nat) {i : Nat} {n : Int} {x : Int32} (hdg : decode y.2.1 pc = .ok (.iinc i n, 3)) (hp : pc + 3 = pc') (hk : L[k0]? = some (i, .int x)) (hn : i < y.2.2.1) (hL : (i, Value.int (x + Int32.ofInt n)) :: L.filter (fun q => !(q.1 == i) && !(q.1 + 1 == i && q.2.category == 2)) = L') (k : zR Γ d y pc' L' rest M Q) : zR Γ d y pc L rest M Q := by
  subst hp
  intro p e s m args below meth c H locs ls C hW hl
  exact lv_iinc C.1 C.2.1 hdg hl hk rfl hn hL (fun ls hl => k p e s m args below meth c H locs ls C hW hl)
theorem zj_loc (ks : List Nat) (hL : lv_pick L ks = L') (k : zR Γ d y pc L' rest M Q) : zR Γ d y pc L rest M Q := fun p e s m args below meth c H locs ls C hW hl => k p e s m args below meth c H locs ls C hW (lv_sub hl ks hL)
theorem zj_if_eq {off : Int} {tgt : Nat} {x : Int32} (hdg : decode y.2.1 pc = .ok (.ifCond .eq off, 3)) (hp : pc + 3 = pc') (ht : (pc : Int) + off = (tgt : Int)) (kt : x = 0 → zR Γ d y tgt L rest M Q) (kf : ¬ x = 0 → zR Γ d y pc' L rest M Q) : zR Γ d y pc L (.int x :: rest) M Q := by
  subst hp
  intro p e s m args below meth c H locs ls C hW hl
  exact lv_if_eq C.1 C.2.1 hdg ht (fun h => kt h p e s m args below meth c H locs ls C hW hl) (fun h => kf h p e s m args below meth c H locs ls C hW hl)
theorem zj_icmp_eq {off : Int} {tgt : Nat} {x z : Int32} (hdg : decode y.2.1 pc = .ok (.if_icmp .eq off, 3)) (hp : pc + 3 = pc') (ht : (pc : Int) + off = (tgt : Int)) (kt : x = z → zR Γ d y tgt L rest M Q) (kf : ¬ x = z → zR Γ d y pc' L rest M Q) : zR Γ d y pc L (.int z :: .int x :: rest) M Q := by
  subst hp
  intro p e s m args below meth c H locs ls C hW hl
  exact lv_icmp_eq C.1 C.2.1 hdg ht (fun h => kt h p e s m args below meth c H locs ls C hW hl) (fun h => kf h p e s m args below meth c H locs ls C hW hl)
theorem zj_if_ne {off : Int} {tgt : Nat} {x : Int32} (hdg : decode y.2.1 pc = .ok (.ifCond .ne off, 3)) (hp : pc + 3 = pc') (ht : (pc : Int) + off = (tgt : Int)) (kt : ¬ x = 0 → zR Γ d y tgt L rest M Q) (kf : x = 0 → zR Γ d y pc' L rest M Q) : zR Γ d y pc L (.int x :: rest) M Q := by
  subst hp
  intro p e s m args below meth c H locs ls C hW hl
  exact lv_if_ne C.1 C.2.1 hdg ht (fun h => kt h p e s m args below meth c H locs ls C hW hl) (fun h => kf h p e s m args below meth c H locs ls C hW hl)
theorem zj_icmp_ne {off : Int} {tgt : Nat} {x z : Int32} (hdg : decode y.2.1 pc = .ok (.if_icmp .ne off, 3)) (hp : pc + 3 = pc') (ht : (pc : Int) + off = (tgt : Int)) (kt : ¬ x = z → zR Γ d y tgt L rest M Q) (kf : x = z → zR Γ d y pc' L rest M Q) : zR Γ d y pc L (.int z :: .int x :: rest) M Q := by
  subst hp
  intro p e s m args below meth c H locs ls C hW hl
  exact lv_icmp_ne C.1 C.2.1 hdg ht (fun h => kt h p e s m args below meth c H locs ls C hW hl) (fun h => kf h p e s m args below meth c H locs ls C hW hl)
theorem zj_if_lt {off : Int} {tgt : Nat} {x : Int32} (hdg : decode y.2.1 pc = .ok (.ifCond .lt off, 3)) (hp : pc + 3 = pc') (ht : (pc : Int) + off = (tgt : Int)) (kt : x < 0 → zR Γ d y tgt L rest M Q) (kf : ¬ x < 0 → zR Γ d y pc' L rest M Q) : zR Γ d y pc L (.int x :: rest) M Q := by
  subst hp
  intro p e s m args below meth c H locs ls C hW hl
  exact lv_if_lt C.1 C.2.1 hdg ht (fun h => kt h p e s m args below meth c H locs ls C hW hl) (fun h => kf h p e s m args below meth c H locs ls C hW hl)
theorem zj_icmp_lt {off : Int} {tgt : Nat} {x z : Int32} (hdg : decode y.2.1 pc = .ok (.if_icmp .lt off, 3)) (hp : pc + 3 = pc') (ht : (pc : Int) + off = (tgt : Int)) (kt : x < z → zR Γ d y tgt L rest M Q) (kf : ¬ x < z → zR Γ d y pc' L rest M Q) : zR Γ d y pc L (.int z :: .int x :: rest) M Q := by
  subst hp
  intro p e s m args below meth c H locs ls C hW hl
  exact lv_icmp_lt C.1 C.2.1 hdg ht (fun h => kt h p e s m args below meth c H locs ls C hW hl) (fun h => kf h p e s m args below meth c H locs ls C hW hl)
theorem zj_if_ge {off : Int} {tgt : Nat} {x : Int32} (hdg : decode y.2.1 pc = .ok (.ifCond .ge off, 3)) (hp : pc + 3 = pc') (ht : (pc : Int) + off = (tgt : Int)) (kt : 0 ≤ x → zR Γ d y tgt L rest M Q) (kf : ¬ 0 ≤ x → zR Γ d y pc' L rest M Q) : zR Γ d y pc L (.int x :: rest) M Q := by
  subst hp
  intro p e s m args below meth c H locs ls C hW hl
  exact lv_if_ge C.1 C.2.1 hdg ht (fun h => kt h p e s m args below meth c H locs ls C hW hl) (fun h => kf h p e s m args below meth c H locs ls C hW hl)
theorem zj_icmp_ge {off : Int} {tgt : Nat} {x z : Int32} (hdg : decode y.2.1 pc = .ok (.if_icmp .ge off, 3)) (hp : pc + 3 = pc') (ht : (pc : Int) + off = (tgt : Int)) (kt : z ≤ x → zR Γ d y tgt L rest M Q) (kf : ¬ z ≤ x → zR Γ d y pc' L rest M Q) : zR Γ d y pc L (.int z :: .int x :: rest) M Q := by
  subst hp
  intro p e s m args below meth c H locs ls C hW hl
  exact lv_icmp_ge C.1 C.2.1 hdg ht (fun h => kt h p e s m args below meth c H locs ls C hW hl) (fun h => kf h p e s m args below meth c H locs ls C hW hl)
theorem zj_if_gt {off : Int} {tgt : Nat} {x : Int32} (hdg : decode y.2.1 pc = .ok (.ifCond .gt off, 3)) (hp : pc + 3 = pc') (ht : (pc : Int) + off = (tgt : Int)) (kt : 0 < x → zR Γ d y tgt L rest M Q) (kf : ¬ 0 < x → zR Γ d y pc' L rest M Q) : zR Γ d y pc L (.int x :: rest) M Q := by
  subst hp
  intro p e s m args below meth c H locs ls C hW hl
  exact lv_if_gt C.1 C.2.1 hdg ht (fun h => kt h p e s m args below meth c H locs ls C hW hl) (fun h => kf h p e s m args below meth c H locs ls C hW hl)
theorem zj_icmp_gt {off : Int} {tgt : Nat} {x z : Int32} (hdg : decode y.2.1 pc = .ok (.if_icmp .gt off, 3)) (hp : pc + 3 = pc') (ht : (pc : Int) + off = (tgt : Int)) (kt : z < x → zR Γ d y tgt L rest M Q) (kf : ¬ z < x → zR Γ d y pc' L rest M Q) : zR Γ d y pc L (.int z :: .int x :: rest) M Q := by
  subst hp
  intro p e s m args below meth c H locs ls C hW hl
  exact lv_icmp_gt C.1 C.2.1 hdg ht (fun h => kt h p e s m args below meth c H locs ls C hW hl) (fun h => kf h p e s m args below meth c H locs ls C hW hl)
theorem zj_if_le {off : Int} {tgt : Nat} {x : Int32} (hdg : decode y.2.1 pc = .ok (.ifCond .le off, 3)) (hp : pc + 3 = pc') (ht : (pc : Int) + off = (tgt : Int)) (kt : x ≤ 0 → zR Γ d y tgt L rest M Q) (kf : ¬ x ≤ 0 → zR Γ d y pc' L rest M Q) : zR Γ d y pc L (.int x :: rest) M Q := by
  subst hp
  intro p e s m args below meth c H locs ls C hW hl
  exact lv_if_le C.1 C.2.1 hdg ht (fun h => kt h p e s m args below meth c H locs ls C hW hl) (fun h => kf h p e s m args below meth c H locs ls C hW hl)
theorem zj_icmp_le {off : Int} {tgt : Nat} {x z : Int32} (hdg : decode y.2.1 pc = .ok (.if_icmp .le off, 3)) (hp : pc + 3 = pc') (ht : (pc : Int) + off = (tgt : Int)) (kt : x ≤ z → zR Γ d y tgt L rest M Q) (kf : ¬ x ≤ z → zR Γ d y pc' L rest M Q) : zR Γ d y pc L (.int z :: .int x :: rest) M Q := by
  subst hp
  intro p e s m args below meth c H locs ls C hW hl
  exact lv_icmp_le C.1 C.2.1 hdg ht (fun h => kt h p e s m args below meth c H locs ls C hW hl) (fun h => kf h p e s m args below meth c H locs ls C hW hl)
theorem zj_goto {off : Int} {tgt : Nat} (hdg : decode y.2.1 pc = .ok (.goto off, 3)) (ht : (pc : Int) + off = (tgt : Int)) (k : zR Γ d y tgt L rest M Q) : zR Γ d y pc L rest M Q := by
  intro p e s m args below meth c H locs ls C hW hl
  exact lv_goto C.1 C.2.1 hdg ht (k p e s m args below meth c H locs ls C hW hl)
theorem zj_ifnull {off : Int} {x : Nat} (hdg : decode y.2.1 pc = .ok (.ifnull off, 3)) (hp : pc + 3 = pc') (k : zR Γ d y pc' L rest M Q) : zR Γ d y pc L (.ref x :: rest) M Q := by
  subst hp
  intro p e s m args below meth c H locs ls C hW hl
  exact lv_ifnull C.1 C.2.1 hdg (k p e s m args below meth c H locs ls C hW hl)
theorem zj_ifnullN {off : Int} {tgt : Nat} (hdg : decode y.2.1 pc = .ok (.ifnull off, 3)) (ht : (pc : Int) + off = (tgt : Int)) (k : zR Γ d y tgt L rest M Q) : zR Γ d y pc L (.null :: rest) M Q := by
  intro p e s m args below meth c H locs ls C hW hl
  exact lv_ifnullN C.1 C.2.1 hdg ht (k p e s m args below meth c H locs ls C hW hl)
theorem zj_ifnonnull {off : Int} {tgt x : Nat} (hdg : decode y.2.1 pc = .ok (.ifnonnull off, 3)) (ht : (pc : Int) + off = (tgt : Int)) (k : zR Γ d y tgt L rest M Q) : zR Γ d y pc L (.ref x :: rest) M Q := by
  intro p e s m args below meth c H locs ls C hW hl
  exact lv_ifnonnull C.1 C.2.1 hdg ht (k p e s m args below meth c H locs ls C hW hl)
theorem zj_ifnonnullN {off : Int} (hdg : decode y.2.1 pc = .ok (.ifnonnull off, 3)) (hp : pc + 3 = pc') (k : zR Γ d y pc' L rest M Q) : zR Γ d y pc L (.null :: rest) M Q := by
  subst hp
  intro p e s m args below meth c H locs ls C hW hl
  exact lv_ifnonnullN C.1 C.2.1 hdg (k p e s m args below meth c H locs ls C hW hl)
theorem zj_aloadN (k0 : Nat) {i : Nat} (hdg : decode y.2.1 pc = .ok (.aload i, 2)) (hp : pc + 2 = pc') (hk : L[k0]? = some (i, .null)) (k : zR Γ d y pc' L (.null :: rest) M Q) : zR Γ d y pc L rest M Q := by
  subst hp
  intro p e s m args below meth c H locs ls C hW hl
  exact lv_aloadN C.1 C.2.1 hdg (lv_at hl k0 hk) (k p e s m args below meth c H locs ls C hW hl)
theorem zj_aload_nN (k0 : Nat) {j : Fin 4} {i : Nat} (hdg : decode y.2.1 pc = .ok (.aload_n j, 1)) (hp : pc + 1 = pc') (hi : (j : Nat) = i) (hk : L[k0]? = some (i, .null)) (k : zR Γ d y pc' L (.null :: rest) M Q) : zR Γ d y pc L rest M Q := by
  subst hp
  intro p e s m args below meth c H locs ls C hW hl
  exact lv_aload_nN C.1 C.2.1 hdg hi (lv_at hl k0 hk) (k p e s m args below meth c H locs ls C hW hl)
theorem zj_astore_nN {j : Fin 4} {i : Nat} (hdg : decode y.2.1 pc = .ok (.astore_n j, 1)) (hp : pc + 1 = pc') (hi : (j : Nat) = i) (hn : i < y.2.2.1) (hL : (i, Value.null) :: L.filter (fun q => !(q.1 == i) && !(q.1 + 1 == i && q.2.category == 2)) = L') (k : zR Γ d y pc' L' rest M Q) : zR Γ d y pc L (.null :: rest) M Q := by
  subst hp
  intro p e s m args below meth c H locs ls C hW hl
  exact lv_astore_nN C.1 C.2.1 hdg hi hl hn hL (fun ls hl => k p e s m args below meth c H locs ls C hW hl)
theorem zj_tsOut {dflt lo hi : Int} {offs : Array Int} {len : Nat} {x : Int32} {tgt : Nat} (hdg : decode y.2.1 pc = .ok (.tableswitch dflt lo hi offs, len)) (h : x.toInt < lo ∨ hi < x.toInt) (ht : (pc : Int) + dflt = (tgt : Int)) (k : zR Γ d y tgt L rest M Q) : zR Γ d y pc L (.int x :: rest) M Q := by
  intro p e s m args below meth c H locs ls C hW hl
  exact lv_tableOut C.1 C.2.1 hdg h ht (k p e s m args below meth c H locs ls C hW hl)
theorem zj_tsIn {dflt lo hi : Int} {offs : Array Int} {len : Nat} {x v : Int32} {off : Int} {tgt : Nat} (hdg : decode y.2.1 pc = .ok (.tableswitch dflt lo hi offs, len)) (hx : x = v) (h1 : ¬ v.toInt < lo) (h2 : ¬ hi < v.toInt) (ho : offs[(v.toInt - lo).toNat]? = some off) (ht : (pc : Int) + off = (tgt : Int)) (k : zR Γ d y tgt L rest M Q) : zR Γ d y pc L (.int x :: rest) M Q := by
  subst hx
  intro p e s m args below meth c H locs ls C hW hl
  exact lv_tableIn C.1 C.2.1 hdg h1 h2 ho ht (k p e s m args below meth c H locs ls C hW hl)
theorem zj_ls {dflt : Int} {ps : Array (Int × Int)} {len : Nat} {x : Int32} {off : Int} {tgt : Nat} (hdg : decode y.2.1 pc = .ok (.lookupswitch dflt ps, len)) (hs : (ps.toList.zip (ps.toList.drop 1)).all (fun (a, next) => a.1 < next.1) = true) (ho : Op.lookupswitch.offset ps.toList dflt x.toInt = off) (ht : (pc : Int) + off = (tgt : Int)) (k : zR Γ d y tgt L rest M Q) : zR Γ d y pc L (.int x :: rest) M Q := by
  intro p e s m args below meth c H locs ls C hW hl
  exact lv_lookup C.1 C.2.1 hdg hs ho ht (k p e s m args below meth c H locs ls C hW hl)
theorem zj_ldc {idx : Nat} {v : Int32} (hdg : decode y.2.1 pc = .ok (.ldc idx, 2)) (hp : pc + 2 = pc') (hc : Cond.constant y.1.cls idx v ∈ zWS) (k : zR Γ d y pc' L (.int v :: rest) M Q) : zR Γ d y pc L rest M Q := by
  subst hp
  intro p e s m args below meth c H locs ls C hW hl
  exact lv_ldc C.1 C.2.1 C.2.2.2.2.2.1 (C.2.2.2.2.2.2.1 _ hc) hdg (k p e s m args below meth c H locs ls C hW hl)
theorem zj_ldcw {idx : Nat} {v : Int32} (hdg : decode y.2.1 pc = .ok (.ldc_w idx, 3)) (hp : pc + 3 = pc') (hc : Cond.constant y.1.cls idx v ∈ zWS) (k : zR Γ d y pc' L (.int v :: rest) M Q) : zR Γ d y pc L rest M Q := by
  subst hp
  intro p e s m args below meth c H locs ls C hW hl
  exact lv_ldcw C.1 C.2.1 C.2.2.2.2.2.1 (C.2.2.2.2.2.2.1 _ hc) hdg (k p e s m args below meth c H locs ls C hW hl)
theorem zj_ldc2 {idx : Nat} {v : Int64} (hdg : decode y.2.1 pc = .ok (.ldc2_w idx, 3)) (hp : pc + 3 = pc') (hc : Cond.constantLong y.1.cls idx v ∈ zWS) (k : zR Γ d y pc' L (.long v :: rest) M Q) : zR Γ d y pc L rest M Q := by
  subst hp
  intro p e s m args below meth c H locs ls C hW hl
  exact lv_ldc2 C.1 C.2.1 C.2.2.2.2.2.1 (C.2.2.2.2.2.2.1 _ hc) hdg (k p e s m args below meth c H locs ls C hW hl)
theorem zj_iret {v : Int32} (hdg : decode y.2.1 pc = .ok (.ireturn, 1)) (hr : y.2.2.2 = some .int) (q : Q (some (.int v)) M) : zR Γ d y pc L [.int v] M Q := by
  intro p e s m args below meth c H locs ls C hW hl
  exact W.iret C.1 C.2.1 (C.2.2.2.1.trans hr) (fun t ht hWm => ⟨⟨_, M, rfl, q, by rw [ht]; exact hW.1⟩, hW.2.2.F ht⟩) hW.2.2.2.2 hdg C.2.2.2.2.1
theorem zj_zret {v : Int32} (hdg : decode y.2.1 pc = .ok (.ireturn, 1)) (hr : y.2.2.2 = some .boolean) (hv : v = 0 ∨ v = 1) (q : Q (some (.int v)) M) : zR Γ d y pc L [.int v] M Q := by
  intro p e s m args below meth c H locs ls C hW hl
  exact W.zret C.1 C.2.1 (C.2.2.2.1.trans hr) (by rcases hv with rfl | rfl <;> rfl) (fun t ht hWm => ⟨⟨_, M, rfl, q, by rw [ht]; exact hW.1⟩, hW.2.2.F ht⟩) hW.2.2.2.2 hdg C.2.2.2.2.1
theorem zj_lret {v : Int64} (hdg : decode y.2.1 pc = .ok (.lreturn, 1)) (hr : y.2.2.2 = some .long) (q : Q (some (.long v)) M) : zR Γ d y pc L [.long v] M Q := by
  intro p e s m args below meth c H locs ls C hW hl
  exact W.lret C.1 C.2.1 (C.2.2.2.1.trans hr) (fun t ht hWm => ⟨⟨_, M, rfl, q, by rw [ht]; exact hW.1⟩, hW.2.2.F ht⟩) hW.2.2.2.2 hdg C.2.2.2.2.1
theorem zj_vret (hdg : decode y.2.1 pc = .ok (.return_, 1)) (hr : y.2.2.2 = none) (q : Q none M) : zR Γ d y pc L [] M Q := by
  intro p e s m args below meth c H locs ls C hW hl
  exact W.vret C.1 C.2.1 (C.2.2.2.1.trans hr) (fun t ht hWm => ⟨⟨_, M, rfl, q, by rw [ht]; exact hW.1⟩, hW.2.2.F ht⟩) hW.2.2.2.2 hdg C.2.2.2.2.1
theorem zj_aret {v : Value} {rt : FieldType} (hdg : decode y.2.1 pc = .ok (.areturn, 1)) (hr : y.2.2.2 = some rt) (hrt : (∃ n, rt = .object n) ∨ ∃ t, rt = .array t) (hv : v = .null ∨ ∃ a, v = .ref a) (q : Q (some v) M) : zR Γ d y pc L [v] M Q := by
  intro p e s m args below meth c H locs ls C hW hl
  exact W.aret C.1 C.2.1 (C.2.2.2.1.trans hr) hrt hv (fun t ht hWm => ⟨⟨_, M, rfl, q, by rw [ht]; exact hW.1⟩, hW.2.2.F ht⟩) hW.2.2.2.2 hdg C.2.2.2.2.1
def zfld (own : String) (idx ci k : Nat) : Prop := ∃ (C : String) (T : u_T) (N : Nat), zCL[ci]? = some (C, T, N) ∧ (∀ w ∈ u_ws C T N, w ∈ zWS) ∧ k < N ∧ Cond.fieldLink own idx (T k).1 (T k).2.1 (T k).2.2.1 ∈ zWS
def zfldP (own : String) (idx ci k : Nat) (ty : FieldType) : Prop := ∃ (C : String) (T : u_T) (N : Nat) (tf : Nat → FieldType), zCL[ci]? = some (C, T, N) ∧ (∀ w ∈ u_ws C T N, w ∈ zWS) ∧ k < N ∧ Cond.fieldLink own idx (T k).1 (T k).2.1 (T k).2.2.1 ∈ zWS ∧ (∀ k, k < N → parseFieldDescriptor (T k).2.2.1 = some (tf k)) ∧ (∀ a, a < N → ∀ b, b < N → a ≠ b → (T a).2.1 ≠ (T b).2.1) ∧ (T k).2.2.2 = false ∧ parseFieldDescriptor (T k).2.2.1 = some ty
theorem zj_getI {idx i ci k0 : Nat} {fl : List Nat} (hdg : decode y.2.1 pc = .ok (.getfield idx, 3)) (hp : pc + 3 = pc') (hf : zfld y.1.cls idx ci k0) (hsh : zSH[i]? = some (ci + 10, fl)) (hk : fl[k0]? = some (0)) (k : zR Γ d y pc' L (.int (M.1 i k0) :: rest) M Q) : zR Γ d y pc L (.ref (zad Γ i) :: rest) M Q := by
  subst hp
  intro p e s m args below meth c H locs ls C hW hl
  obtain ⟨C0, T, N, h1, h2, h3, h4⟩ := hf
  exact va_get C.1 C.2.1 C.2.2.2.2.2.2.1 h2 C.2.2.2.2.2.1 C.2.2.2.2.2.2.2.1 hW.1 i (zws_at hsh) h1 k0 h3 (C.2.2.2.2.2.2.1 _ h4) (fun _ h => h) (by rw [zfs_get, hk]; rfl) hdg (k p e s m args below meth c H locs ls C hW hl)
theorem zj_getL {idx i ci k0 : Nat} {fl : List Nat} (hdg : decode y.2.1 pc = .ok (.getfield idx, 3)) (hp : pc + 3 = pc') (hf : zfld y.1.cls idx ci k0) (hsh : zSH[i]? = some (ci + 10, fl)) (hk : fl[k0]? = some (1)) (k : zR Γ d y pc' L (.long (M.2 i k0) :: rest) M Q) : zR Γ d y pc L (.ref (zad Γ i) :: rest) M Q := by
  subst hp
  intro p e s m args below meth c H locs ls C hW hl
  obtain ⟨C0, T, N, h1, h2, h3, h4⟩ := hf
  exact va_get C.1 C.2.1 C.2.2.2.2.2.2.1 h2 C.2.2.2.2.2.1 C.2.2.2.2.2.2.2.1 hW.1 i (zws_at hsh) h1 k0 h3 (C.2.2.2.2.2.2.1 _ h4) (fun _ h => h) (by rw [zfs_get, hk]; rfl) hdg (k p e s m args below meth c H locs ls C hW hl)
theorem zj_getR {idx i ci k0 j : Nat} {fl : List Nat} (hdg : decode y.2.1 pc = .ok (.getfield idx, 3)) (hp : pc + 3 = pc') (hf : zfld y.1.cls idx ci k0) (hsh : zSH[i]? = some (ci + 10, fl)) (hk : fl[k0]? = some (j + 2)) (k : zR Γ d y pc' L (.ref (zad Γ j) :: rest) M Q) : zR Γ d y pc L (.ref (zad Γ i) :: rest) M Q := by
  subst hp
  intro p e s m args below meth c H locs ls C hW hl
  obtain ⟨C0, T, N, h1, h2, h3, h4⟩ := hf
  exact va_get C.1 C.2.1 C.2.2.2.2.2.2.1 h2 C.2.2.2.2.2.1 C.2.2.2.2.2.2.2.1 hW.1 i (zws_at hsh) h1 k0 h3 (C.2.2.2.2.2.2.1 _ h4) (fun _ h => h) (by rw [zfs_get, hk]; rfl) hdg (k p e s m args below meth c H locs ls C hW hl)
theorem zfs_set {Γ : zG} {M N : zM} {i k : Nat} {fl : List Nat} {v : Value} {c : Nat} (hk : fl[k]? = some c) (hv : v = zfv Γ N i k c) (h : ∀ j c, j ≠ k → zfv Γ N i j c = zfv Γ M i j c) : (zfs Γ M i fl).set k v = zfs Γ N i fl := by
  subst hv
  apply List.ext_getElem?
  intro j
  rw [List.getElem?_set, zfs_get, zfs_get]
  split
  · next e =>
    subst e
    have hl : k < (zfs Γ M i fl).length := by simpa [zfs] using (List.getElem?_eq_some_iff.mp hk).1
    rw [if_pos hl, hk]; rfl
  · next e =>
    cases fl[j]? with
    | none => rfl
    | some c => simp only [Option.map_some]; rw [h j c (Ne.symm e)]
theorem zj_putI {idx i ci k0 : Nat} {fl : List Nat} {v : Int32} (hdg : decode y.2.1 pc = .ok (.putfield idx, 3)) (hp : pc + 3 = pc') (hf : zfldP y.1.cls idx ci k0 .int) (hsh : zSH[i]? = some (ci + 10, fl)) (hk : fl[k0]? = some 0)  (k : zR Γ d y pc' L rest (zui M i (upd (M.1 i) k0 v)) Q) : zR Γ d y pc L (.int v :: .ref (zad Γ i) :: rest) M Q := by
  subst hp
  intro p e s m args below meth c H locs ls C hW hl
  obtain ⟨C0, T, N, tf, h1, h2, h3, h4, h5, h6, h7, h8⟩ := hf
  refine va_put C.1 C.2.1 C.2.2.2.2.2.2.1 h2 tf h5 h6 C.2.2.2.2.2.1 C.2.2.2.2.2.2.2.1 hW.1 hW.2.1 hW.2.2 i (zws_at hsh) h1 k0 h3 (C.2.2.2.2.2.2.1 _ h4) (fun _ h => h) h7 h8 rfl rfl (by simpa [zfs] using (List.getElem?_eq_some_iff.mp hk).1) hdg (fun H1 locs1 hP hD hS => ?_)
  have e1 : (zfs Γ M i fl).set k0 (Value.int v) = zfs Γ (zui M i (upd (M.1 i) k0 v)) i fl := by
    refine zfs_set hk ?_ ?_
    · simp [zfv, zui, upd]
    · intro j c0 hj
      match c0 with
      | 0 => simp [zfv, zui, upd, hj]
      | 1 => simp [zfv, zui]
      | c1 + 2 => rfl
  have e2 : (zws Γ M).set i (zad Γ i, .inr (ci, (zfs Γ M i fl).set k0 (Value.int v))) = zws Γ (zui M i (upd (M.1 i) k0 v)) := zws_set hsh (by rw [e1]; rfl) (fun j hj => by simp [zui, hj]) (fun j hj => by simp [zui])
  have hP : va_P Γ.2.2.2.1 zCL ((zws Γ M).set i (zad Γ i, .inr (ci, (zfs Γ M i fl).set k0 (Value.int v)))) H1 := hP
  rw [e2] at hP
  exact k p e s m args below meth c H1 locs1 ls C ⟨hP, zD_any hW.2.1, hS⟩ hl
theorem zj_putZ {idx i ci k0 : Nat} {fl : List Nat} {v : Int32} (hdg : decode y.2.1 pc = .ok (.putfield idx, 3)) (hp : pc + 3 = pc') (hf : zfldP y.1.cls idx ci k0 .boolean) (hsh : zSH[i]? = some (ci + 10, fl)) (hk : fl[k0]? = some 0) (hv : v = 0 ∨ v = 1) (k : zR Γ d y pc' L rest (zui M i (upd (M.1 i) k0 v)) Q) : zR Γ d y pc L (.int v :: .ref (zad Γ i) :: rest) M Q := by
  subst hp
  intro p e s m args below meth c H locs ls C hW hl
  obtain ⟨C0, T, N, tf, h1, h2, h3, h4, h5, h6, h7, h8⟩ := hf
  refine va_put C.1 C.2.1 C.2.2.2.2.2.2.1 h2 tf h5 h6 C.2.2.2.2.2.1 C.2.2.2.2.2.2.2.1 hW.1 hW.2.1 hW.2.2 i (zws_at hsh) h1 k0 h3 (C.2.2.2.2.2.2.1 _ h4) (fun _ h => h) h7 h8 (by rcases hv with rfl | rfl <;> rfl) (by rcases hv with rfl | rfl <;> rfl) (by simpa [zfs] using (List.getElem?_eq_some_iff.mp hk).1) hdg (fun H1 locs1 hP hD hS => ?_)
  have e1 : (zfs Γ M i fl).set k0 (Value.int v) = zfs Γ (zui M i (upd (M.1 i) k0 v)) i fl := by
    refine zfs_set hk ?_ ?_
    · simp [zfv, zui, upd]
    · intro j c0 hj
      match c0 with
      | 0 => simp [zfv, zui, upd, hj]
      | 1 => simp [zfv, zui]
      | c1 + 2 => rfl
  have e2 : (zws Γ M).set i (zad Γ i, .inr (ci, (zfs Γ M i fl).set k0 (Value.int v))) = zws Γ (zui M i (upd (M.1 i) k0 v)) := zws_set hsh (by rw [e1]; rfl) (fun j hj => by simp [zui, hj]) (fun j hj => by simp [zui])
  have hP : va_P Γ.2.2.2.1 zCL ((zws Γ M).set i (zad Γ i, .inr (ci, (zfs Γ M i fl).set k0 (Value.int v)))) H1 := hP
  rw [e2] at hP
  exact k p e s m args below meth c H1 locs1 ls C ⟨hP, zD_any hW.2.1, hS⟩ hl
theorem zj_putL {idx i ci k0 : Nat} {fl : List Nat} {v : Int64} (hdg : decode y.2.1 pc = .ok (.putfield idx, 3)) (hp : pc + 3 = pc') (hf : zfldP y.1.cls idx ci k0 .long) (hsh : zSH[i]? = some (ci + 10, fl)) (hk : fl[k0]? = some 1)  (k : zR Γ d y pc' L rest (zul M i (vp_updL (M.2 i) k0 v)) Q) : zR Γ d y pc L (.long v :: .ref (zad Γ i) :: rest) M Q := by
  subst hp
  intro p e s m args below meth c H locs ls C hW hl
  obtain ⟨C0, T, N, tf, h1, h2, h3, h4, h5, h6, h7, h8⟩ := hf
  refine va_put C.1 C.2.1 C.2.2.2.2.2.2.1 h2 tf h5 h6 C.2.2.2.2.2.1 C.2.2.2.2.2.2.2.1 hW.1 hW.2.1 hW.2.2 i (zws_at hsh) h1 k0 h3 (C.2.2.2.2.2.2.1 _ h4) (fun _ h => h) h7 h8 rfl rfl (by simpa [zfs] using (List.getElem?_eq_some_iff.mp hk).1) hdg (fun H1 locs1 hP hD hS => ?_)
  have e1 : (zfs Γ M i fl).set k0 (Value.long v) = zfs Γ (zul M i (vp_updL (M.2 i) k0 v)) i fl := by
    refine zfs_set hk ?_ ?_
    · simp [zfv, zul, vp_updL]
    · intro j c0 hj
      match c0 with
      | 0 => simp [zfv, zul]
      | 1 => simp [zfv, zul, vp_updL, hj]
      | c1 + 2 => rfl
  have e2 : (zws Γ M).set i (zad Γ i, .inr (ci, (zfs Γ M i fl).set k0 (Value.long v))) = zws Γ (zul M i (vp_updL (M.2 i) k0 v)) := zws_set hsh (by rw [e1]; rfl) (fun j hj => by simp [zul]) (fun j hj => by simp [zul, hj])
  have hP : va_P Γ.2.2.2.1 zCL ((zws Γ M).set i (zad Γ i, .inr (ci, (zfs Γ M i fl).set k0 (Value.long v)))) H1 := hP
  rw [e2] at hP
  exact k p e s m args below meth c H1 locs1 ls C ⟨hP, zD_any hW.2.1, hS⟩ hl
theorem zj_iald {i n : Nat} {j : Int32} (hdg : decode y.2.1 pc = .ok (.iaload, 1)) (hp : pc + 1 = pc') (hsh : zSH[i]? = some (0, [n])) (hin : vp_in j n) (k : zR Γ d y pc' L (.int (M.1 i j.toNatClampNeg) :: rest) M Q) : zR Γ d y pc L (.int j :: .ref (zad Γ i) :: rest) M Q := by
  subst hp
  intro p e s m args below meth c H locs ls C hW hl
  exact va_iald C.1 C.2.1 C.2.2.2.2.2.2.2.1 hW.1 i 0 (zws_at hsh) rfl hin hdg (k p e s m args below meth c H locs ls C hW hl)
theorem zj_lald {i n : Nat} {j : Int32} (hdg : decode y.2.1 pc = .ok (.laload, 1)) (hp : pc + 1 = pc') (hsh : zSH[i]? = some (1, [n])) (hin : vp_in j n) (k : zR Γ d y pc' L (.long (M.2 i j.toNatClampNeg) :: rest) M Q) : zR Γ d y pc L (.int j :: .ref (zad Γ i) :: rest) M Q := by
  subst hp
  intro p e s m args below meth c H locs ls C hW hl
  exact va_lald C.1 C.2.1 C.2.2.2.2.2.2.2.1 hW.1 i 1 (zws_at hsh) rfl hin hdg (k p e s m args below meth c H locs ls C hW hl)
theorem zj_bald {i n : Nat} {j : Int32} (hdg : decode y.2.1 pc = .ok (.baload, 1)) (hp : pc + 1 = pc') (hsh : zSH[i]? = some (2, [n])) (hin : vp_in j n) (k : zR Γ d y pc' L (.int (M.1 i j.toNatClampNeg) :: rest) M Q) : zR Γ d y pc L (.int j :: .ref (zad Γ i) :: rest) M Q := by
  subst hp
  intro p e s m args below meth c H locs ls C hW hl
  exact va_bald C.1 C.2.1 C.2.2.2.2.2.2.2.1 hW.1 i 2 (zws_at hsh) rfl hin hdg (k p e s m args below meth c H locs ls C hW hl)
theorem zj_zald {i n : Nat} {j : Int32} (hdg : decode y.2.1 pc = .ok (.baload, 1)) (hp : pc + 1 = pc') (hsh : zSH[i]? = some (3, [n])) (hin : vp_in j n) (k : zR Γ d y pc' L (.int (M.1 i j.toNatClampNeg) :: rest) M Q) : zR Γ d y pc L (.int j :: .ref (zad Γ i) :: rest) M Q := by
  subst hp
  intro p e s m args below meth c H locs ls C hW hl
  exact va_zald C.1 C.2.1 C.2.2.2.2.2.2.2.1 hW.1 i 3 (zws_at hsh) rfl hin hdg (k p e s m args below meth c H locs ls C hW hl)
theorem zj_iast {i n : Nat} {j : Int32} {x : Int32} (hdg : decode y.2.1 pc = .ok (.iastore, 1)) (hp : pc + 1 = pc') (hsh : zSH[i]? = some (0, [n])) (hin : vp_in j n) (k : zR Γ d y pc' L rest (zui M i (upd (M.1 i) j.toNatClampNeg x)) Q) : zR Γ d y pc L (.int x :: .int j :: .ref (zad Γ i) :: rest) M Q := by
  subst hp
  intro p e s m args below meth c H locs ls C hW hl
  refine va_iast C.1 C.2.1 C.2.2.2.2.2.2.2.1 hW.1 hW.2.1 hW.2.2 i 0 (zws_at hsh) rfl hin hdg (fun H1 locs1 hP hD hS => ?_)
  have e2 : (zws Γ M).set i (zad Γ i, .inl (Γ.2.2.1 0, n, .inl (upd (M.1 i) j.toNatClampNeg x))) = zws Γ (zui M i (upd (M.1 i) j.toNatClampNeg x)) := zws_set hsh (by simp [zent, zui]) (fun q hq => by simp [zui, hq]) (fun q hq => by simp [zui])
  have hP : va_P Γ.2.2.2.1 zCL ((zws Γ M).set i (zad Γ i, .inl (Γ.2.2.1 0, n, .inl (upd (M.1 i) j.toNatClampNeg x)))) H1 := hP
  rw [e2] at hP
  exact k p e s m args below meth c H1 locs1 ls C ⟨hP, zD_any hW.2.1, hS⟩ hl
theorem zj_last {i n : Nat} {j : Int32} {x : Int64} (hdg : decode y.2.1 pc = .ok (.lastore, 1)) (hp : pc + 1 = pc') (hsh : zSH[i]? = some (1, [n])) (hin : vp_in j n) (k : zR Γ d y pc' L rest (zul M i (vp_updL (M.2 i) j.toNatClampNeg x)) Q) : zR Γ d y pc L (.long x :: .int j :: .ref (zad Γ i) :: rest) M Q := by
  subst hp
  intro p e s m args below meth c H locs ls C hW hl
  refine va_last C.1 C.2.1 C.2.2.2.2.2.2.2.1 hW.1 hW.2.1 hW.2.2 i 1 (zws_at hsh) rfl hin hdg (fun H1 locs1 hP hD hS => ?_)
  have e2 : (zws Γ M).set i (zad Γ i, .inl (Γ.2.2.1 1, n, .inr (.inl (vp_updL (M.2 i) j.toNatClampNeg x)))) = zws Γ (zul M i (vp_updL (M.2 i) j.toNatClampNeg x)) := zws_set hsh (by simp [zent, zul]) (fun q hq => by simp [zul]) (fun q hq => by simp [zul, hq])
  have hP : va_P Γ.2.2.2.1 zCL ((zws Γ M).set i (zad Γ i, .inl (Γ.2.2.1 1, n, .inr (.inl (vp_updL (M.2 i) j.toNatClampNeg x))))) H1 := hP
  rw [e2] at hP
  exact k p e s m args below meth c H1 locs1 ls C ⟨hP, zD_any hW.2.1, hS⟩ hl
theorem zj_bast {i n : Nat} {j : Int32} {x : Int32} (hdg : decode y.2.1 pc = .ok (.bastore, 1)) (hp : pc + 1 = pc') (hsh : zSH[i]? = some (2, [n])) (hin : vp_in j n) (k : zR Γ d y pc' L rest (zui M i (upd (M.1 i) j.toNatClampNeg (vp_nar .byte x))) Q) : zR Γ d y pc L (.int x :: .int j :: .ref (zad Γ i) :: rest) M Q := by
  subst hp
  intro p e s m args below meth c H locs ls C hW hl
  refine va_bast C.1 C.2.1 C.2.2.2.2.2.2.2.1 hW.1 hW.2.1 hW.2.2 i 2 (zws_at hsh) rfl hin hdg (fun H1 locs1 hP hD hS => ?_)
  have e2 : (zws Γ M).set i (zad Γ i, .inl (Γ.2.2.1 2, n, .inl (upd (M.1 i) j.toNatClampNeg (vp_nar .byte x)))) = zws Γ (zui M i (upd (M.1 i) j.toNatClampNeg (vp_nar .byte x))) := zws_set hsh (by simp [zent, zui]) (fun q hq => by simp [zui, hq]) (fun q hq => by simp [zui])
  have hP : va_P Γ.2.2.2.1 zCL ((zws Γ M).set i (zad Γ i, .inl (Γ.2.2.1 2, n, .inl (upd (M.1 i) j.toNatClampNeg (vp_nar .byte x))))) H1 := hP
  rw [e2] at hP
  exact k p e s m args below meth c H1 locs1 ls C ⟨hP, zD_any hW.2.1, hS⟩ hl
theorem zj_zast {i n : Nat} {j : Int32} {x : Int32} (hdg : decode y.2.1 pc = .ok (.bastore, 1)) (hp : pc + 1 = pc') (hsh : zSH[i]? = some (3, [n])) (hin : vp_in j n) (k : zR Γ d y pc' L rest (zui M i (upd (M.1 i) j.toNatClampNeg (vp_nar .boolean x))) Q) : zR Γ d y pc L (.int x :: .int j :: .ref (zad Γ i) :: rest) M Q := by
  subst hp
  intro p e s m args below meth c H locs ls C hW hl
  refine va_zast C.1 C.2.1 C.2.2.2.2.2.2.2.1 hW.1 hW.2.1 hW.2.2 i 3 (zws_at hsh) rfl hin hdg (fun H1 locs1 hP hD hS => ?_)
  have e2 : (zws Γ M).set i (zad Γ i, .inl (Γ.2.2.1 3, n, .inl (upd (M.1 i) j.toNatClampNeg (vp_nar .boolean x)))) = zws Γ (zui M i (upd (M.1 i) j.toNatClampNeg (vp_nar .boolean x))) := zws_set hsh (by simp [zent, zui]) (fun q hq => by simp [zui, hq]) (fun q hq => by simp [zui])
  have hP : va_P Γ.2.2.2.1 zCL ((zws Γ M).set i (zad Γ i, .inl (Γ.2.2.1 3, n, .inl (upd (M.1 i) j.toNatClampNeg (vp_nar .boolean x))))) H1 := hP
  rw [e2] at hP
  exact k p e s m args below meth c H1 locs1 ls C ⟨hP, zD_any hW.2.1, hS⟩ hl
theorem zj_aald4 {i q : Nat} {j : Int32} {l : List Nat} (hdg : decode y.2.1 pc = .ok (.aaload, 1)) (hp : pc + 1 = pc') (hsh : zSH[i]? = some (4, l)) (hin : vp_in j l.length) (hq : l[j.toNatClampNeg]? = some q) (k : zR Γ d y pc' L (.ref (zad Γ q) :: rest) M Q) : zR Γ d y pc L (.int j :: .ref (zad Γ i) :: rest) M Q := by
  subst hp
  intro p e s m args below meth c H locs ls C hW hl
  refine va_aldq C.1 C.2.1 C.2.2.2.2.2.2.2.1 hW.1 i 4 (zws_at hsh) rfl hin hdg ?_
  rw [hq]
  exact k p e s m args below meth c H locs ls C hW hl
theorem zj_aald5 {i q : Nat} {j : Int32} {l : List Nat} (hdg : decode y.2.1 pc = .ok (.aaload, 1)) (hp : pc + 1 = pc') (hsh : zSH[i]? = some (5, l)) (hin : vp_in j l.length) (hq : l[j.toNatClampNeg]? = some q) (k : zR Γ d y pc' L (.ref (zad Γ q) :: rest) M Q) : zR Γ d y pc L (.int j :: .ref (zad Γ i) :: rest) M Q := by
  subst hp
  intro p e s m args below meth c H locs ls C hW hl
  refine va_aldq C.1 C.2.1 C.2.2.2.2.2.2.2.1 hW.1 i 5 (zws_at hsh) rfl hin hdg ?_
  rw [hq]
  exact k p e s m args below meth c H locs ls C hW hl
def zcp (own : String) (idx : Nat) : Prop := Cond.methodLink own idx arraycopyName ∈ zWS
theorem zj_copyI {idx i0 i1 n0 n1 : Nat} {sp dp n : Int32} (hdg : decode y.2.1 pc = .ok (.invokestatic idx, 3)) (hp : pc + 3 = pc') (hc : zcp y.1.cls idx) (hn : Cond.native arraycopyName ∈ zWS ∧ Cond.static arraycopyName ∈ zWS ∧ Cond.initialized "java/lang/System" ∈ zWS) (hsh0 : zSH[i0]? = some (0, [n0])) (hsh1 : zSH[i1]? = some (0, [n1])) (h1 : ¬ sp < 0) (h2 : ¬ dp < 0) (h3 : ¬ n < 0) (h4 : sp.toNatClampNeg + n.toNatClampNeg ≤ n0) (h5 : dp.toNatClampNeg + n.toNatClampNeg ≤ n1) (hd : 1 ≤ d) (hcat : (rest.map fun v => v.category).sum ≤ 8) (k : zR Γ d y pc' L rest (zui M i1 (va_cpy (M.1 i0) (M.1 i1) sp.toNatClampNeg dp.toNatClampNeg n.toNatClampNeg)) Q) : zR Γ d y pc L (.int n :: .int dp :: .ref (zad Γ i1) :: .int sp :: .ref (zad Γ i0) :: rest) M Q := by
  subst hp
  intro p e s m args below meth c H locs ls C hW hl
  have hts := C.2.2.2.2.2.2.1
  have hlo : (rest.map fun v => v.category).sum + (nativeFrameWords "java/lang/System" "arraycopy" 5 + 11) ≤ (zrm d).locals := by
    have e : nativeFrameWords "java/lang/System" "arraycopy" 5 ≤ 40 := by decide +kernel
    show _ ≤ 64 * d
    omega
  refine va_copyi C.1 C.2.1 (C.2.2.1.trans hl.1.symm) C.2.2.2.2.2.1 (hts _ hc) (hts _ hn.1) (hts _ hn.2.1) (hts _ hn.2.2) C.2.2.2.2.2.2.2.1 hW.1 hW.2.1 hW.2.2 i0 i1 0 0 (zws_at hsh0) (zws_at hsh1) rfl rfl rfl h1 h2 h3 h4 h5 (fun _ _ => rfl) hd hlo hdg (fun H1 locs1 hP hD hS => ?_)
  have e2 : (zws Γ M).set i1 (zad Γ i1, .inl (Γ.2.2.1 0, n1, .inl (va_cpy (M.1 i0) (M.1 i1) sp.toNatClampNeg dp.toNatClampNeg n.toNatClampNeg))) = zws Γ (zui M i1 (va_cpy (M.1 i0) (M.1 i1) sp.toNatClampNeg dp.toNatClampNeg n.toNatClampNeg)) := zws_set hsh1 (by simp [zent, zui]) (fun q hq => by simp [zui, hq]) (fun q hq => by simp [zui])
  have hP : va_P Γ.2.2.2.1 zCL ((zws Γ M).set i1 (zad Γ i1, .inl (Γ.2.2.1 0, n1, .inl (va_cpy (M.1 i0) (M.1 i1) sp.toNatClampNeg dp.toNatClampNeg n.toNatClampNeg)))) H1 := hP
  rw [e2] at hP
  exact k p e s m args below meth c H1 locs1 ls C ⟨hP, zD_any hW.2.1, hS⟩ hl
theorem zj_copyL {idx i0 i1 n0 n1 : Nat} {sp dp n : Int32} (hdg : decode y.2.1 pc = .ok (.invokestatic idx, 3)) (hp : pc + 3 = pc') (hc : zcp y.1.cls idx) (hn : Cond.native arraycopyName ∈ zWS ∧ Cond.static arraycopyName ∈ zWS ∧ Cond.initialized "java/lang/System" ∈ zWS) (hsh0 : zSH[i0]? = some (1, [n0])) (hsh1 : zSH[i1]? = some (1, [n1])) (h1 : ¬ sp < 0) (h2 : ¬ dp < 0) (h3 : ¬ n < 0) (h4 : sp.toNatClampNeg + n.toNatClampNeg ≤ n0) (h5 : dp.toNatClampNeg + n.toNatClampNeg ≤ n1) (hd : 1 ≤ d) (hcat : (rest.map fun v => v.category).sum ≤ 8) (k : zR Γ d y pc' L rest (zul M i1 (va_cpy (M.2 i0) (M.2 i1) sp.toNatClampNeg dp.toNatClampNeg n.toNatClampNeg)) Q) : zR Γ d y pc L (.int n :: .int dp :: .ref (zad Γ i1) :: .int sp :: .ref (zad Γ i0) :: rest) M Q := by
  subst hp
  intro p e s m args below meth c H locs ls C hW hl
  have hts := C.2.2.2.2.2.2.1
  have hlo : (rest.map fun v => v.category).sum + (nativeFrameWords "java/lang/System" "arraycopy" 5 + 11) ≤ (zrm d).locals := by
    have e : nativeFrameWords "java/lang/System" "arraycopy" 5 ≤ 40 := by decide +kernel
    show _ ≤ 64 * d
    omega
  refine va_copyl C.1 C.2.1 (C.2.2.1.trans hl.1.symm) C.2.2.2.2.2.1 (hts _ hc) (hts _ hn.1) (hts _ hn.2.1) (hts _ hn.2.2) C.2.2.2.2.2.2.2.1 hW.1 hW.2.1 hW.2.2 i0 i1 1 1 (zws_at hsh0) (zws_at hsh1) rfl rfl rfl h1 h2 h3 h4 h5 (fun _ _ => rfl) hd hlo hdg (fun H1 locs1 hP hD hS => ?_)
  have e2 : (zws Γ M).set i1 (zad Γ i1, .inl (Γ.2.2.1 1, n1, .inr (.inl (va_cpy (M.2 i0) (M.2 i1) sp.toNatClampNeg dp.toNatClampNeg n.toNatClampNeg)))) = zws Γ (zul M i1 (va_cpy (M.2 i0) (M.2 i1) sp.toNatClampNeg dp.toNatClampNeg n.toNatClampNeg)) := zws_set hsh1 (by simp [zent, zul]) (fun q hq => by simp [zul]) (fun q hq => by simp [zul, hq])
  have hP : va_P Γ.2.2.2.1 zCL ((zws Γ M).set i1 (zad Γ i1, .inl (Γ.2.2.1 1, n1, .inr (.inl (va_cpy (M.2 i0) (M.2 i1) sp.toNatClampNeg dp.toNatClampNeg n.toNatClampNeg))))) H1 := hP
  rw [e2] at hP
  exact k p e s m args below meth c H1 locs1 ls C ⟨hP, zD_any hW.2.1, hS⟩ hl
end ZJ
