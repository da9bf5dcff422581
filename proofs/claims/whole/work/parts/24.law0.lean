/-! a run of one frame over the fixed world, whatever its end: for the law, its helpers and the throwing roads -/
abbrev gS : Type := (Program) × (Env) × (State) × (MethodId) × (Array Value) × (List Frame) × (Method) × (Code) × (Room) × (State → Prop) × (Nat → Prop) × (ByteArray) × (Nat) × (String)
abbrev gS.p (S : gS) : Program := S.1
abbrev gS.e (S : gS) : Env := S.2.1
abbrev gS.s (S : gS) : State := S.2.2.1
abbrev gS.m (S : gS) : MethodId := S.2.2.2.1
abbrev gS.args (S : gS) : Array Value := S.2.2.2.2.1
abbrev gS.below (S : gS) : List Frame := S.2.2.2.2.2.1
abbrev gS.meth (S : gS) : Method := S.2.2.2.2.2.2.1
abbrev gS.c (S : gS) : Code := S.2.2.2.2.2.2.2.1
abbrev gS.R (S : gS) : Room := S.2.2.2.2.2.2.2.2.1
abbrev gS.Z (S : gS) : State → Prop := S.2.2.2.2.2.2.2.2.2.1
abbrev gS.A (S : gS) : Nat → Prop := S.2.2.2.2.2.2.2.2.2.2.1
abbrev gS.cc (S : gS) : ByteArray := S.2.2.2.2.2.2.2.2.2.2.2.1
abbrev gS.nL (S : gS) : Nat := S.2.2.2.2.2.2.2.2.2.2.2.2.1
abbrev gS.own (S : gS) : String := S.2.2.2.2.2.2.2.2.2.2.2.2.2
abbrev gSmk (p : Program) (e : Env) (s : State) (m : MethodId) (args : Array Value) (below : List Frame) (meth : Method) (c : Code) (R : Room) (Z : State → Prop) (A : Nat → Prop) (cc : ByteArray) (nL : Nat) (own : String) : gS := (p, e, s, m, args, below, meth, c, R, Z, A, cc, nL, own)
def xDC : List MethodName := [⟨"java/lang/RuntimeException", "<init>", "(Ljava/lang/String;)V"⟩, ⟨"java/lang/Exception", "<init>", "(Ljava/lang/String;)V"⟩, ⟨"java/lang/Throwable", "<init>", "(Ljava/lang/String;)V"⟩]
def xE (Γ : zG) (s : State) : Prop := vx_Zq Bundle.tN "UNASSIGNED_STACK" Bundle.steD (zA Γ) s s.heap ∧ vx_Zq Bundle.tN "SUPPRESSED_SENTINEL" Bundle.listD (zA Γ) s s.heap ∧ (∀ x ∈ xDC, va_Nw (.declares x) s) ∧ va_Nw (.castable "java/util/NoSuchElementException" "java/util/NoSuchElementException") s
def gC (Γ : zG) (S : gS) : Prop := S.p.tables.exec = Jvm.exec ∧ S.c.code = S.cc ∧ S.c.maxLocals = S.nL ∧ S.s.vm.findClass S.own = some S.m.cls ∧ (∀ w ∈ zWS, w.before S.args S.s = true) ∧ va_K Γ.2.2.2.1 zCL (ztys Γ) S.s ∧ zEx Γ S.s ∧ xE Γ S.s ∧ (∀ q, zA Γ q → S.A q) ∧ (∀ q, q < S.s.heap.size → S.A q → zA Γ q)
def gW (Γ : zG) (S : gS) (H : Heap) (locs : List Loc) (M : zM) : Prop := va_P Γ.2.2.2.1 zCL (zws Γ M) H ∧ va_D S.A (zws Γ M) ∧ va_S S.A S.s.heap H locs
def gR (Γ : zG) (S : gS) (pc : Nat) (L : List (Nat × Value)) (st : List Value) (M : zM) (kc ks : Nat) : Prop :=
  ∀ (H : Heap) (locs : List Loc) (ls : Array Slot), gW Γ S H locs M → lv_has ls S.nL L → W S.p Γ.1 S.e S.R S.s S.m S.args S.below S.meth S.c H locs kc ks S.Z (F0 S.m pc ls st)
theorem gD_any {Γ : zG} {A : Nat → Prop} {M N : zM} (h : va_D A (zws Γ M)) : va_D A (zws Γ N) := by
  refine ⟨fun i j p q hp hq e => ?_, fun k q hq => ?_⟩
  · rw [zws_get] at hp hq
    cases hi : zSH[i]? with
    | none => rw [hi] at hp; cases hp
    | some x =>
      cases hj : zSH[j]? with
      | none => rw [hj] at hq; cases hq
      | some y =>
        rw [hi] at hp; rw [hj] at hq
        cases hp; cases hq
        exact h.1 i j _ _ (zws_at hi) (zws_at hj) e
  · rw [zws_get] at hq
    cases hi : zSH[k]? with
    | none => rw [hi] at hq; cases hq
    | some x =>
      rw [hi] at hq
      cases hq
      exact h.2 k (zad Γ k, zent Γ M k x) (zws_at hi)
theorem gD_z {Γ : zG} {A : Nat → Prop} {M : zM} (h : va_D A (zws Γ M)) : va_D (zA Γ) (zws Γ M) := by
  refine ⟨h.1, fun k q hq => ?_⟩
  rw [zws_get] at hq
  cases hi : zSH[k]? with
  | none => rw [hi] at hq; cases hq
  | some x =>
    rw [hi] at hq
    cases hq
    exact ⟨k, (List.getElem?_eq_some_iff.mp hi).1, rfl⟩
theorem zEx_keep {Γ : zG} {s U : State} (h : zEx Γ s) (hk : ∀ a : Nat, a < s.heap.size → ¬ zA Γ a → U.heap[a]? = s.heap[a]?) (hW : s.WarmedH U.vm) : zEx Γ U :=
  ⟨fun q hq => (h.1 q hq).warmM hW, (h.2.1.moved hW.alike).kept hk, fun q hq => (h.2.2.1 q hq).warm hW, (h.2.2.2.1.moved hW.alike).kept hk, fun q hq => ((h.2.2.2.2 q hq).moved hW.alike).kept hk⟩
theorem xE_keep {Γ : zG} {s U : State} (h : xE Γ s) (hk : ∀ a : Nat, a < s.heap.size → ¬ zA Γ a → U.heap[a]? = s.heap[a]?) (hW : s.WarmedH U.vm) : xE Γ U :=
  ⟨(vx_Zq.moved hW.alike h.1).kept hk, (vx_Zq.moved hW.alike h.2.1).kept hk, fun x hx => (h.2.2.1 x hx).warmD hW, h.2.2.2.warmC hW⟩
theorem xE_call {Γ : zG} {U : State} {g : JFrame} {mk : MethodId} {a : Array Value} (h : xE Γ U) : xE Γ (U.calling g mk a) :=
  ⟨vx_Zq.moved (u := U) (U := U.calling g mk a) (Vm.Alike.refl U.vm) h.1, vx_Zq.moved (u := U) (U := U.calling g mk a) (Vm.Alike.refl U.vm) h.2.1, fun x hx => va_Nw.same rfl (u := U) (U := U.calling g mk a) rfl (h.2.2.1 x hx), va_Nw.same rfl (u := U) (U := U.calling g mk a) rfl h.2.2.2⟩
section GJ
variable {Γ : zG} {S : gS} {kc ks : Nat} {pc pc' : Nat} {L L' : List (Nat × Value)} {rest st As : List Value} {M : zM} {z : zY}
theorem gj_iconst (C : gC Γ S) {n : Int} {v : Int32} (hdg : decode S.cc pc = .ok (.iconst n, 1)) (hp : pc + 1 = pc') (hv : Int32.ofInt n = v) (k : gR Γ S pc' L (.int v :: rest) M kc ks) : gR Γ S pc L (rest) M kc ks := by
  subst hp
  intro H locs ls hW hl
  exact lv_iconst C.1 C.2.1 hdg hv (k H locs ls hW hl)
theorem gj_bipush (C : gC Γ S) {n : Int} {v : Int32} (hdg : decode S.cc pc = .ok (.bipush n, 2)) (hp : pc + 2 = pc') (hv : (Int8.ofInt n).toInt32 = v) (k : gR Γ S pc' L (.int v :: rest) M kc ks) : gR Γ S pc L (rest) M kc ks := by
  subst hp
  intro H locs ls hW hl
  exact lv_bipush C.1 C.2.1 hdg hv (k H locs ls hW hl)
theorem gj_iadd (C : gC Γ S) {x z : Int32} (hdg : decode S.cc pc = .ok (.iadd, 1)) (hp : pc + 1 = pc') (k : gR Γ S pc' L (.int (x + z) :: rest) M kc ks) : gR Γ S pc L (.int z :: .int x :: rest) M kc ks := by
  subst hp
  intro H locs ls hW hl
  exact lv_iadd C.1 C.2.1 hdg (k H locs ls hW hl)
theorem gj_isub (C : gC Γ S) {x z : Int32} (hdg : decode S.cc pc = .ok (.isub, 1)) (hp : pc + 1 = pc') (k : gR Γ S pc' L (.int (x - z) :: rest) M kc ks) : gR Γ S pc L (.int z :: .int x :: rest) M kc ks := by
  subst hp
  intro H locs ls hW hl
  exact lv_isub C.1 C.2.1 hdg (k H locs ls hW hl)
theorem gj_iand (C : gC Γ S) {x z : Int32} (hdg : decode S.cc pc = .ok (.iand, 1)) (hp : pc + 1 = pc') (k : gR Γ S pc' L (.int (x &&& z) :: rest) M kc ks) : gR Γ S pc L (.int z :: .int x :: rest) M kc ks := by
  subst hp
  intro H locs ls hW hl
  exact lv_iand C.1 C.2.1 hdg (k H locs ls hW hl)
theorem gj_i2l (C : gC Γ S) {x : Int32} (hdg : decode S.cc pc = .ok (.i2l, 1)) (hp : pc + 1 = pc') (k : gR Γ S pc' L (.long (x.toInt64) :: rest) M kc ks) : gR Γ S pc L (.int x :: rest) M kc ks := by
  subst hp
  intro H locs ls hW hl
  exact lv_i2l C.1 C.2.1 hdg rfl (k H locs ls hW hl)
theorem gj_lcmp (C : gC Γ S) {x z : Int64} (hdg : decode S.cc pc = .ok (.lcmp, 1)) (hp : pc + 1 = pc') (k : gR Γ S pc' L (.int (lg_cmp x z) :: rest) M kc ks) : gR Γ S pc L (.long z :: .long x :: rest) M kc ks := by
  subst hp
  intro H locs ls hW hl
  exact W.lcmp C.1 C.2.1 hdg (k H locs ls hW hl)
theorem gj_iload (C : gC Γ S) (k0 : Nat) {i : Nat} {x : Int32} (hdg : decode S.cc pc = .ok (.iload i, 2)) (hp : pc + 2 = pc') (hk : L[k0]? = some (i, .int x)) (k : gR Γ S pc' L (.int x :: rest) M kc ks) : gR Γ S pc L rest M kc ks := by
  subst hp
  intro H locs ls hW hl
  exact lv_iload C.1 C.2.1 hdg (lv_at hl k0 hk) (k H locs ls hW hl)
theorem gj_iload_n (C : gC Γ S) (k0 : Nat) {j : Fin 4} {i : Nat} {x : Int32} (hdg : decode S.cc pc = .ok (.iload_n j, 1)) (hp : pc + 1 = pc') (hi : (j : Nat) = i) (hk : L[k0]? = some (i, .int x)) (k : gR Γ S pc' L (.int x :: rest) M kc ks) : gR Γ S pc L rest M kc ks := by
  subst hp
  intro H locs ls hW hl
  exact lv_iload_n C.1 C.2.1 hdg hi (lv_at hl k0 hk) (k H locs ls hW hl)
theorem gj_istore (C : gC Γ S) {i : Nat} {x : Int32} (hdg : decode S.cc pc = .ok (.istore i, 2)) (hp : pc + 2 = pc') (hn : i < S.nL) (hL : (i, Value.int x) :: L.filter (fun q => !(q.1 == i) && !(q.1 + 1 == i && q.2.category == 2)) = L') (k : gR Γ S pc' L' rest M kc ks) : gR Γ S pc L (.int x :: rest) M kc ks := by
  subst hp
  intro H locs ls hW hl
  exact lv_istore C.1 C.2.1 hdg hl hn hL (fun ls hl => k H locs ls hW hl)
theorem gj_istore_n (C : gC Γ S) {j : Fin 4} {i : Nat} {x : Int32} (hdg : decode S.cc pc = .ok (.istore_n j, 1)) (hp : pc + 1 = pc') (hi : (j : Nat) = i) (hn : i < S.nL) (hL : (i, Value.int x) :: L.filter (fun q => !(q.1 == i) && !(q.1 + 1 == i && q.2.category == 2)) = L') (k : gR Γ S pc' L' rest M kc ks) : gR Γ S pc L (.int x :: rest) M kc ks := by
  subst hp
  intro H locs ls hW hl
  exact lv_istore_n C.1 C.2.1 hdg hi hl hn hL (fun ls hl => k H locs ls hW hl)
theorem gj_aload_n (C : gC Γ S) (k0 : Nat) {j : Fin 4} {i : Nat} {x : Nat} (hdg : decode S.cc pc = .ok (.aload_n j, 1)) (hp : pc + 1 = pc') (hi : (j : Nat) = i) (hk : L[k0]? = some (i, .ref x)) (k : gR Γ S pc' L (.ref x :: rest) M kc ks) : gR Γ S pc L rest M kc ks := by
  subst hp
  intro H locs ls hW hl
  exact lv_aload_n C.1 C.2.1 hdg hi (lv_at hl k0 hk) (k H locs ls hW hl)
theorem gj_astore (C : gC Γ S) {i : Nat} {x : Nat} (hdg : decode S.cc pc = .ok (.astore i, 2)) (hp : pc + 2 = pc') (hn : i < S.nL) (hL : (i, Value.ref x) :: L.filter (fun q => !(q.1 == i) && !(q.1 + 1 == i && q.2.category == 2)) = L') (k : gR Γ S pc' L' rest M kc ks) : gR Γ S pc L (.ref x :: rest) M kc ks := by
  subst hp
  intro H locs ls hW hl
  exact lv_astore C.1 C.2.1 hdg hl hn hL (fun ls hl => k H locs ls hW hl)
theorem gj_astore_n (C : gC Γ S) {j : Fin 4} {i : Nat} {x : Nat} (hdg : decode S.cc pc = .ok (.astore_n j, 1)) (hp : pc + 1 = pc') (hi : (j : Nat) = i) (hn : i < S.nL) (hL : (i, Value.ref x) :: L.filter (fun q => !(q.1 == i) && !(q.1 + 1 == i && q.2.category == 2)) = L') (k : gR Γ S pc' L' rest M kc ks) : gR Γ S pc L (.ref x :: rest) M kc ks := by
  subst hp
  intro H locs ls hW hl
  exact lv_astore_n C.1 C.2.1 hdg hi hl hn hL (fun ls hl => k H locs ls hW hl)
theorem gj_iinc (C : gC Γ S) (k0 : Nat) {i : Nat} {n : Int} {x : Int32} (hdg : decode S.cc pc = .ok (.iinc i n, 3)) (hp : pc + 3 = pc') (hk : L[k0]? = some (i, .int x)) (hn : i < S.nL) (hL : (i, Value.int (x + Int32.ofInt n)) :: L.filter (fun q => !(q.1 == i) && !(q.1 + 1 == i && q.2.category == 2)) = L') (k : gR Γ S pc' L' rest M kc ks) : gR Γ S pc L rest M kc ks := by
  subst hp
  intro H locs ls hW hl
  exact lv_iinc C.1 C.2.1 hdg hl hk rfl hn hL (fun ls hl => k H locs ls hW hl)
theorem gj_loc (C : gC Γ S) (js : List Nat) (hL : lv_pick L js = L') (k : gR Γ S pc L' rest M kc ks) : gR Γ S pc L rest M kc ks := fun H locs ls hW hl => k H locs ls hW (lv_sub hl js hL)
theorem gj_if_eq (C : gC Γ S) {off : Int} {tgt : Nat} {x : Int32} (hdg : decode S.cc pc = .ok (.ifCond .eq off, 3)) (hp : pc + 3 = pc') (ht : (pc : Int) + off = (tgt : Int)) (kt : x = 0 → gR Γ S tgt L rest M kc ks) (kf : ¬ x = 0 → gR Γ S pc' L rest M kc ks) : gR Γ S pc L (.int x :: rest) M kc ks := by
  subst hp
  intro H locs ls hW hl
  exact lv_if_eq C.1 C.2.1 hdg ht (fun h => kt h H locs ls hW hl) (fun h => kf h H locs ls hW hl)
theorem gj_icmp_eq (C : gC Γ S) {off : Int} {tgt : Nat} {x z : Int32} (hdg : decode S.cc pc = .ok (.if_icmp .eq off, 3)) (hp : pc + 3 = pc') (ht : (pc : Int) + off = (tgt : Int)) (kt : x = z → gR Γ S tgt L rest M kc ks) (kf : ¬ x = z → gR Γ S pc' L rest M kc ks) : gR Γ S pc L (.int z :: .int x :: rest) M kc ks := by
  subst hp
  intro H locs ls hW hl
  exact lv_icmp_eq C.1 C.2.1 hdg ht (fun h => kt h H locs ls hW hl) (fun h => kf h H locs ls hW hl)
theorem gj_if_ne (C : gC Γ S) {off : Int} {tgt : Nat} {x : Int32} (hdg : decode S.cc pc = .ok (.ifCond .ne off, 3)) (hp : pc + 3 = pc') (ht : (pc : Int) + off = (tgt : Int)) (kt : ¬ x = 0 → gR Γ S tgt L rest M kc ks) (kf : x = 0 → gR Γ S pc' L rest M kc ks) : gR Γ S pc L (.int x :: rest) M kc ks := by
  subst hp
  intro H locs ls hW hl
  exact lv_if_ne C.1 C.2.1 hdg ht (fun h => kt h H locs ls hW hl) (fun h => kf h H locs ls hW hl)
theorem gj_icmp_ne (C : gC Γ S) {off : Int} {tgt : Nat} {x z : Int32} (hdg : decode S.cc pc = .ok (.if_icmp .ne off, 3)) (hp : pc + 3 = pc') (ht : (pc : Int) + off = (tgt : Int)) (kt : ¬ x = z → gR Γ S tgt L rest M kc ks) (kf : x = z → gR Γ S pc' L rest M kc ks) : gR Γ S pc L (.int z :: .int x :: rest) M kc ks := by
  subst hp
  intro H locs ls hW hl
  exact lv_icmp_ne C.1 C.2.1 hdg ht (fun h => kt h H locs ls hW hl) (fun h => kf h H locs ls hW hl)
theorem gj_if_lt (C : gC Γ S) {off : Int} {tgt : Nat} {x : Int32} (hdg : decode S.cc pc = .ok (.ifCond .lt off, 3)) (hp : pc + 3 = pc') (ht : (pc : Int) + off = (tgt : Int)) (kt : x < 0 → gR Γ S tgt L rest M kc ks) (kf : ¬ x < 0 → gR Γ S pc' L rest M kc ks) : gR Γ S pc L (.int x :: rest) M kc ks := by
  subst hp
  intro H locs ls hW hl
  exact lv_if_lt C.1 C.2.1 hdg ht (fun h => kt h H locs ls hW hl) (fun h => kf h H locs ls hW hl)
theorem gj_icmp_lt (C : gC Γ S) {off : Int} {tgt : Nat} {x z : Int32} (hdg : decode S.cc pc = .ok (.if_icmp .lt off, 3)) (hp : pc + 3 = pc') (ht : (pc : Int) + off = (tgt : Int)) (kt : x < z → gR Γ S tgt L rest M kc ks) (kf : ¬ x < z → gR Γ S pc' L rest M kc ks) : gR Γ S pc L (.int z :: .int x :: rest) M kc ks := by
  subst hp
  intro H locs ls hW hl
  exact lv_icmp_lt C.1 C.2.1 hdg ht (fun h => kt h H locs ls hW hl) (fun h => kf h H locs ls hW hl)
theorem gj_icmp_le (C : gC Γ S) {off : Int} {tgt : Nat} {x z : Int32} (hdg : decode S.cc pc = .ok (.if_icmp .le off, 3)) (hp : pc + 3 = pc') (ht : (pc : Int) + off = (tgt : Int)) (kt : x ≤ z → gR Γ S tgt L rest M kc ks) (kf : ¬ x ≤ z → gR Γ S pc' L rest M kc ks) : gR Γ S pc L (.int z :: .int x :: rest) M kc ks := by
  subst hp
  intro H locs ls hW hl
  exact lv_icmp_le C.1 C.2.1 hdg ht (fun h => kt h H locs ls hW hl) (fun h => kf h H locs ls hW hl)
theorem gj_icmp_gt (C : gC Γ S) {off : Int} {tgt : Nat} {x z : Int32} (hdg : decode S.cc pc = .ok (.if_icmp .gt off, 3)) (hp : pc + 3 = pc') (ht : (pc : Int) + off = (tgt : Int)) (kt : z < x → gR Γ S tgt L rest M kc ks) (kf : ¬ z < x → gR Γ S pc' L rest M kc ks) : gR Γ S pc L (.int z :: .int x :: rest) M kc ks := by
  subst hp
  intro H locs ls hW hl
  exact lv_icmp_gt C.1 C.2.1 hdg ht (fun h => kt h H locs ls hW hl) (fun h => kf h H locs ls hW hl)
theorem gj_goto (C : gC Γ S) {off : Int} {tgt : Nat} (hdg : decode S.cc pc = .ok (.goto off, 3)) (ht : (pc : Int) + off = (tgt : Int)) (k : gR Γ S tgt L rest M kc ks) : gR Γ S pc L rest M kc ks := by
  intro H locs ls hW hl
  exact lv_goto C.1 C.2.1 hdg ht (k H locs ls hW hl)
theorem gj_tsOut (C : gC Γ S) {dflt lo hi : Int} {offs : Array Int} {len : Nat} {x : Int32} {tgt : Nat} (hdg : decode S.cc pc = .ok (.tableswitch dflt lo hi offs, len)) (h : x.toInt < lo ∨ hi < x.toInt) (ht : (pc : Int) + dflt = (tgt : Int)) (k : gR Γ S tgt L rest M kc ks) : gR Γ S pc L (.int x :: rest) M kc ks := by
  intro H locs ls hW hl
  exact lv_tableOut C.1 C.2.1 hdg h ht (k H locs ls hW hl)
theorem gj_tsIn (C : gC Γ S) {dflt lo hi : Int} {offs : Array Int} {len : Nat} {x v : Int32} {off : Int} {tgt : Nat} (hdg : decode S.cc pc = .ok (.tableswitch dflt lo hi offs, len)) (hx : x = v) (h1 : ¬ v.toInt < lo) (h2 : ¬ hi < v.toInt) (ho : offs[(v.toInt - lo).toNat]? = some off) (ht : (pc : Int) + off = (tgt : Int)) (k : gR Γ S tgt L rest M kc ks) : gR Γ S pc L (.int x :: rest) M kc ks := by
  subst hx
  intro H locs ls hW hl
  exact lv_tableIn C.1 C.2.1 hdg h1 h2 ho ht (k H locs ls hW hl)
theorem gj_getR (C : gC Γ S) {idx i ci k0 j : Nat} {fl : List Nat} (hdg : decode S.cc pc = .ok (.getfield idx, 3)) (hp : pc + 3 = pc') (hf : zfld S.own idx ci k0) (hsh : zSH[i]? = some (ci + 10, fl)) (hk : fl[k0]? = some (j + 2)) (k : gR Γ S pc' L (.ref (zad Γ j) :: rest) M kc ks) : gR Γ S pc L (.ref (zad Γ i) :: rest) M kc ks := by
  subst hp
  intro H locs ls hW hl
  obtain ⟨C0, T, N, h1, h2, h3, h4⟩ := hf
  exact va_get C.1 C.2.1 C.2.2.2.2.1 h2 C.2.2.2.1 C.2.2.2.2.2.1 hW.1 i (zws_at hsh) h1 k0 h3 (C.2.2.2.2.1 _ h4) (fun _ h => h) (by rw [zfs_get, hk]; rfl) hdg (k H locs ls hW hl)
theorem gj_lald (C : gC Γ S) {i n : Nat} {j : Int32} (hdg : decode S.cc pc = .ok (.laload, 1)) (hp : pc + 1 = pc') (hsh : zSH[i]? = some (1, [n])) (hin : vp_in j n) (k : gR Γ S pc' L (.long (M.2 i j.toNatClampNeg) :: rest) M kc ks) : gR Γ S pc L (.int j :: .ref (zad Γ i) :: rest) M kc ks := by
  subst hp
  intro H locs ls hW hl
  exact va_lald C.1 C.2.1 C.2.2.2.2.2.1 hW.1 i 1 (zws_at hsh) rfl hin hdg (k H locs ls hW hl)
theorem gj_last (C : gC Γ S) {i n : Nat} {j : Int32} {x : Int64} (hdg : decode S.cc pc = .ok (.lastore, 1)) (hp : pc + 1 = pc') (hsh : zSH[i]? = some (1, [n])) (hin : vp_in j n) (k : gR Γ S pc' L rest (zul M i (vp_updL (M.2 i) j.toNatClampNeg x)) kc ks) : gR Γ S pc L (.long x :: .int j :: .ref (zad Γ i) :: rest) M kc ks := by
  subst hp
  intro H locs ls hW hl
  refine va_last C.1 C.2.1 C.2.2.2.2.2.1 hW.1 hW.2.1 hW.2.2 i 1 (zws_at hsh) rfl hin hdg (fun H1 locs1 hP hD hS => ?_)
  have e2 : (zws Γ M).set i (zad Γ i, .inl (Γ.2.2.1 1, n, .inr (.inl (vp_updL (M.2 i) j.toNatClampNeg x)))) = zws Γ (zul M i (vp_updL (M.2 i) j.toNatClampNeg x)) := zws_set hsh (by simp [zent, zul]) (fun q hq => by simp [zul]) (fun q hq => by simp [zul, hq])
  have hP : va_P Γ.2.2.2.1 zCL ((zws Γ M).set i (zad Γ i, .inl (Γ.2.2.1 1, n, .inr (.inl (vp_updL (M.2 i) j.toNatClampNeg x))))) H1 := hP
  rw [e2] at hP
  exact k H1 locs1 ls ⟨hP, gD_any hW.2.1, hS⟩ hl
theorem gkeep {H : Heap} {locs : List Loc} (C : gC Γ S) (h : gW Γ S H locs M) {U : State} (hU : U.heap = H) : ∀ a : Nat, a < S.s.heap.size → ¬ zA Γ a → U.heap[a]? = S.s.heap[a]? := fun a h1 h2 => by
  rw [hU]
  exact h.2.2.2.1 a h1 (fun z => h2 (C.2.2.2.2.2.2.2.2.2 a h1 z))
theorem gIn {H : Heap} {locs : List Loc} (C : gC Γ S) (h : gW Γ S H locs M) {U : State} (hU : U.heap = H) (hW : S.s.WarmedH U.vm) : zIn Γ M U :=
  ⟨by rw [hU]; exact h.1, gD_z h.2.1, va_K.moved hW.alike C.2.2.2.2.2.1, zEx_keep C.2.2.2.2.2.2.1 (gkeep C h hU) hW⟩
/-- back from a callee that wrote in the world alone -/
theorem gBack {H : Heap} {locs L1 : List Loc} {N : zM} {st₀ t T' : State} (C : gC Γ S) (h : gW Γ S H locs M) (h0 : st₀.heap = H) (e1 : T'.heap = t.heap) (hP : va_P Γ.2.2.2.1 zCL (zws Γ N) t.heap) (hF : va_F (zA Γ) st₀ t) (hL : ∀ q ∈ L1, zA Γ q.base) : gW Γ S T'.heap (locs ++ L1) N := by
  obtain ⟨hz, hk⟩ := hF
  rw [h0] at hz hk
  obtain ⟨hP0, hD0, hS0⟩ := h
  refine ⟨by rw [e1]; exact hP, gD_any hD0, Nat.le_trans hS0.1 (by rw [e1]; exact hz), fun q h1 h2 => ?_, fun q hq => ?_⟩
  · rw [e1, hk q (Nat.lt_of_lt_of_le h1 hS0.1) (fun z => h2 (C.2.2.2.2.2.2.2.2.1 q z))]
    exact hS0.2.1 q h1 h2
  · rcases List.mem_append.mp hq with h | h
    · exact hS0.2.2 q h
    · exact C.2.2.2.2.2.2.2.2.1 _ (hL q h)
theorem gj_V {d' idx n i ci : Nat} {fl : List Nat} {Q' : Option Value → zM → Prop} (C : gC Γ S)
    (hdg : decode S.cc pc = .ok (.invokevirtual idx, 3)) (hp : pc + 3 = pc') (hlk : Cond.methodLink S.own idx z.1 ∈ zWS) (hz : zlkV z n) (hsh : zSH[i]? = some (ci + 10, fl)) (hcl : ∃ T N, zCL[ci]? = some (z.1.cls, T, N)) (hst : st = As.reverse ++ .ref (zad Γ i) :: rest) (hn : As.length = n) (hcat : (rest.map fun v => v.category).sum ≤ 8) (hd : d' + 1 ≤ S.R.frames) (hd2 : 64 + 64 * d' ≤ S.R.locals) (hr : kc ≤ S.R.cells ∧ ks ≤ S.R.slots)
    (hK : zK Γ d' z (.ref (zad Γ i) :: As) M Q') (k : ∀ v N, Q' v N → gR Γ S pc' L (v.toList ++ rest) N kc ks) : gR Γ S pc L st M kc ks := by
  subst hp
  obtain ⟨⟨w1, w2, w3, w4, w5, w6⟩, w7, w8⟩ := hz
  obtain ⟨T, N, hcl⟩ := hcl
  intro H locs ls hW hl
  obtain ⟨hx, hb, hml, hown, hts, hK1, hE⟩ := id C
  have hr : va_Run S.p Γ.1 S.e S.R S.s S.m S.args S.below S.meth S.c H locs kc ks 0 0 (F0 S.m pc ls st) rest (zQ Γ Q' (Value.ref (zad Γ i) :: As).toArray) (zA Γ) :=
    va_runV (As := As) (rest := rest) (C := z.1.cls) (n := n) (cc := S.cc) (nL := S.nL) (Ts := zWS) (own := S.own) ⟨hx, hb, hml, hown, hts⟩ hK
      ⟨callB_of n hts (zwsM_good w2) rfl rfl rfl (hts _ w1) (hts _ hlk) ⟨w3, w4, w5⟩ ⟨hd, by show 8 + (z.2.2.1 + 11) + 64 * d' ≤ S.R.locals; omega⟩, hts _ w7, hts _ w8⟩
      ⟨zIn_blind, va_recv hK1 hW.1 (ci := ci) (q0 := i) hcl (zws_at hsh), fun U hU hWm => ⟨rfl, gIn C hW hU hWm⟩⟩ rfl hn hl.1 hst (lv_room hcat) hdg hr
  intro T0 hT X
  obtain ⟨v, st₀, t, T', L1, h0, X', hL, e1, e2, ⟨⟨v', N, hv, hq, hP⟩, hF⟩, hst⟩ := hr T0 hT X
  cases hv
  obtain ⟨t2, a1, b1⟩ := k v N hq T'.heap (locs ++ L1) ls (gBack C hW h0 e1 hP hF hL) hl T' rfl X'
  exact ⟨t2, hst t2 a1, b1⟩
/-- the contract of a method that throws, whatever it is, and leaves the memory as it was -/
def xIn (Γ : zG) (M : zM) (U : State) : Prop := zIn Γ M U ∧ xE Γ U
def xNS : String := "java/util/NoSuchElementException"
def xrm (d : Nat) : Room := { frames := d, cells := 1, slots := 6, locals := 64 * d }
def xXC (Γ : zG) (M : zM) : String → State → State → Prop := fun E st t => E = xNS ∧ va_P Γ.2.2.2.1 zCL (zws Γ M) t.heap ∧ va_F (zA Γ) st t
def xK (Γ : zG) (d : Nat) (y : zY) (av : List Value) (M : zM) : Prop :=
  vx_Met Γ.1 y.1 (zwsM y) (xrm d) (va_Pc av (xIn Γ M)) (fun _ _ _ _ => False) (xXC Γ M) 1 6 (zA Γ)
theorem xIn_blind {av : List Value} : FrameBlind (va_Pc av (xIn Γ M)) := fun a U g mk q => by
  obtain ⟨q0, ⟨qP, qD, qK, qE⟩, qX⟩ := q
  exact ⟨q0, ⟨qP, qD, va_K.moved (u := U) (U := U.calling g mk a) (Vm.Alike.refl U.vm) qK, zEx_call qE⟩, xE_call qX⟩
theorem gxIn {H : Heap} {locs : List Loc} (C : gC Γ S) (h : gW Γ S H locs M) {U : State} (hU : U.heap = H) (hW : S.s.WarmedH U.vm) : xIn Γ M U :=
  ⟨gIn C h hU hW, xE_keep C.2.2.2.2.2.2.2.1 (gkeep C h hU) hW⟩
/-- a call that throws, caught by the only row of this method's table -/
theorem gj_VX {d' idx n i ci a0 b0 h0 ct : Nat} {fl : List Nat} (C : gC Γ S)
    (hdg : decode S.cc pc = .ok (.invokevirtual idx, 3)) (hlk : Cond.methodLink S.own idx z.1 ∈ zWS) (hz : zlkV z n) (hsh : zSH[i]? = some (ci + 10, fl)) (hcl : ∃ T N, zCL[ci]? = some (z.1.cls, T, N)) (hst : st = As.reverse ++ .ref (zad Γ i) :: rest) (hn : As.length = n) (hcat : (rest.map fun v => v.category).sum ≤ 8) (hd : d' + 1 ≤ S.R.frames) (hd2 : 64 + 64 * d' ≤ S.R.locals) (hr : kc + 1 ≤ S.R.cells ∧ ks + 6 ≤ S.R.slots)
    (htab : S.c.exceptionTable.toList = tableOf [(a0, b0, h0, ct)]) (ha : a0 ≤ pc) (hb0 : pc < b0) (hct : ct ≠ 0) (hcl2 : Cond.classLink S.own ct xNS ∈ zWS)
    (hK : xK Γ d' z (.ref (zad Γ i) :: As) M) (k : ∀ q, gR Γ S h0 L [.ref q] M (kc + 1) (ks + 6)) : gR Γ S pc L st M kc ks := by
  obtain ⟨⟨w1, w2, w3, w4, w5, w6⟩, w7, w8⟩ := hz
  obtain ⟨T, N, hcl⟩ := hcl
  intro H locs ls hW hl
  obtain ⟨hx, hb, hml, hown, hts, hK1, hE⟩ := id C
  have hr : vx_Run S.p Γ.1 S.e S.R S.s S.m S.args S.below S.meth S.c H locs kc ks 1 6 (F0 S.m pc ls st) rest (fun _ _ _ => False) (xXC Γ M) (zA Γ) :=
    vx_runV (As := As) (rest := rest) (C := z.1.cls) (n := n) (cc := S.cc) (nL := S.nL) (Ts := zWS) (own := S.own) ⟨hx, hb, hml, hown, hts⟩ hK
      ⟨callB_of n hts (zwsM_good w2) rfl rfl rfl (hts _ w1) (hts _ hlk) ⟨w3, w4, w5⟩ ⟨hd, by show 8 + (z.2.2.1 + 11) + 64 * d' ≤ S.R.locals; omega⟩, hts _ w7, hts _ w8⟩
      ⟨xIn_blind, va_recv hK1 hW.1 (ci := ci) (q0 := i) hcl (zws_at hsh), fun U hU hWm => ⟨rfl, gxIn C hW hU hWm⟩⟩ rfl hn hl.1 hst (lv_room hcat) hdg hr
  intro T0 hT X
  rcases hr T0 hT X with ⟨v, st₀, t, T', L1, h1, X', hL, e1, e2, hF, hst⟩ | ⟨q, st₀, t, T', L1, E, ce, h1, X', hL, e1, e2, ⟨hEe, hP, hF⟩, hce, hcv, hcf, hst⟩
  · exact hF.elim
  · subst hEe
    have hW' := gBack C hW h1 e1 hP hF hL
    have hk := k q T'.heap (locs ++ L1) ls hW' hl
    have hc2 : vx_W S.p Γ.1 S.e S.R S.s S.m S.args S.below S.meth S.c T'.heap (locs ++ L1) (kc + 1) (ks + 6) S.Z (F0 S.m pc ls rest) q := by
      refine vx_catch (own := S.own) (name := xNS) (E := xNS) (ce := ce) hown [] _ [] htab (fun _ h => by cases h) ?_ hct (hts _ hcl2) (C.2.2.2.2.2.2.2.1.2.2.2.use rfl) (by rw [e1]; exact hce) hcv hcf hk
      simp [covers]; omega
    obtain ⟨t2, a1, b1⟩ := hc2 T' rfl X'
    exact ⟨t2, hst.trans a1, b1⟩
end GJ
