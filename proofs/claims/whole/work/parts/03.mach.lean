/-! the light judgement: a method's run over the fixed world of the claim's objects; a memory is a row of ints and a row of longs for each cell -/
abbrev zG : Type := Launch × (Nat → Nat) × (Nat → ClassId) × va_G × (Nat → Nat) × (Nat → Nat)
abbrev zM : Type := (Nat → Nat → Int32) × (Nat → Nat → Int64)
abbrev zY : Type := MethodName × ByteArray × Nat × Option FieldType
def zad (Γ : zG) : Nat → Nat := Γ.2.1
def zfv (Γ : zG) (M : zM) (i j c : Nat) : Value := match c with
  | 0 => .int (M.1 i j)
  | 1 => .long (M.2 i j)
  | k + 2 => .ref (zad Γ k)
def zfs (Γ : zG) (M : zM) (i : Nat) (l : List Nat) : List Value := l.zipIdx.map (fun q => zfv Γ M i q.2 q.1)
def zent (Γ : zG) (M : zM) (i : Nat) (x : Nat × List Nat) : va_E := match x.1 with
  | 0 => .inl (Γ.2.2.1 0, x.2.headD 0, .inl (M.1 i))
  | 1 => .inl (Γ.2.2.1 1, x.2.headD 0, .inr (.inl (M.2 i)))
  | 2 => .inl (Γ.2.2.1 2, x.2.headD 0, .inl (M.1 i))
  | 3 => .inl (Γ.2.2.1 3, x.2.headD 0, .inl (M.1 i))
  | 4 => .inl (Γ.2.2.1 4, x.2.length, .inr (.inr (.inr (.inr (fun j => (x.2[j]?).map (zad Γ))))))
  | 5 => .inl (Γ.2.2.1 5, x.2.length, .inr (.inr (.inr (.inr (fun j => (x.2[j]?).map (zad Γ))))))
  | k + 6 => .inr (k - 4, zfs Γ M i x.2)
def zws (Γ : zG) (M : zM) : va_W := zSH.zipIdx.map (fun q => (zad Γ q.2, zent Γ M q.2 q.1))
def ztys (Γ : zG) : List (ClassId × FieldType) := [(Γ.2.2.1 0, .int), (Γ.2.2.1 1, .long), (Γ.2.2.1 2, .byte), (Γ.2.2.1 3, .boolean), (Γ.2.2.1 4, .object "ProperFollow$Day"), (Γ.2.2.1 5, .object "ProperFollow$Kept")]
def zA (Γ : zG) : Nat → Prop := fun q => ∃ i, i < zSH.length ∧ q = zad Γ i
def zST : List (String × String × String) := [("jdk/internal/util/Preconditions", "SIOOBE_FORMATTER", "Ljava/util/function/BiFunction;"), ("java/lang/Throwable", "UNASSIGNED_STACK", "[Ljava/lang/StackTraceElement;"), ("java/lang/Throwable", "SUPPRESSED_SENTINEL", "Ljava/util/List;")]
def zEx (Γ : zG) (s : State) : Prop := (∀ q ∈ zNW, va_Nw (.methodLinkNest q.1 q.2.1 q.2.2.1 q.2.2.2) s) ∧ vk_S 7 zSL zSB Γ.2.2.2.2.1 Γ.2.2.2.2.2 (zA Γ) s s.heap ∧ (∀ q ∈ zSC, vk_R q.1 q.2.1 q.2.2.1 (Γ.2.2.2.2.1 q.2.2.2) s) ∧ va_Z "java/lang/String" "COMPACT_STRINGS" "Z" (.int 1) (zA Γ) s s.heap ∧ ∀ q ∈ zST, va_Zq q.1 q.2.1 q.2.2 (zA Γ) s s.heap
/-- what holds of a frame that runs the method y -/
def zC (Γ : zG) (y : zY) (p : Program) (s : State) (m : MethodId) (args : Array Value) (meth : Method) (c : Code) : Prop :=
  p.tables.exec = Jvm.exec ∧ c.code = y.2.1 ∧ c.maxLocals = y.2.2.1 ∧ meth.sig.returnType = y.2.2.2 ∧ meth.locks = false ∧ s.vm.findClass y.1.cls = some m.cls ∧ (∀ w ∈ zWS, w.before args s = true) ∧ va_K Γ.2.2.2.1 zCL (ztys Γ) s ∧ zEx Γ s
def zW (Γ : zG) (s : State) (H : Heap) (locs : List Loc) (M : zM) : Prop := va_P Γ.2.2.2.1 zCL (zws Γ M) H ∧ va_D (zA Γ) (zws Γ M) ∧ va_S (zA Γ) s.heap H locs
def zrm (d : Nat) : Room := { frames := d, cells := 0, slots := 0, locals := 64 * d }
def zQ (Γ : zG) (Q : Option Value → zM → Prop) : Array Value → State → Outcome → State → Prop := fun _ st o t => (∃ (v : Option Value) (M' : zM), o = .returned v ∧ Q v M' ∧ va_P Γ.2.2.2.1 zCL (zws Γ M') t.heap) ∧ va_F (zA Γ) st t
def zR (Γ : zG) (d : Nat) (y : zY) (pc : Nat) (L : List (Nat × Value)) (st : List Value) (M : zM) (Q : Option Value → zM → Prop) : Prop :=
  ∀ (p : Program) (e : Env) (s : State) (m : MethodId) (args : Array Value) (below : List Frame) (meth : Method) (c : Code) (H : Heap) (locs : List Loc) (ls : Array Slot),
    zC Γ y p s m args meth c → zW Γ s H locs M → lv_has ls y.2.2.1 L → W p Γ.1 e (zrm d) s m args below meth c H locs 0 0 (MQ below (zQ Γ Q) args s 0 0 (zA Γ)) (F0 m pc ls st)
def zIn (Γ : zG) (M : zM) (U : State) : Prop := va_P Γ.2.2.2.1 zCL (zws Γ M) U.heap ∧ va_D (zA Γ) (zws Γ M) ∧ va_K Γ.2.2.2.1 zCL (ztys Γ) U ∧ zEx Γ U
def zwsM (y : zY) : List Cond := .code y.1 y.2.1 y.2.2.1 y.2.2.2 :: zWS
/-- a method's contract: from the memory M, with the arguments av, it returns, and Q of its answer and its memory -/
def zK (Γ : zG) (d : Nat) (y : zY) (av : List Value) (M : zM) (Q : Option Value → zM → Prop) : Prop :=
  Met Γ.1 y.1 (zwsM y) (zrm d) (va_Pc av (zIn Γ M)) (zQ Γ Q) 0 0 (zA Γ)
/-! ## the world's cells -/
theorem zws_len (Γ : zG) (M : zM) : (zws Γ M).length = zSH.length := by simp [zws]
theorem zws_at {Γ : zG} {M : zM} {i : Nat} {x : Nat × List Nat} (h : zSH[i]? = some x) : (zws Γ M)[i]? = some (zad Γ i, zent Γ M i x) := by
  simp [zws, h]
theorem zws_get {Γ : zG} {M : zM} (i : Nat) : (zws Γ M)[i]? = (zSH[i]?).map (fun x => (zad Γ i, zent Γ M i x)) := by
  simp [zws]; rfl
theorem zfs_get {Γ : zG} {M : zM} {i : Nat} {l : List Nat} (j : Nat) : (zfs Γ M i l)[j]? = (l[j]?).map (fun c => zfv Γ M i j c) := by
  simp [zfs]; rfl
theorem zent_same {Γ : zG} {M N : zM} {i : Nat} {x : Nat × List Nat} (h1 : N.1 i = M.1 i) (h2 : N.2 i = M.2 i) : zent Γ N i x = zent Γ M i x := by
  have hf : ∀ l, zfs Γ N i l = zfs Γ M i l := fun l => by
    unfold zfs
    refine congrArg (fun f => List.map f _) (funext fun q => ?_)
    obtain ⟨c, j⟩ := q
    match c with
    | 0 => simp only [zfv, h1]
    | 1 => simp only [zfv, h2]
    | k + 2 => rfl
  unfold zent
  split <;> simp only [h1, h2, hf]
theorem zws_set {Γ : zG} {M N : zM} {i : Nat} {x : Nat × List Nat} {e : va_E} (hx : zSH[i]? = some x) (he : e = zent Γ N i x) (h1 : ∀ j, j ≠ i → N.1 j = M.1 j) (h2 : ∀ j, j ≠ i → N.2 j = M.2 j) : (zws Γ M).set i (zad Γ i, e) = zws Γ N := by
  subst he
  apply List.ext_getElem?
  intro j
  rw [List.getElem?_set]
  split
  · next hij =>
    subst hij
    have hl : i < (zws Γ M).length := by rw [zws_len]; exact (List.getElem?_eq_some_iff.mp hx).1
    rw [if_pos hl, zws_at hx]
  · next hij =>
    rw [zws_get, zws_get]
    cases zSH[j]? with
    | none => rfl
    | some y => simp only [Option.map_some]; rw [zent_same (h1 j (Ne.symm hij)) (h2 j (Ne.symm hij))]
theorem zD_any {Γ : zG} {M N : zM} (h : va_D (zA Γ) (zws Γ M)) : va_D (zA Γ) (zws Γ N) := by
  refine ⟨fun i j p q hp hq e => ?_, fun k q hq => ?_⟩
  · rw [zws_get] at hp hq
    cases hi : zSH[i]? with
    | none => rw [hi] at hp; cases hp
    | some x =>
      cases hj : zSH[j]? with
      | none => rw [hj] at hq; cases hq
      | some y =>
        rw [hi] at hp; rw [hj] at hq
        cases hp; cases hq
        exact h.1 i j _ _ (zws_at hi) (zws_at hj) e
  · rw [zws_get] at hq
    cases hi : zSH[k]? with
    | none => rw [hi] at hq; cases hq
    | some x =>
      rw [hi] at hq
      cases hq
      exact ⟨k, (List.getElem?_eq_some_iff.mp hi).1, rfl⟩
/-! ## memories -/
def zui (M : zM) (i : Nat) (f : Nat → Int32) : zM := (fun j => if j = i then f else M.1 j, M.2)
def zul (M : zM) (i : Nat) (f : Nat → Int64) : zM := (M.1, fun j => if j = i then f else M.2 j)
theorem zui_s {M : zM} {i : Nat} {f : Nat → Int32} : (zui M i f).1 i = f := by simp [zui]
theorem zui_n {M : zM} {i j : Nat} {f : Nat → Int32} (h : j ≠ i) : (zui M i f).1 j = M.1 j := by simp [zui, h]
theorem zul_s {M : zM} {i : Nat} {f : Nat → Int64} : (zul M i f).2 i = f := by simp [zul]
theorem zul_n {M : zM} {i j : Nat} {f : Nat → Int64} (h : j ≠ i) : (zul M i f).2 j = M.2 j := by simp [zul, h]
/-! ## what stays behind a call -/
theorem zEx_to {Γ : zG} {s U : State} {locs : List Loc} (h : zEx Γ s) (hS : va_S (zA Γ) s.heap U.heap locs) (hW : s.WarmedH U.vm) : zEx Γ U :=
  ⟨fun q hq => (h.1 q hq).warmM hW, (h.2.1.moved hW.alike).kept (fun a h1 h2 => hS.2.1 a h1 h2), fun q hq => (h.2.2.1 q hq).warm hW, (h.2.2.2.1.moved hW.alike).kept (fun a h1 h2 => hS.2.1 a h1 h2), fun q hq => ((h.2.2.2.2 q hq).moved hW.alike).kept (fun a h1 h2 => hS.2.1 a h1 h2)⟩
theorem zEx_call {Γ : zG} {U : State} {g : JFrame} {mk : MethodId} {a : Array Value} (h : zEx Γ U) : zEx Γ (U.calling g mk a) :=
  ⟨fun q hq => va_Nw.same rfl (u := U) (U := U.calling g mk a) rfl (h.1 q hq), vk_S.moved (u := U) (U := U.calling g mk a) (Vm.Alike.refl U.vm) h.2.1, fun q hq => vk_R.same (u := U) (U := U.calling g mk a) rfl (h.2.2.1 q hq), va_Z.moved (u := U) (U := U.calling g mk a) (Vm.Alike.refl U.vm) h.2.2.2.1, fun q hq => va_Zq.moved (u := U) (U := U.calling g mk a) (Vm.Alike.refl U.vm) (h.2.2.2.2 q hq)⟩
theorem zIn_blind {Γ : zG} {av : List Value} {M : zM} : FrameBlind (va_Pc av (zIn Γ M)) := fun a U g mk q => by
  obtain ⟨q0, qP, qD, qK, qE⟩ := q
  exact ⟨q0, qP, qD, va_K.moved (u := U) (U := U.calling g mk a) (Vm.Alike.refl U.vm) qK, zEx_call qE⟩
theorem zIn_of {Γ : zG} {y : zY} {p : Program} {s U : State} {m : MethodId} {args : Array Value} {meth : Method} {c : Code} {H : Heap} {locs : List Loc} {M : zM} (C : zC Γ y p s m args meth c) (h : zW Γ s H locs M) (hU : U.heap = H) (hW : s.WarmedH U.vm) : zIn Γ M U :=
  ⟨by rw [hU]; exact h.1, h.2.1, va_K.moved hW.alike C.2.2.2.2.2.2.2.1, zEx_to (locs := locs) C.2.2.2.2.2.2.2.2 (by rw [hU]; exact h.2.2) hW⟩
/-! ## a contract out of a run -/
theorem zK_of {Γ : zG} {d : Nat} {y : zY} {av : List Value} {M : zM} {Q : Option Value → zM → Prop} (hy : plainName y.1.cls = true) (hl : (lg_sl av).length ≤ y.2.2.1) (h : zR Γ d y 0 (lv_args 0 av) [] M Q) : zK Γ d y av M Q := by
  refine Met.ofW (cc := y.2.1) (maxL := y.2.2.1) (ret := y.2.2.2) hy rfl ?_
  intro p e s m args below meth c s₁ B hml hv
  obtain ⟨rfl, hP, hD, hK, hE⟩ := hv
  have hts := atoms_spec (ws := zwsM y) B.pre
  rw [lg_entry_eq]
  exact h p e s m _ below meth c s.heap [] _ ⟨B.exec, B.bytes, hml, B.returns, B.notSynchronized, findClass_of_methodNamed B.named, fun w hw => hts w (List.mem_cons_of_mem _ hw), hK, hE⟩ ⟨hP, hD, va_S.rf⟩ (lv_entry av hl)
theorem zK_mono {Γ : zG} {d : Nat} {y : zY} {av : List Value} {M : zM} {Q Q' : Option Value → zM → Prop} (h : zK Γ d y av M Q) (hq : ∀ v N, Q v N → Q' v N) : zK Γ d y av M Q' := by
  intro p e ha hc hk s m args below hf happ hP hT
  obtain ⟨t, o, h1, h2, h3, ⟨⟨⟨v, N, e1, e2, e3⟩, hF⟩, hL⟩⟩ := h p e ha hc hk s m args below hf happ hP hT
  exact ⟨t, o, h1, h2, h3, ⟨⟨⟨v, N, e1, hq v N e2, e3⟩, hF⟩, hL⟩⟩
/-! ## calls -/
theorem zR_run {Γ : zG} {d : Nat} {y : zY} {pc : Nat} {L : List (Nat × Value)} {st rest : List Value} {M : zM} {Q Q' : Option Value → zM → Prop} {av : List Value}
    (hr : ∀ (p : Program) (e : Env) (s : State) (m : MethodId) (args : Array Value) (below : List Frame) (meth : Method) (c : Code) (H : Heap) (locs : List Loc) (ls : Array Slot), zC Γ y p s m args meth c → zW Γ s H locs M → lv_has ls y.2.2.1 L → va_Run p Γ.1 e (zrm d) s m args below meth c H locs 0 0 0 0 (F0 m pc ls st) rest (zQ Γ Q' av.toArray) (zA Γ))
    (k : ∀ v N, Q' v N → zR Γ d y (pc + 3) L (v.toList ++ rest) N Q) : zR Γ d y pc L st M Q := by
  intro p e s m args below meth c H locs ls C hW hl T hT X
  obtain ⟨v, st₀, t, T', L1, h0, X', hL, e1, e2, ⟨⟨v', N, hv, hq, hP⟩, hz, hk⟩, hst⟩ := hr p e s m args below meth c H locs ls C hW hl T hT X
  cases hv
  rw [h0] at hz hk
  obtain ⟨hP0, hD0, hS0⟩ := hW
  have hW' : zW Γ s T'.heap (locs ++ L1) N := by
    refine ⟨by rw [e1]; exact hP, zD_any hD0, Nat.le_trans hS0.1 (by rw [e1]; exact hz), fun q h1 h2 => ?_, fun q hq => ?_⟩
    · rw [e1, hk q (Nat.lt_of_lt_of_le h1 hS0.1) h2]
      exact hS0.2.1 q h1 h2
    · rcases List.mem_append.mp hq with h | h
      · exact hS0.2.2 q h
      · exact hL q h
  obtain ⟨t2, a1, b1⟩ := k v N hq p e s m args below meth c T'.heap (locs ++ L1) ls C hW' hl T' rfl X'
  exact ⟨t2, hst t2 a1, b1⟩
def zlk (z : zY) (n : Nat) : Prop := Cond.initialized z.1.cls ∈ zWS ∧ Cond.code z.1 z.2.1 z.2.2.1 z.2.2.2 ∈ zWS ∧ z.1.cls ≠ "java/lang/invoke/MethodHandle" ∧ z.1.cls ≠ "java/lang/invoke/VarHandle" ∧ (parseMethodDescriptor z.1.desc).map (fun d => d.parameters.length) = some n ∧ z.2.2.1 ≤ 45
def zlkV (z : zY) (n : Nat) : Prop := zlk z n ∧ Cond.instanceMethod z.1 ∈ zWS ∧ Cond.selects z.1.cls z.1 z.1 ∈ zWS
def zlkS (z : zY) (n : Nat) : Prop := zlk z n ∧ Cond.static z.1 ∈ zWS
theorem zwsM_good {z : zY} (h : Cond.code z.1 z.2.1 z.2.2.1 z.2.2.2 ∈ zWS) : GoodIn zWS (zwsM z) := fun w hw => by
  rcases List.mem_cons.mp hw with e | hw
  · rw [e]; exact zWS_good _ h
  · exact zWS_good w hw
theorem zroom {d d' maxL : Nat} (hd : d' + 1 ≤ d) (h : maxL ≤ 45) : (zrm d').frames + 1 ≤ (zrm d).frames ∧ 8 + (maxL + 11) + (zrm d').locals ≤ (zrm d).locals := by
  refine ⟨hd, ?_⟩
  show 8 + (maxL + 11) + 64 * d' ≤ 64 * d
  omega
theorem zj_invV {Γ : zG} {d d' : Nat} {y z : zY} {pc pc' idx n i ci : Nat} {fl : List Nat} {L : List (Nat × Value)} {As rest : List Value} {st : List Value} {M : zM} {Q Q' : Option Value → zM → Prop}
    (hdg : decode y.2.1 pc = .ok (.invokevirtual idx, 3)) (hp : pc + 3 = pc') (hlk : Cond.methodLink y.1.cls idx z.1 ∈ zWS) (hz : zlkV z n) (hsh : zSH[i]? = some (ci + 10, fl)) (hcl : ∃ T N, zCL[ci]? = some (z.1.cls, T, N)) (hst : st = As.reverse ++ .ref (zad Γ i) :: rest) (hn : As.length = n) (hcat : (rest.map fun v => v.category).sum ≤ 8) (hd : d' + 1 ≤ d)
    (hK : zK Γ d' z (.ref (zad Γ i) :: As) M Q') (k : ∀ v N, Q' v N → zR Γ d y pc' L (v.toList ++ rest) N Q) : zR Γ d y pc L st M Q := by
  subst hp
  obtain ⟨⟨w1, w2, w3, w4, w5, w6⟩, w7, w8⟩ := hz
  obtain ⟨T, N, hcl⟩ := hcl
  refine zR_run (av := .ref (zad Γ i) :: As) (fun p e s m args below meth c H locs ls C hW hl => ?_) k
  obtain ⟨hx, hb, hml, hr, hlo, hown, hts, hK1, hE⟩ := id C
  exact va_runV (As := As) (rest := rest) (C := z.1.cls) (n := n) (cc := y.2.1) (nL := y.2.2.1) (Ts := zWS) (own := y.1.cls) ⟨hx, hb, hml, hown, hts⟩ hK
    ⟨callB_of n hts (zwsM_good w2) rfl rfl rfl (hts _ w1) (hts _ hlk) ⟨w3, w4, w5⟩ (zroom hd w6), hts _ w7, hts _ w8⟩
    ⟨zIn_blind, va_recv hK1 hW.1 (ci := ci) (q0 := i) hcl (zws_at hsh), fun U hU hWm => ⟨rfl, zIn_of C hW hU hWm⟩⟩ rfl hn hl.1 hst (lv_room hcat) hdg ⟨Nat.zero_le _, Nat.zero_le _⟩
theorem zj_invS {Γ : zG} {d d' : Nat} {y z : zY} {pc pc' idx n : Nat} {L : List (Nat × Value)} {As rest : List Value} {st : List Value} {M : zM} {Q Q' : Option Value → zM → Prop}
    (hdg : decode y.2.1 pc = .ok (.invokestatic idx, 3)) (hp : pc + 3 = pc') (hlk : Cond.methodLink y.1.cls idx z.1 ∈ zWS) (hz : zlkS z n) (hst : st = As.reverse ++ rest) (hn : As.length = n) (hcat : (rest.map fun v => v.category).sum ≤ 8) (hd : d' + 1 ≤ d)
    (hK : zK Γ d' z As M Q') (k : ∀ v N, Q' v N → zR Γ d y pc' L (v.toList ++ rest) N Q) : zR Γ d y pc L st M Q := by
  subst hp
  obtain ⟨⟨w1, w2, w3, w4, w5, w6⟩, w7⟩ := hz
  refine zR_run (av := As) (fun p e s m args below meth c H locs ls C hW hl => ?_) k
  obtain ⟨hx, hb, hml, hr, hlo, hown, hts, hK1, hE⟩ := id C
  exact va_runS (As := As) (rest := rest) (n := n) (cc := y.2.1) (nL := y.2.2.1) (Ts := zWS) (own := y.1.cls) ⟨hx, hb, hml, hown, hts⟩ hK
    ⟨callB_of n hts (zwsM_good w2) rfl rfl rfl (hts _ w1) (hts _ hlk) ⟨w3, w4, w5⟩ (zroom hd w6), hts _ w7⟩
    ⟨zIn_blind, fun U hU hWm => ⟨rfl, zIn_of C hW hU hWm⟩⟩ rfl hn hl.1 hst (lv_room hcat) hdg ⟨Nat.zero_le _, Nat.zero_le _⟩
theorem zj_invSN {Γ : zG} {d d' : Nat} {y z : zY} {pc pc' idx n : Nat} {host : String} {L : List (Nat × Value)} {As rest : List Value} {st : List Value} {M : zM} {Q Q' : Option Value → zM → Prop}
    (hdg : decode y.2.1 pc = .ok (.invokestatic idx, 3)) (hp : pc + 3 = pc') (hlk : (y.1.cls, idx, z.1, host) ∈ zNW) (hz : zlkS z n) (hst : st = As.reverse ++ rest) (hn : As.length = n) (hcat : (rest.map fun v => v.category).sum ≤ 8) (hd : d' + 1 ≤ d)
    (hK : zK Γ d' z As M Q') (k : ∀ v N, Q' v N → zR Γ d y pc' L (v.toList ++ rest) N Q) : zR Γ d y pc L st M Q := by
  subst hp
  obtain ⟨⟨w1, w2, w3, w4, w5, w6⟩, w7⟩ := hz
  refine zR_run (av := As) (fun p e s m args below meth c H locs ls C hW hl => ?_) k
  obtain ⟨hx, hb, hml, hr, hlo, hown, hts, hK1, hE⟩ := id C
  exact va_runSN (As := As) (rest := rest) (n := n) (cc := y.2.1) (nL := y.2.2.1) (Ts := zWS) (own := y.1.cls) (host := host) ⟨hx, hb, hml, hown, hts⟩ hK
    ⟨va_cnB n hts (zwsM_good w2) rfl rfl rfl (hE.1 _ hlk) (hts _ w1) ⟨w3, w4, w5⟩ (zroom hd w6), hts _ w7, trivial⟩
    ⟨zIn_blind, fun U hU hWm => ⟨rfl, zIn_of C hW hU hWm⟩⟩ rfl hn hl.1 hst (lv_room hcat) hdg ⟨Nat.zero_le _, Nat.zero_le _⟩
