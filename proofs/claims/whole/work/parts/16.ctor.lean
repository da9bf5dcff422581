/-! the making of the objects: a judgement over raw worlds -/
abbrev yG : Type := Launch × (Nat → ClassId) × va_G × (Nat → Nat) × (Nat → Nat)
def ytys (g : yG) : List (ClassId × FieldType) := [(g.2.1 0, .int), (g.2.1 1, .long), (g.2.1 2, .byte), (g.2.1 3, .boolean), (g.2.1 4, .object "ProperFollow$Day"), (g.2.1 5, .object "ProperFollow$Kept")]
def yE (g : yG) (A : Nat → Prop) (s : State) : Prop := (∀ q ∈ zNW, va_Nw (.methodLinkNest q.1 q.2.1 q.2.2.1 q.2.2.2) s) ∧ vk_S 7 zSL zSB g.2.2.2.1 g.2.2.2.2 A s s.heap ∧ (∀ q ∈ zSC, vk_R q.1 q.2.1 q.2.2.1 (g.2.2.2.1 q.2.2.2) s) ∧ va_Z "java/lang/String" "COMPACT_STRINGS" "Z" (.int 1) A s s.heap ∧ (∀ q ∈ zST, va_Zq q.1 q.2.1 q.2.2 A s s.heap) ∧ va_AO "ProperFollow$Day" s ∧ va_AO "ProperFollow$Kept" s
theorem yE_to {g : yG} {A B : Nat → Prop} {s U : State} {locs : List Loc} (h : yE g A s) (hS : va_S A s.heap U.heap locs) (hW : s.WarmedH U.vm) (hB : ∀ q, B q → A q) : yE g B U :=
  ⟨fun q hq => (h.1 q hq).warmM hW, ((h.2.1.moved hW.alike).kept (fun a h1 h2 => hS.2.1 a h1 h2)).narrow hB, fun q hq => (h.2.2.1 q hq).warm hW, ((h.2.2.2.1.moved hW.alike).kept (fun a h1 h2 => hS.2.1 a h1 h2)).narrow hB, fun q hq => (((h.2.2.2.2.1 q hq).moved hW.alike).kept (fun a h1 h2 => hS.2.1 a h1 h2)).narrow hB, h.2.2.2.2.2.1.moved hW.alike, h.2.2.2.2.2.2.moved hW.alike⟩
theorem yE_call {g : yG} {A : Nat → Prop} {U : State} {f : JFrame} {mk : MethodId} {a : Array Value} (h : yE g A U) : yE g A (U.calling f mk a) :=
  ⟨fun q hq => va_Nw.same rfl (u := U) (U := U.calling f mk a) rfl (h.1 q hq), vk_S.moved (u := U) (U := U.calling f mk a) (Vm.Alike.refl U.vm) h.2.1, fun q hq => vk_R.same (u := U) (U := U.calling f mk a) rfl (h.2.2.1 q hq), va_Z.moved (u := U) (U := U.calling f mk a) (Vm.Alike.refl U.vm) h.2.2.2.1, fun q hq => va_Zq.moved (u := U) (U := U.calling f mk a) (Vm.Alike.refl U.vm) (h.2.2.2.2.1 q hq), va_AO.moved (u := U) (U := U.calling f mk a) (Vm.Alike.refl U.vm) h.2.2.2.2.2.1, va_AO.moved (u := U) (U := U.calling f mk a) (Vm.Alike.refl U.vm) h.2.2.2.2.2.2⟩
def yC (g : yG) (y : zY) (A : Nat → Prop) (p : Program) (s : State) (m : MethodId) (args : Array Value) (meth : Method) (c : Code) : Prop :=
  p.tables.exec = Jvm.exec ∧ c.code = y.2.1 ∧ c.maxLocals = y.2.2.1 ∧ meth.sig.returnType = y.2.2.2 ∧ meth.locks = false ∧ s.vm.findClass y.1.cls = some m.cls ∧ (∀ w ∈ zWS, w.before args s = true) ∧ va_K g.2.2.1 zCL (ytys g) s ∧ yE g A s ∧ (∀ q, s.heap.size ≤ q → A q) ∧ meth.name = y.1.name
def yW (g : yG) (A : Nat → Prop) (s : State) (H : Heap) (locs : List Loc) (ws : va_W) : Prop := va_P g.2.2.1 zCL ws H ∧ va_D A ws ∧ va_S A s.heap H locs
def yQ (g : yG) (A : Nat → Prop) (Q : Option Value → va_W → Prop) : Array Value → State → Outcome → State → Prop := fun _ st o t => (∃ (v : Option Value) (ws : va_W), o = .returned v ∧ Q v ws ∧ va_P g.2.2.1 zCL ws t.heap ∧ va_D A ws) ∧ va_F A st t
def yrm (d mc ms : Nat) : Room := { frames := d, cells := mc, slots := ms, locals := 64 * d }
/-- d frames, mc cells of ms slots at most; kc, ks of them are made -/
def yR (g : yG) (A : Nat → Prop) (d mc ms : Nat) (y : zY) (pc : Nat) (L : List (Nat × Value)) (st : List Value) (ws : va_W) (kc ks : Nat) (Q : Option Value → va_W → Prop) : Prop :=
  ∀ (p : Program) (e : Env) (s : State) (m : MethodId) (args : Array Value) (below : List Frame) (meth : Method) (c : Code) (H : Heap) (locs : List Loc) (ls : Array Slot),
    yC g y A p s m args meth c → yW g A s H locs ws → lv_has ls y.2.2.1 L → W p g.1 e (yrm d mc ms) s m args below meth c H locs kc ks (MQ below (yQ g A Q) args s mc ms A) (F0 m pc ls st)
def yIn (g : yG) (ws : va_W) (sz : Nat) (U : State) : Prop := U.heap.size = sz ∧ va_P g.2.2.1 zCL ws U.heap ∧ va_D (fun _ => True) ws ∧ va_K g.2.2.1 zCL (ytys g) U ∧ yE g (va_A ws sz) U
def yK (g : yG) (d mc ms : Nat) (y : zY) (av : List Value) (ws : va_W) (Q : Option Value → va_W → Prop) : Prop :=
  ∀ sz : Nat, Met g.1 y.1 (zwsM y) (yrm d mc ms) (va_Pc av (yIn g ws sz)) (yQ g (va_A ws sz) Q) mc ms (va_A ws sz)
theorem yK_of {g : yG} {d mc ms : Nat} {y : zY} {av : List Value} {ws : va_W} {Q : Option Value → va_W → Prop} (hy : plainName y.1.cls = true) (hl : (lg_sl av).length ≤ y.2.2.1) (h : ∀ A : Nat → Prop, yR g A d mc ms y 0 (lv_args 0 av) [] ws 0 0 Q) : yK g d mc ms y av ws Q := by
  intro sz
  refine Met.ofW (cc := y.2.1) (maxL := y.2.2.1) (ret := y.2.2.2) hy rfl ?_
  intro p e s m args below meth c s₁ B hml hv
  obtain ⟨rfl, hsz, hP, hD, hK, hE⟩ := hv
  have hts := atoms_spec (ws := zwsM y) B.pre
  subst hsz
  rw [lg_entry_eq]
  exact h _ p e s m _ below meth c s.heap [] _ ⟨B.exec, B.bytes, hml, B.returns, B.notSynchronized, findClass_of_methodNamed B.named, fun w hw => hts w (List.mem_cons_of_mem _ hw), hK, hE, fun q hq => Or.inr hq, (name_of_methodNamed B.named B.method).1⟩ ⟨hP, hD.self, va_S.rf⟩ (lv_entry av hl)
theorem yIn_blind {g : yG} {av : List Value} {ws : va_W} {sz : Nat} : FrameBlind (va_Pc av (yIn g ws sz)) := fun a U f mk q => by
  obtain ⟨q0, qs, qP, qD, qK, qE⟩ := q
  exact ⟨q0, qs, qP, qD, va_K.moved (u := U) (U := U.calling f mk a) (Vm.Alike.refl U.vm) qK, yE_call qE⟩
section YR
variable {g : yG} {A : Nat → Prop} {d d' mc ms mc' ms' kc ks : Nat} {y z : zY} {pc pc' : Nat} {L L' : List (Nat × Value)} {rest st As : List Value} {ws wc wr ws' : va_W} {Q Q' : Option Value → va_W → Prop}
theorem yroom (hd : d' + 1 ≤ d) {maxL : Nat} (h : maxL ≤ 45) : (yrm d' mc' ms').frames + 1 ≤ (yrm d mc ms).frames ∧ 8 + (maxL + 11) + (yrm d' mc' ms').locals ≤ (yrm d mc ms).locals := by
  refine ⟨hd, ?_⟩
  show 8 + (maxL + 11) + 64 * d' ≤ 64 * d
  omega
theorem ny_run {av : List Value} (isC isR : List Nat) (hC : isC.map (fun i => ws[i]?) = wc.map some) (hnC : va_nd isC = true) (hR : isR.map (fun i => ws[i]?) = wr.map some) (hnd : va_nd isR = true) (hdis : ∀ i ∈ isR, i ∉ isC)
    (hr : ∀ (p : Program) (e : Env) (s : State) (m : MethodId) (args : Array Value) (below : List Frame) (meth : Method) (c : Code) (H : Heap) (locs : List Loc) (ls : Array Slot), yC g y A p s m args meth c → yW g A s H locs ws → lv_has ls y.2.2.1 L → (∀ U : State, U.heap = H → s.WarmedH U.vm → yIn g wc H.size U) → va_Run p g.1 e (yrm d mc ms) s m args below meth c H locs kc ks mc' ms' (F0 m pc ls st) rest (yQ g (va_A wc H.size) Q' av.toArray) (va_A wc H.size))
    (k : ∀ v w1, Q' v w1 → yR g A d mc ms y (pc + 3) L (v.toList ++ rest) (wr ++ w1) (kc + mc') (ks + ms') Q) : yR g A d mc ms y pc L st ws kc ks Q := by
  intro p e s m args below meth c H locs ls C hW hl T hT X
  obtain ⟨hP, hD, hS⟩ := id hW
  have hA := C.2.2.2.2.2.2.2.2.2.1
  have hFc := va_free (wc := wc) hD hS hA isC hC
  have hin : ∀ U : State, U.heap = H → s.WarmedH U.vm → yIn g wc H.size U := by
    intro U hU hWm
    refine ⟨by rw [hU], ?_, ?_, va_K.moved hWm.alike C.2.2.2.2.2.2.2.1, yE_to (locs := locs) C.2.2.2.2.2.2.2.2.1 (by rw [hU]; exact hS) hWm hFc⟩
    · rw [hU]
      intro j q hq
      have h1 : (isC.map (fun i => ws[i]?))[j]? = some (some q) := by rw [hC, List.getElem?_map, hq]; rfl
      rw [List.getElem?_map] at h1
      cases hi : isC[j]? with
      | none => rw [hi] at h1; cases h1
      | some i => rw [hi] at h1; exact hP i q (Option.some.inj h1)
    · exact (hD.sub isC hnC hC).weaken (fun _ _ _ _ => trivial)
  obtain ⟨v, st₀, t, T', L1, h0, X', hL, e1, e2, ⟨⟨v', w1, hv, hq, hP1, hD1⟩, hz, hk⟩, hst⟩ := hr p e s m args below meth c H locs ls C hW hl hin T hT X
  cases hv
  rw [h0] at hz hk
  obtain ⟨hP2, hD2⟩ := va_join hP hD isC isR hC hR hnd hdis hk hFc hP1 hD1
  have hW' : yW g A s T'.heap (locs ++ L1) (wr ++ w1) := by
    refine ⟨by rw [e1]; exact hP2, hD2, Nat.le_trans hS.1 (by rw [e1]; exact hz), fun q h1 h2 => ?_, fun q hq => ?_⟩
    · rw [e1, hk q (Nat.lt_of_lt_of_le h1 hS.1) (fun z => h2 (hFc q z))]
      exact hS.2.1 q h1 h2
    · rcases List.mem_append.mp hq with h | h
      · exact hS.2.2 q h
      · exact hFc _ (hL q h)
  obtain ⟨t2, a1, b1⟩ := k v w1 hq p e s m args below meth c T'.heap (locs ++ L1) ls C hW' hl T' rfl X'
  exact ⟨t2, hst t2 a1, b1⟩
theorem ny_I {idx n b : Nat} (hdg : decode y.2.1 pc = .ok (.invokespecial idx, 3)) (hp : pc + 3 = pc') (hlk : Cond.methodLink y.1.cls idx z.1 ∈ zWS) (hz : zlk z n) (hi : Cond.instanceMethod z.1 ∈ zWS) (hret : z.2.2.2 = none) (hname : z.1.name = "<init>") (hst : st = As.reverse ++ .ref b :: rest) (hn : As.length = n) (hcat : (rest.map fun v => v.category).sum ≤ 8) (hd : d' + 1 ≤ d) (hc : kc + mc' ≤ mc) (hs : ks + ms' ≤ ms)
    (isC isR : List Nat) (hC : isC.map (fun i => ws[i]?) = wc.map some) (hnC : va_nd isC = true) (hR : isR.map (fun i => ws[i]?) = wr.map some) (hnd : va_nd isR = true) (hdis : ∀ i ∈ isR, i ∉ isC)
    (hK : yK g d' mc' ms' z (.ref b :: As) wc Q') (k : ∀ w1, Q' none w1 → yR g A d mc ms y pc' L rest (wr ++ w1) (kc + mc') (ks + ms') Q) (hv : ∀ v w1, Q' v w1 → v = none) : yR g A d mc ms y pc L st ws kc ks Q := by
  subst hp
  obtain ⟨w1, w2, w3, w4, w5, w6⟩ := hz
  refine ny_run (av := .ref b :: As) isC isR hC hnC hR hnd hdis (Q' := Q') (fun p e s m args below meth c H locs ls C hW hl hin => ?_) (fun v w hq => by cases hv v w hq; exact k w hq)
  obtain ⟨hx, hb, hml, hr, hlo, hown, hts, hK1, hE⟩ := id C
  exact va_runI (As := As) (rest := rest) (n := n) (cc := y.2.1) (nL := y.2.2.1) (Ts := zWS) (own := y.1.cls) ⟨hx, hb, hml, hown, hts⟩ (hK H.size)
    ⟨callB_of n hts (zwsM_good w2) (by rw [zwsM, hret]) rfl rfl (hts _ w1) (hts _ hlk) ⟨w3, w4, w5⟩ (yroom hd w6), hname, hts _ hi⟩
    ⟨yIn_blind, fun U hU hWm => ⟨rfl, hin U hU hWm⟩⟩ rfl hn hl.1 hst (lv_room hcat) hdg ⟨hc, hs⟩
theorem ny_IN {idx n b : Nat} {host : String} (hdg : decode y.2.1 pc = .ok (.invokespecial idx, 3)) (hp : pc + 3 = pc') (hlk : (y.1.cls, idx, z.1, host) ∈ zNW) (hz : zlk z n) (hi : Cond.instanceMethod z.1 ∈ zWS) (hret : z.2.2.2 = none) (hname : z.1.name = "<init>") (hst : st = As.reverse ++ .ref b :: rest) (hn : As.length = n) (hcat : (rest.map fun v => v.category).sum ≤ 8) (hd : d' + 1 ≤ d) (hc : kc + mc' ≤ mc) (hs : ks + ms' ≤ ms)
    (isC isR : List Nat) (hC : isC.map (fun i => ws[i]?) = wc.map some) (hnC : va_nd isC = true) (hR : isR.map (fun i => ws[i]?) = wr.map some) (hnd : va_nd isR = true) (hdis : ∀ i ∈ isR, i ∉ isC)
    (hK : yK g d' mc' ms' z (.ref b :: As) wc Q') (k : ∀ w1, Q' none w1 → yR g A d mc ms y pc' L rest (wr ++ w1) (kc + mc') (ks + ms') Q) (hv : ∀ v w1, Q' v w1 → v = none) : yR g A d mc ms y pc L st ws kc ks Q := by
  subst hp
  obtain ⟨w1, w2, w3, w4, w5, w6⟩ := hz
  refine ny_run (av := .ref b :: As) isC isR hC hnC hR hnd hdis (Q' := Q') (fun p e s m args below meth c H locs ls C hW hl hin => ?_) (fun v w hq => by cases hv v w hq; exact k w hq)
  obtain ⟨hx, hb, hml, hr, hlo, hown, hts, hK1, hE⟩ := id C
  exact va_runIN (As := As) (rest := rest) (n := n) (cc := y.2.1) (nL := y.2.2.1) (Ts := zWS) (own := y.1.cls) (host := host) ⟨hx, hb, hml, hown, hts⟩ (hK H.size)
    ⟨va_cnB n hts (zwsM_good w2) (by rw [zwsM, hret]) rfl rfl (hE.1.1 _ hlk) (hts _ w1) ⟨w3, w4, w5⟩ (yroom hd w6), hname, hts _ hi⟩
    ⟨yIn_blind, fun U hU hWm => ⟨rfl, hin U hU hWm⟩⟩ rfl hn hl.1 hst (lv_room hcat) hdg ⟨hc, hs⟩
theorem ny_S {idx n : Nat} (hdg : decode y.2.1 pc = .ok (.invokestatic idx, 3)) (hp : pc + 3 = pc') (hlk : Cond.methodLink y.1.cls idx z.1 ∈ zWS) (hz : zlkS z n) (hst : st = As.reverse ++ rest) (hn : As.length = n) (hcat : (rest.map fun v => v.category).sum ≤ 8) (hd : d' + 1 ≤ d) (hc : kc + mc' ≤ mc) (hs : ks + ms' ≤ ms)
    (isC isR : List Nat) (hC : isC.map (fun i => ws[i]?) = wc.map some) (hnC : va_nd isC = true) (hR : isR.map (fun i => ws[i]?) = wr.map some) (hnd : va_nd isR = true) (hdis : ∀ i ∈ isR, i ∉ isC)
    (hK : yK g d' mc' ms' z As wc Q') (k : ∀ v w1, Q' v w1 → yR g A d mc ms y pc' L (v.toList ++ rest) (wr ++ w1) (kc + mc') (ks + ms') Q) : yR g A d mc ms y pc L st ws kc ks Q := by
  subst hp
  obtain ⟨⟨w1, w2, w3, w4, w5, w6⟩, w7⟩ := hz
  refine ny_run (av := As) isC isR hC hnC hR hnd hdis (Q' := Q') (fun p e s m args below meth c H locs ls C hW hl hin => ?_) k
  obtain ⟨hx, hb, hml, hr, hlo, hown, hts, hK1, hE⟩ := id C
  exact va_runS (As := As) (rest := rest) (n := n) (cc := y.2.1) (nL := y.2.2.1) (Ts := zWS) (own := y.1.cls) ⟨hx, hb, hml, hown, hts⟩ (hK H.size)
    ⟨callB_of n hts (zwsM_good w2) rfl rfl rfl (hts _ w1) (hts _ hlk) ⟨w3, w4, w5⟩ (yroom hd w6), hts _ w7⟩
    ⟨yIn_blind, fun U hU hWm => ⟨rfl, hin U hU hWm⟩⟩ rfl hn hl.1 hst (lv_room hcat) hdg ⟨hc, hs⟩
/-- a virtual call on an object of the world -/
theorem ny_V {idx n b q0 ci : Nat} {fs : List Value} (hdg : decode y.2.1 pc = .ok (.invokevirtual idx, 3)) (hp : pc + 3 = pc') (hlk : Cond.methodLink y.1.cls idx z.1 ∈ zWS) (hz : zlkV z n) (he : ws[q0]? = some (b, .inr (ci, fs))) (hcl : ∃ T N, zCL[ci]? = some (z.1.cls, T, N)) (hst : st = As.reverse ++ .ref b :: rest) (hn : As.length = n) (hcat : (rest.map fun v => v.category).sum ≤ 8) (hd : d' + 1 ≤ d) (hc : kc + mc' ≤ mc) (hs : ks + ms' ≤ ms)
    (isC isR : List Nat) (hC : isC.map (fun i => ws[i]?) = wc.map some) (hnC : va_nd isC = true) (hR : isR.map (fun i => ws[i]?) = wr.map some) (hnd : va_nd isR = true) (hdis : ∀ i ∈ isR, i ∉ isC)
    (hK : yK g d' mc' ms' z (.ref b :: As) wc Q') (k : ∀ v w1, Q' v w1 → yR g A d mc ms y pc' L (v.toList ++ rest) (wr ++ w1) (kc + mc') (ks + ms') Q) : yR g A d mc ms y pc L st ws kc ks Q := by
  subst hp
  obtain ⟨⟨w1, w2, w3, w4, w5, w6⟩, w7, w8⟩ := hz
  obtain ⟨T, N, hcl⟩ := hcl
  refine ny_run (av := .ref b :: As) isC isR hC hnC hR hnd hdis (Q' := Q') (fun p e s m args below meth c H locs ls C hW hl hin => ?_) k
  obtain ⟨hx, hb, hml, hr, hlo, hown, hts, hK1, hE⟩ := id C
  exact va_runV (As := As) (rest := rest) (C := z.1.cls) (n := n) (cc := y.2.1) (nL := y.2.2.1) (Ts := zWS) (own := y.1.cls) ⟨hx, hb, hml, hown, hts⟩ (hK H.size)
    ⟨callB_of n hts (zwsM_good w2) rfl rfl rfl (hts _ w1) (hts _ hlk) ⟨w3, w4, w5⟩ (yroom hd w6), hts _ w7, hts _ w8⟩
    ⟨yIn_blind, va_recv hK1 hW.1 (ci := ci) (q0 := q0) hcl he, fun U hU hWm => ⟨rfl, hin U hU hWm⟩⟩ rfl hn hl.1 hst (lv_room hcat) hdg ⟨hc, hs⟩
/-- a call on a string constant: no cells -/
theorem ny_VS {idx n k0 : Nat} (hdg : decode y.2.1 pc = .ok (.invokevirtual idx, 3)) (hp : pc + 3 = pc') (hlk : Cond.methodLink y.1.cls idx z.1 ∈ zWS) (hz : zlkV z n) (hcls : z.1.cls = "java/lang/String") (hk0 : k0 < 7) (hst : st = As.reverse ++ .ref (g.2.2.2.1 k0) :: rest) (hn : As.length = n) (hcat : (rest.map fun v => v.category).sum ≤ 8) (hd : d' + 1 ≤ d) (hc : kc ≤ mc) (hs : ks ≤ ms)
    (isR : List Nat) (hR : isR.map (fun i => ws[i]?) = wr.map some) (hnd : va_nd isR = true)
    (hK : yK g d' 0 0 z (.ref (g.2.2.2.1 k0) :: As) [] Q') (k : ∀ v w1, Q' v w1 → yR g A d mc ms y pc' L (v.toList ++ rest) (wr ++ w1) kc ks Q) : yR g A d mc ms y pc L st ws kc ks Q := by
  subst hp
  obtain ⟨⟨w1, w2, w3, w4, w5, w6⟩, w7, w8⟩ := hz
  refine ny_run (av := .ref (g.2.2.2.1 k0) :: As) (mc' := 0) (ms' := 0) (wc := []) [] isR rfl rfl hR hnd (fun _ _ h => by cases h) (Q' := Q') (fun p e s m args below meth c H locs ls C hW hl hin => ?_) k
  obtain ⟨hx, hb, hml, hr, hlo, hown, hts, hK1, hE⟩ := id C
  exact va_runV (As := As) (rest := rest) (C := z.1.cls) (n := n) (cc := y.2.1) (nL := y.2.2.1) (Ts := zWS) (own := y.1.cls) ⟨hx, hb, hml, hown, hts⟩ (hK H.size)
    ⟨callB_of n hts (zwsM_good w2) rfl rfl rfl (hts _ w1) (hts _ hlk) ⟨w3, w4, w5⟩ (yroom hd w6), hts _ w7, hts _ w8⟩
    ⟨yIn_blind, by rw [hcls]; exact vk_recv hE.1.2.1 hk0 hW.2.2, fun U hU hWm => ⟨rfl, hin U hU hWm⟩⟩ rfl hn hl.1 hst (lv_room hcat) hdg ⟨hc, hs⟩
/-- the world in another order, or less of it -/
theorem ny_sub (is : List Nat) (hs : is.filterMap (fun i => ws[i]?) = ws') (hn : va_nd is = true) (hm : is.map (fun i => ws[i]?) = ws'.map some) (k : yR g A d mc ms y pc L rest ws' kc ks Q) : yR g A d mc ms y pc L rest ws kc ks Q :=
  fun p e s m args below meth c H locs ls C hW hl => k p e s m args below meth c H locs ls C ⟨hW.1.sub is hs, hW.2.1.sub is hn hm, hW.2.2⟩ hl
theorem ny_eq (h : ws = ws') (k : yR g A d mc ms y pc L rest ws' kc ks Q) : yR g A d mc ms y pc L rest ws kc ks Q := h ▸ k
theorem ny_new {idx ci N : Nat} {C T : _} {tf : Nat → FieldType} {fs : List Value} (hdg : decode y.2.1 pc = .ok (.new idx, 3)) (hp : pc + 3 = pc') (hcl : zCL[ci]? = some (C, T, N)) (hin : ∀ w ∈ u_ws C T N, w ∈ zWS) (hty : ∀ k, k < N → parseFieldDescriptor (T k).2.2.1 = some (tf k)) (w1 : Cond.classLink y.1.cls idx C ∈ zWS) (w2 : Cond.instantiable C N ∈ zWS) (w3 : Cond.initialized C ∈ zWS) (hfs : ∀ j, j < N → defaultValue (tf j) = vp_V fs j) (hc : kc + 1 ≤ mc) (hs : ks + N ≤ ms)
    (k : ∀ q : Nat, yR g A d mc ms y pc' L (.ref q :: rest) (ws ++ [(q, .inr (ci, fs))]) (kc + 1) (ks + N) Q) : yR g A d mc ms y pc L rest ws kc ks Q := by
  subst hp
  intro p e s m args below meth c H locs ls C hW hl
  have hts := C.2.2.2.2.2.2.1
  exact va_new C.1 C.2.1 hts hin tf hty C.2.2.2.2.2.1 (hts _ w1) (hts _ w2) (hts _ w3) C.2.2.2.2.2.2.2.1 hW.1 hW.2.1 hW.2.2 C.2.2.2.2.2.2.2.2.2.1 hcl hfs hc hs hdg (fun q H1 hP hD hS => k q p e s m args below meth c H1 locs ls C ⟨hP, hD, hS⟩ hl)
end YR
