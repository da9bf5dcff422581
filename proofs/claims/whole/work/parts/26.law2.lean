theorem dX11_person_24 : decode YX11_person.2.1 24 = .ok (.dup, 1) := by decide +kernel
theorem dX11_person_25 : decode YX11_person.2.1 25 = .ok (.ldc 161, 2) := by decide +kernel
theorem dX11_person_27 : decode YX11_person.2.1 27 = .ok (.invokespecial 163, 3) := by decide +kernel
theorem dX11_person_30 : decode YX11_person.2.1 30 = .ok (.athrow, 1) := by decide +kernel
theorem dX11_mean_25 : decode YX11_mean.2.1 25 = .ok (.dup, 1) := by decide +kernel
theorem dX11_mean_26 : decode YX11_mean.2.1 26 = .ok (.ldc_w 311, 3) := by decide +kernel
theorem dX11_mean_29 : decode YX11_mean.2.1 29 = .ok (.invokespecial 163, 3) := by decide +kernel
theorem dX11_mean_32 : decode YX11_mean.2.1 32 = .ok (.athrow, 1) := by decide +kernel
theorem mlL_7 : Cond.methodLink "ProperFollowLaw" 7 YX11_person.1 ∈ zWS := by decide +kernel
theorem mlL_15 : Cond.methodLink "ProperFollowLaw" 15 YX11_mean.1 ∈ zWS := by decide +kernel
theorem clL_13 : Cond.classLink "ProperFollowLaw" 13 xNS ∈ zWS := by decide +kernel
theorem lkX11_person : zlkV YX11_person 2 := ⟨⟨by decide +kernel, by decide +kernel, by decide +kernel, by decide +kernel, by decide +kernel, by decide +kernel⟩, by decide +kernel, by decide +kernel⟩
theorem lkX11_mean : zlkV YX11_mean 1 := ⟨⟨by decide +kernel, by decide +kernel, by decide +kernel, by decide +kernel, by decide +kernel, by decide +kernel⟩, by decide +kernel, by decide +kernel⟩
theorem xperson (Γ : zG) (hst : Γ.1.stackTraces = false) (M : zM) (a1 a2 : Int32) (h : fPl_hasPerson (M.1 5) a1 = true → ¬ a2 < 0 → a2 ≤ 6 → False) : xK Γ 8 YX11_person [.ref (zad Γ 0), .int a1, .int a2] M := by
  refine xK_of (by decide) (Nat.le_of_ble_eq_true rfl) (fun p e s m args below meth c C hno hlo => ?_)
  refine gj_loc C [0, 1, 2] rfl ?_
  have HT : ∀ L, gR Γ (xS Γ 8 YX11_person M p e s m args below meth c) 21 L [] M 0 0 := fun L => gj_throwS (is := 161) (sa := 5) (text := "no such person, or no such thing of him") C hno hlo hst rfl (by decide +kernel) (by decide) (Nat.le_of_ble_eq_true rfl) dX11_person_21 dX11_person_24 dX11_person_25 dX11_person_27 dX11_person_30
  refine gj_aload_n C (pc' := 1) 0 dX11_person_0 rfl rfl rfl ?_
  refine gj_getR C (pc' := 4) (j := 5) dX11_person_1 rfl flX11_28 sh0 rfl ?_
  refine gj_iload_n C (pc' := 5) 1 dX11_person_4 rfl rfl rfl ?_
  refine gj_V C (pc' := 8) (z := YX7_hasPerson) (As := [.int a1]) dX11_person_5 rfl mlX11_156 lkX7_hasPerson sh5 ⟨_, _, rfl⟩ rfl rfl (Nat.le_of_ble_eq_true rfl) (Nat.le_of_ble_eq_true rfl) (Nat.le_of_ble_eq_true rfl) ⟨Nat.zero_le _, Nat.zero_le _⟩ (LX7_hasPerson_5 Γ M _ rfl a1 rfl) (fun v N hv => ?_)
  obtain ⟨rfl, rfl⟩ := hv
  refine gj_if_eq C (tgt := 21) (pc' := 11) dX11_person_8 rfl (by decide) (fun _ => HT _) (fun c1 => ?_)
  refine gj_iload_n C (pc' := 12) 2 dX11_person_11 rfl rfl rfl ?_
  refine gj_if_lt C (tgt := 21) (pc' := 15) dX11_person_12 rfl (by decide) (fun _ => HT _) (fun c2 => ?_)
  refine gj_iload_n C (pc' := 16) 2 dX11_person_15 rfl rfl rfl ?_
  refine gj_bipush C (pc' := 18) (v := 6) dX11_person_16 rfl (by decide) ?_
  refine gj_icmp_le C (tgt := 31) (pc' := 21) dX11_person_18 rfl (by decide) (fun c3 => ?_) (fun _ => HT _)
  exfalso
  refine h ?_ c2 c3
  revert c1
  cases fPl_hasPerson (N.1 5) a1
  · intro c1; exact absurd rfl c1
  · intro _; rfl
theorem xmean (Γ : zG) (hst : Γ.1.stackTraces = false) (M : zM) (a1 : Int32) (h : ¬ fPl_persons (M.1 5) < 1 → ¬ a1 < 0 → a1 ≤ 1 → False) : xK Γ 8 YX11_mean [.ref (zad Γ 0), .int a1] M := by
  refine xK_of (by decide) (Nat.le_of_ble_eq_true rfl) (fun p e s m args below meth c C hno hlo => ?_)
  refine gj_loc C [0, 1] rfl ?_
  have HT : ∀ L, gR Γ (xS Γ 8 YX11_mean M p e s m args below meth c) 22 L [] M 0 0 := fun L => gj_throwSW (is := 311) (sa := 6) (text := "no persons, or no such number of a fraction") C hno hlo hst rfl (by decide +kernel) (by decide) (Nat.le_of_ble_eq_true rfl) dX11_mean_22 dX11_mean_25 dX11_mean_26 dX11_mean_29 dX11_mean_32
  refine gj_aload_n C (pc' := 1) 0 dX11_mean_0 rfl rfl rfl ?_
  refine gj_getR C (pc' := 4) (j := 5) dX11_mean_1 rfl flX11_28 sh0 rfl ?_
  refine gj_V C (pc' := 7) (z := YX7_persons) (As := []) dX11_mean_4 rfl mlX11_308 lkX7_persons sh5 ⟨_, _, rfl⟩ rfl rfl (Nat.le_of_ble_eq_true rfl) (Nat.le_of_ble_eq_true rfl) (Nat.le_of_ble_eq_true rfl) ⟨Nat.zero_le _, Nat.zero_le _⟩ (LX7_persons_5 Γ M _ rfl rfl) (fun v N hv => ?_)
  obtain ⟨rfl, rfl⟩ := hv
  refine gj_istore_n C (L' := [(2, .int (fPl_persons (N.1 5))), (0, .ref (zad Γ 0)), (1, .int a1)]) (pc' := 8) dX11_mean_7 rfl rfl (Nat.le_of_ble_eq_true rfl) rfl ?_
  refine gj_iload_n C (pc' := 9) 0 dX11_mean_8 rfl rfl rfl ?_
  refine gj_iconst C (pc' := 10) (v := 1) dX11_mean_9 rfl (by decide) ?_
  refine gj_icmp_lt C (tgt := 22) (pc' := 13) dX11_mean_10 rfl (by decide) (fun _ => HT _) (fun c1 => ?_)
  refine gj_iload_n C (pc' := 14) 2 dX11_mean_13 rfl rfl rfl ?_
  refine gj_if_lt C (tgt := 22) (pc' := 17) dX11_mean_14 rfl (by decide) (fun _ => HT _) (fun c2 => ?_)
  refine gj_iload_n C (pc' := 18) 2 dX11_mean_17 rfl rfl rfl ?_
  refine gj_iconst C (pc' := 19) (v := 1) dX11_mean_18 rfl (by decide) ?_
  exact gj_icmp_le C (tgt := 33) (pc' := 22) dX11_mean_19 rfl (by decide) (fun c3 => (h c1 c2 c3).elim) (fun _ => HT _)
/-! the law's helpers -/
def YL_person : zY := (⟨"ProperFollowLaw", "person", "(LProperFollow;II[J)I"⟩, method_3_code, 5, some .int)
def YL_mean : zY := (⟨"ProperFollowLaw", "mean", "(LProperFollow;I[J)I"⟩, method_4_code, 4, some .int)
def lwsM (y : zY) (hh : List (Nat × Nat × Nat × Nat)) : List Cond := .codeWith y.1 y.2.1 y.2.2.1 y.2.2.2 hh :: zWS
def lK (Γ : zG) (d : Nat) (y : zY) (hh : List (Nat × Nat × Nat × Nat)) (av : List Value) (M : zM) (Q : Option Value → zM → Prop) : Prop := Met Γ.1 y.1 (lwsM y hh) (xrm d) (va_Pc av (xIn Γ M)) (zQ Γ Q) 1 6 (zA Γ)
def lS (Γ : zG) (d : Nat) (y : zY) (Q : Option Value → zM → Prop) (p : Program) (e : Env) (s : State) (m : MethodId) (args : Array Value) (below : List Frame) (meth : Method) (c : Code) : gS := (gSmk (p := p) (e := e) (s := s) (m := m) (args := args) (below := below) (meth := meth) (c := c) (R := xrm d) (Z := MQ below (zQ Γ Q) args s 1 6 (zA Γ)) (A := zA Γ) (cc := y.2.1) (nL := y.2.2.1) (own := y.1.cls))
theorem lK_of {Γ : zG} {d : Nat} {y : zY} {hh : List (Nat × Nat × Nat × Nat)} {av : List Value} {M : zM} {Q : Option Value → zM → Prop} (hy : plainName y.1.cls = true) (hl : (lg_sl av).length ≤ y.2.2.1) (h : ∀ p e s m args below meth c, gC Γ (lS Γ d y Q p e s m args below meth c) → c.exceptionTable.toList = tableOf hh → meth.locks = false → meth.sig.returnType = y.2.2.2 → gR Γ (lS Γ d y Q p e s m args below meth c) 0 (lv_args 0 av) [] M 0 0) : lK Γ d y hh av M Q := by
  unfold lK
  refine MetFree.of_bodyS (code := y.2.1) (maxLocals := y.2.2.1) (ret := y.2.2.2) hy ?_ ?_
  · intro args s m h hn
    obtain ⟨m9, meth, c, hn9, h1, h2, h3, h4, -, h5, h6, -⟩ := Cond.codeWith_spec (atoms_spec (ws := lwsM y hh) h _ List.mem_cons_self)
    cases hn.symm.trans hn9
    exact ⟨meth, c, h1, h2, h3, h4, h5, h6⟩
  · intro p e s m args below meth c s₁ B hml hv _
    have hh0 : s₁.heap = s.heap := by rw [B.state]; rfl
    obtain ⟨rfl, ⟨hP, hD, hK, hE⟩, hX⟩ := hv
    have hts := atoms_spec (ws := lwsM y hh) B.pre
    have W0 := h p e s m av.toArray below meth c ⟨B.exec, B.bytes, hml, findClass_of_methodNamed B.named, fun w hw => hts w (List.mem_cons_of_mem _ hw), hK, hE, hX, fun _ h => h, fun _ _ h => h⟩ (vx_table (x := y.1) B (hts _ List.mem_cons_self)) B.notSynchronized B.returns s.heap [] _ ⟨hP, hD, va_S.rf⟩ (lv_entry av hl)
    have W1 : W p Γ.1 e (xrm d) s m av.toArray below meth c s.heap [] 0 0 (MQ below (zQ Γ Q) av.toArray s 1 6 (zA Γ)) (entryFrame m av.toArray y.2.2.1) := by
      rw [lg_entry_eq]; exact W0
    obtain ⟨t, a1, o, b1, b2, b3⟩ := W1 s₁ hh0 (Stand.of_body B)
    exact ⟨t, o, a1, b1, b2, ⟨b3.1, b3.2⟩⟩
theorem gj_iret {Γ : zG} {d : Nat} {y : zY} {Q : Option Value → zM → Prop} {p : Program} {e : Env} {s : State} {m : MethodId} {args : Array Value} {below : List Frame} {meth : Method} {c : Code} {pc kc ks : Nat} {L : List (Nat × Value)} {v : Int32} {N : zM} (C : gC Γ (lS Γ d y Q p e s m args below meth c)) (hlo : meth.locks = false) (hret : meth.sig.returnType = some .int) (hc : kc ≤ 1) (hs : ks ≤ 6) (hdg : decode y.2.1 pc = .ok (.ireturn, 1)) (hq : Q (some (.int v)) N) : gR Γ (lS Γ d y Q p e s m args below meth c) pc L [.int v] N kc ks := by
  intro H locs ls hW hl
  refine W.widen (k := 1) (n := 6) hc hs ?_
  exact W.iret C.1 C.2.1 hret (fun t ht hWm => ⟨⟨_, N, rfl, hq, by rw [ht]; exact hW.1⟩, hW.2.2.F ht⟩) hW.2.2.2.2 hdg hlo
theorem dL_person_0 : decode YL_person.2.1 0 = .ok (.aload_n 3, 1) := by decide +kernel
theorem dL_person_1 : decode YL_person.2.1 1 = .ok (.iconst 0, 1) := by decide +kernel
theorem dL_person_2 : decode YL_person.2.1 2 = .ok (.aload_n 0, 1) := by decide +kernel
theorem dL_person_3 : decode YL_person.2.1 3 = .ok (.iload_n 1, 1) := by decide +kernel
theorem dL_person_4 : decode YL_person.2.1 4 = .ok (.iload_n 2, 1) := by decide +kernel
theorem dL_person_5 : decode YL_person.2.1 5 = .ok (.invokevirtual 7, 3) := by decide +kernel
theorem dL_person_8 : decode YL_person.2.1 8 = .ok (.i2l, 1) := by decide +kernel
theorem dL_person_9 : decode YL_person.2.1 9 = .ok (.lastore, 1) := by decide +kernel
theorem dL_person_10 : decode YL_person.2.1 10 = .ok (.goto 7, 3) := by decide +kernel
theorem dL_person_13 : decode YL_person.2.1 13 = .ok (.astore 4, 2) := by decide +kernel
theorem dL_person_15 : decode YL_person.2.1 15 = .ok (.iconst 1, 1) := by decide +kernel
theorem dL_person_16 : decode YL_person.2.1 16 = .ok (.ireturn, 1) := by decide +kernel
theorem dL_person_17 : decode YL_person.2.1 17 = .ok (.iconst 0, 1) := by decide +kernel
theorem dL_person_18 : decode YL_person.2.1 18 = .ok (.ireturn, 1) := by decide +kernel
theorem dL_mean_0 : decode YL_mean.2.1 0 = .ok (.aload_n 2, 1) := by decide +kernel
theorem dL_mean_1 : decode YL_mean.2.1 1 = .ok (.iconst 0, 1) := by decide +kernel
theorem dL_mean_2 : decode YL_mean.2.1 2 = .ok (.aload_n 0, 1) := by decide +kernel
theorem dL_mean_3 : decode YL_mean.2.1 3 = .ok (.iload_n 1, 1) := by decide +kernel
theorem dL_mean_4 : decode YL_mean.2.1 4 = .ok (.invokevirtual 15, 3) := by decide +kernel
theorem dL_mean_7 : decode YL_mean.2.1 7 = .ok (.i2l, 1) := by decide +kernel
theorem dL_mean_8 : decode YL_mean.2.1 8 = .ok (.lastore, 1) := by decide +kernel
theorem dL_mean_9 : decode YL_mean.2.1 9 = .ok (.goto 6, 3) := by decide +kernel
theorem dL_mean_12 : decode YL_mean.2.1 12 = .ok (.astore_n 3, 1) := by decide +kernel
theorem dL_mean_13 : decode YL_mean.2.1 13 = .ok (.iconst 1, 1) := by decide +kernel
theorem dL_mean_14 : decode YL_mean.2.1 14 = .ok (.ireturn, 1) := by decide +kernel
theorem dL_mean_15 : decode YL_mean.2.1 15 = .ok (.iconst 0, 1) := by decide +kernel
theorem dL_mean_16 : decode YL_mean.2.1 16 = .ok (.ireturn, 1) := by decide +kernel
theorem sh207 : zSH[207]? = some (1, [1]) := rfl
theorem LL_person (Γ : zG) (M : zM) (a1 a2 r : Int32) (hy : fX_person (M.1 5) (M.1 16) (M.1 17) (M.1 18) (M.1 19) (M.1 21) a1 a2 = some r) : lK Γ 9 YL_person [(0, 10, 13, 13)] [.ref (zad Γ 0), .int a1, .int a2, .ref (zad Γ 207)] M (fun v N => v = some (.int 0) ∧ N = zul M 207 (vp_updL (M.2 207) 0 r.toInt64)) := by
  refine lK_of (by decide) (Nat.le_of_ble_eq_true rfl) (fun p e s m args below meth c C ht hlo hret => ?_)
  refine gj_loc C [0, 1, 2, 3] rfl ?_
  refine gj_aload_n C (pc' := 1) 3 dL_person_0 rfl rfl rfl ?_
  refine gj_iconst C (pc' := 2) (v := 0) dL_person_1 rfl (by decide) ?_
  refine gj_aload_n C (pc' := 3) 0 dL_person_2 rfl rfl rfl ?_
  refine gj_iload_n C (pc' := 4) 1 dL_person_3 rfl rfl rfl ?_
  refine gj_iload_n C (pc' := 5) 2 dL_person_4 rfl rfl rfl ?_
  refine gj_V C (pc' := 8) (z := YX11_person) (As := [.int a1, .int a2]) dL_person_5 rfl mlL_7 lkX11_person sh0 ⟨_, _, rfl⟩ rfl rfl (Nat.le_of_ble_eq_true rfl) (Nat.le_of_ble_eq_true rfl) (Nat.le_of_ble_eq_true rfl) ⟨Nat.zero_le _, Nat.zero_le _⟩ (LX11_person_0 Γ M _ _ _ _ _ _ rfl rfl rfl rfl rfl rfl a1 a2 hy) (fun v N hv => ?_)
  obtain ⟨rfl, rfl⟩ := hv
  refine gj_i2l C (pc' := 9) dL_person_8 rfl ?_
  refine gj_last C (pc' := 10) (i := 207) (n := 1) dL_person_9 rfl sh207 (zin_in (by decide)) ?_
  refine gj_goto C (tgt := 17) dL_person_10 (by decide) ?_
  refine gj_iconst C (pc' := 18) (v := 0) dL_person_17 rfl (by decide) ?_
  exact gj_iret C hlo hret (Nat.zero_le _) (Nat.zero_le _) dL_person_18 ⟨rfl, rfl⟩
theorem LL_personX (Γ : zG) (hst : Γ.1.stackTraces = false) (M : zM) (a1 a2 : Int32) (h : fPl_hasPerson (M.1 5) a1 = true → ¬ a2 < 0 → a2 ≤ 6 → False) : lK Γ 9 YL_person [(0, 10, 13, 13)] [.ref (zad Γ 0), .int a1, .int a2, .ref (zad Γ 207)] M (fun v N => v = some (.int 1) ∧ N = M) := by
  refine lK_of (by decide) (Nat.le_of_ble_eq_true rfl) (fun p e s m args below meth c C ht hlo hret => ?_)
  refine gj_loc C [0, 1, 2, 3] rfl ?_
  refine gj_aload_n C (pc' := 1) 3 dL_person_0 rfl rfl rfl ?_
  refine gj_iconst C (pc' := 2) (v := 0) dL_person_1 rfl (by decide) ?_
  refine gj_aload_n C (pc' := 3) 0 dL_person_2 rfl rfl rfl ?_
  refine gj_iload_n C (pc' := 4) 1 dL_person_3 rfl rfl rfl ?_
  refine gj_iload_n C (pc' := 5) 2 dL_person_4 rfl rfl rfl ?_
  refine gj_VX C (z := YX11_person) (As := [.int a1, .int a2]) dL_person_5 mlL_7 lkX11_person sh0 ⟨_, _, rfl⟩ rfl rfl (Nat.le_of_ble_eq_true rfl) (Nat.le_of_ble_eq_true rfl) (Nat.le_of_ble_eq_true rfl) ⟨Nat.le_refl _, Nat.le_refl _⟩ ht (by decide) (by decide) (by decide) clL_13 (xperson Γ hst M a1 a2 h) (fun q => ?_)
  refine gj_astore C (pc' := 15) dL_person_13 rfl (Nat.le_of_ble_eq_true rfl) rfl ?_
  refine gj_iconst C (pc' := 16) (v := 1) dL_person_15 rfl (by decide) ?_
  exact gj_iret C hlo hret (Nat.le_refl _) (Nat.le_refl _) dL_person_16 ⟨rfl, rfl⟩
theorem LL_mean (Γ : zG) (M : zM) (a1 r : Int32) (hy : fX_mean (M.1 5) (M.1 23) a1 = some r) : lK Γ 9 YL_mean [(0, 9, 12, 13)] [.ref (zad Γ 0), .int a1, .ref (zad Γ 207)] M (fun v N => v = some (.int 0) ∧ N = zul M 207 (vp_updL (M.2 207) 0 r.toInt64)) := by
  refine lK_of (by decide) (Nat.le_of_ble_eq_true rfl) (fun p e s m args below meth c C ht hlo hret => ?_)
  refine gj_loc C [0, 1, 2] rfl ?_
  refine gj_aload_n C (pc' := 1) 2 dL_mean_0 rfl rfl rfl ?_
  refine gj_iconst C (pc' := 2) (v := 0) dL_mean_1 rfl (by decide) ?_
  refine gj_aload_n C (pc' := 3) 0 dL_mean_2 rfl rfl rfl ?_
  refine gj_iload_n C (pc' := 4) 1 dL_mean_3 rfl rfl rfl ?_
  refine gj_V C (pc' := 7) (z := YX11_mean) (As := [.int a1]) dL_mean_4 rfl mlL_15 lkX11_mean sh0 ⟨_, _, rfl⟩ rfl rfl (Nat.le_of_ble_eq_true rfl) (Nat.le_of_ble_eq_true rfl) (Nat.le_of_ble_eq_true rfl) ⟨Nat.zero_le _, Nat.zero_le _⟩ (LX11_mean_0 Γ M _ _ rfl rfl a1 hy) (fun v N hv => ?_)
  obtain ⟨rfl, rfl⟩ := hv
  refine gj_i2l C (pc' := 8) dL_mean_7 rfl ?_
  refine gj_last C (pc' := 9) (i := 207) (n := 1) dL_mean_8 rfl sh207 (zin_in (by decide)) ?_
  refine gj_goto C (tgt := 15) dL_mean_9 (by decide) ?_
  refine gj_iconst C (pc' := 16) (v := 0) dL_mean_15 rfl (by decide) ?_
  exact gj_iret C hlo hret (Nat.zero_le _) (Nat.zero_le _) dL_mean_16 ⟨rfl, rfl⟩
theorem LL_meanX (Γ : zG) (hst : Γ.1.stackTraces = false) (M : zM) (a1 : Int32) (h : ¬ fPl_persons (M.1 5) < 1 → ¬ a1 < 0 → a1 ≤ 1 → False) : lK Γ 9 YL_mean [(0, 9, 12, 13)] [.ref (zad Γ 0), .int a1, .ref (zad Γ 207)] M (fun v N => v = some (.int 1) ∧ N = M) := by
  refine lK_of (by decide) (Nat.le_of_ble_eq_true rfl) (fun p e s m args below meth c C ht hlo hret => ?_)
  refine gj_loc C [0, 1, 2] rfl ?_
  refine gj_aload_n C (pc' := 1) 2 dL_mean_0 rfl rfl rfl ?_
  refine gj_iconst C (pc' := 2) (v := 0) dL_mean_1 rfl (by decide) ?_
  refine gj_aload_n C (pc' := 3) 0 dL_mean_2 rfl rfl rfl ?_
  refine gj_iload_n C (pc' := 4) 1 dL_mean_3 rfl rfl rfl ?_
  refine gj_VX C (z := YX11_mean) (As := [.int a1]) dL_mean_4 mlL_15 lkX11_mean sh0 ⟨_, _, rfl⟩ rfl rfl (Nat.le_of_ble_eq_true rfl) (Nat.le_of_ble_eq_true rfl) (Nat.le_of_ble_eq_true rfl) ⟨Nat.le_refl _, Nat.le_refl _⟩ ht (by decide) (by decide) (by decide) clL_13 (xmean Γ hst M a1 h) (fun q => ?_)
  refine gj_astore_n C (pc' := 13) dL_mean_12 rfl rfl (Nat.le_of_ble_eq_true rfl) rfl ?_
  refine gj_iconst C (pc' := 14) (v := 1) dL_mean_13 rfl (by decide) ?_
  exact gj_iret C hlo hret (Nat.le_refl _) (Nat.le_refl _) dL_mean_14 ⟨rfl, rfl⟩
