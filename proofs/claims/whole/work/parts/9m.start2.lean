/-! ===== the start: the world's classes, strings and statics ===== -/
section ST
variable {args : Array Value} {s : State}
theorem st_arr {ty : FieldType} (h : (Cond.arrayClass ty).before args s = true) : ∃ cA : ClassId, ArrOfT s cA ty ∧ s.vm.findClass ("[" ++ ty.toString) = some cA := by
  obtain ⟨cA, kA, comp, h1, h2, h3⟩ := Cond.arrayClass_spec h
  exact ⟨cA, fun n z => ⟨fun k h => (by cases h), kA, h2, comp, h3⟩, h1⟩
theorem st_arrO {C : String} (h : (Cond.arrayOver (.object C)).before args s = true) : ∃ cA : ClassId, ArrOfT s cA (.object C) ∧ va_RA s cA (.object C) := by
  obtain ⟨comp, c, k, h1, h2, h3, h4, h5⟩ := Cond.arrayOver_spec h
  exact ⟨c, fun n z => ⟨fun k h => (by cases h), k, h3, comp, h4⟩, k, comp, h3, h4, h1, h5⟩
theorem st_cls (hts : ∀ w ∈ zWS, w.before args s = true) : ∃ D : va_G, ∀ (k : Nat) (q : vw_C), zCL[k]? = some q → u_Kn s q.1 q.2.1 q.2.2 (D.1 k) (D.2 k) := by
  obtain ⟨c0, i0, h0⟩ := u_known (C := kR0) (T := kT0) (N := 10) (n := 10) hts ki0 (hts _ wsX0)
  obtain ⟨c1, i1, h1⟩ := u_known (C := kR1) (T := kT1) (N := 11) (n := 11) hts ki1 (hts _ wsX1)
  obtain ⟨c2, i2, h2⟩ := u_known (C := kR2) (T := kT2) (N := 1) (n := 1) hts ki2 (hts _ wsX2)
  obtain ⟨c3, i3, h3⟩ := u_known (C := kR3) (T := kT3) (N := 3) (n := 3) hts ki3 (hts _ wsX3)
  obtain ⟨c4, i4, h4⟩ := u_known (C := kR4) (T := kT4) (N := 4) (n := 4) hts ki4 (hts _ wsX4)
  obtain ⟨c5, i5, h5⟩ := u_known (C := kR5) (T := kT5) (N := 2) (n := 2) hts ki5 (hts _ wsX5)
  obtain ⟨c6, i6, h6⟩ := u_known (C := kR6) (T := kT6) (N := 4) (n := 4) hts ki6 (hts _ wsX6)
  obtain ⟨c7, i7, h7⟩ := u_known (C := kR7) (T := kT7) (N := 7) (n := 7) hts ki7 (hts _ wsX7)
  obtain ⟨c8, i8, h8⟩ := u_known (C := kR8) (T := kT8) (N := 9) (n := 9) hts ki8 (hts _ wsX8)
  obtain ⟨c9, i9, h9⟩ := u_known (C := kR9) (T := kT9) (N := 11) (n := 11) hts ki9 (hts _ wsX9)
  obtain ⟨c10, i10, h10⟩ := u_known (C := kR10) (T := kT10) (N := 2) (n := 2) hts ki10 (hts _ wsX10)
  obtain ⟨c11, i11, h11⟩ := u_known (C := kR11) (T := kT11) (N := 20) (n := 20) hts ki11 (hts _ wsX11)
  obtain ⟨c12, i12, h12⟩ := u_known (C := kR12) (T := kT12) (N := 53) (n := 53) hts ki12 (hts _ wsX12)
  refine ⟨(fun k => ([c0, c1, c2, c3, c4, c5, c6, c7, c8, c9, c10, c11, c12] : List ClassId).getD k c0, fun k => ([i0, i1, i2, i3, i4, i5, i6, i7, i8, i9, i10, i11, i12] : List (Nat → Nat)).getD k i0), fun k q hq => ?_⟩
  match k, hq with
  | 0, hq => cases hq; exact h0
  | 1, hq => cases hq; exact h1
  | 2, hq => cases hq; exact h2
  | 3, hq => cases hq; exact h3
  | 4, hq => cases hq; exact h4
  | 5, hq => cases hq; exact h5
  | 6, hq => cases hq; exact h6
  | 7, hq => cases hq; exact h7
  | 8, hq => cases hq; exact h8
  | 9, hq => cases hq; exact h9
  | 10, hq => cases hq; exact h10
  | 11, hq => cases hq; exact h11
  | 12, hq => cases hq; exact h12
  | k + 13, hq => simp [zCL] at hq
theorem st_tys (hts0 : ∀ w ∈ lw_tbl, w.before args s = true) (hts : ∀ w ∈ zWS, w.before args s = true) : ∃ cI : Nat → ClassId, ∀ (k : Nat) (q : ClassId × FieldType), ([(cI 0, .int), (cI 1, .long), (cI 2, .byte), (cI 3, .boolean), (cI 4, .object "ProperFollow$Day"), (cI 5, .object "ProperFollow$Kept")] : List (ClassId × FieldType))[k]? = some q → ArrOfT s q.1 q.2 ∧ va_RA s q.1 q.2 := by
  obtain ⟨c0, a0, b0⟩ := st_arr (hts _ wA0)
  obtain ⟨c1, a1, b1⟩ := st_arr (hts _ wA1)
  obtain ⟨c2, a2, b2⟩ := st_arr (hts _ wA2)
  obtain ⟨c3, a3, b3⟩ := st_arr (hts _ wA3)
  obtain ⟨c4, a4, b4⟩ := st_arrO (hts0 _ aoD)
  obtain ⟨c5, a5, b5⟩ := st_arrO (hts0 _ aoK)
  refine ⟨fun k => ([c0, c1, c2, c3, c4, c5] : List ClassId).getD k c0, fun k q hq => ?_⟩
  match k, hq with
  | 0, hq => cases hq; exact ⟨a0, b0⟩
  | 1, hq => cases hq; exact ⟨a1, b1⟩
  | 2, hq => cases hq; exact ⟨a2, b2⟩
  | 3, hq => cases hq; exact ⟨a3, b3⟩
  | 4, hq => cases hq; exact ⟨a4, b4⟩
  | 5, hq => cases hq; exact ⟨a5, b5⟩
  | k + 6, hq => simp at hq
theorem st_all (l : Launch) (hts0 : ∀ w ∈ lw_tbl, w.before args s = true) (hgv : (Jvm.Cond.and given_1 narrow_1).before args s = true) :
    ∃ g : yG, g.1 = l ∧ va_K g.2.2.1 zCL (ytys g) s ∧ yE g (fun q => s.heap.size ≤ q) s ∧ vx_Zq Bundle.tN "UNASSIGNED_STACK" Bundle.steD (fun q => s.heap.size ≤ q) s s.heap ∧ vx_Zq Bundle.tN "SUPPRESSED_SENTINEL" Bundle.listD (fun q => s.heap.size ≤ q) s s.heap ∧ (∀ x ∈ xDC, va_Nw (.declares x) s) ∧ va_Nw (.castable "java/util/NoSuchElementException" "java/util/NoSuchElementException") s := by
  have hts : ∀ w ∈ zWS, w.before args s = true := fun w hw => hts0 w (List.mem_filter.mp hw).1
  have hn : ∀ w ∈ zNF, w.before args s = true := flat_of_before _ hgv
  have hA : ∀ a : Nat, a < s.heap.size → ¬ (fun q : Nat => s.heap.size ≤ q) a := fun a h => Nat.not_le.mpr h
  obtain ⟨D, hD⟩ := st_cls hts
  obtain ⟨cI, hI⟩ := st_tys hts0 hts
  obtain ⟨adK, adV, hS, hT⟩ := vk_Sof (args := args) (s := s) (N := 7) (tm := zTM) (len := zSL) (byt := zSB) (A := fun q => s.heap.size ≤ q) nf_len (fun i hi => hn _ (nf_ex i hi)) (fun i hi => hn _ (nf_co i hi)) (fun i hi => hn _ (nf_ar i hi)) (fun i hi => hn _ (nf_le i hi)) (fun i hi j hj => hn _ (nf_el i hi j hj)) (fun i j hi hj h => (nf_ne i j hi hj h).elim (fun h => Or.inl (hn _ h)) (fun h => Or.inr (hn _ h))) hA
  have hR : ∀ q ∈ zSC, vk_R q.1 q.2.1 q.2.2.1 (adK q.2.2.2) s := List.forall_mem_cons.mpr ⟨vk_R.of (hts0 _ srW_0) (hT 0 (by decide)), List.forall_mem_cons.mpr ⟨vk_R.of (hts0 _ srW_1) (hT 1 (by decide)), List.forall_mem_cons.mpr ⟨vk_R.of (hts0 _ srW_2) (hT 2 (by decide)), List.forall_mem_cons.mpr ⟨vk_R.of (hts0 _ srW_3) (hT 3 (by decide)), List.forall_mem_cons.mpr ⟨vk_R.of (hts0 _ srW_4) (hT 4 (by decide)), List.forall_mem_cons.mpr ⟨vk_R.of (hts0 _ srW_5) (hT 5 (by decide)), List.forall_mem_cons.mpr ⟨vk_R.of (hts0 _ srW_6) (hT 6 (by decide)), fun _ h => absurd h List.not_mem_nil⟩⟩⟩⟩⟩⟩⟩
  have hU := vx_Zqof (A := fun q => s.heap.size ≤ q) (hts0 _ lsW_us) (hts0 _ inW_T) (hn _ nf_us) hA
  have hN := vx_Zqof (A := fun q => s.heap.size ≤ q) (hts0 _ lsW_ss) (hts0 _ inW_T) (hn _ nf_ss) hA
  have hF := va_Zqof (A := fun q => s.heap.size ≤ q) (hts0 _ lsW_sf) (hts0 _ inW_P) (hn _ nf_sf) hA
  refine ⟨(l, cI, D, adK, adV), rfl, ⟨hD, hI⟩, ⟨fun q hq => va_Nw.of rfl (hts0 _ (zNW_in q hq)), hS, hR, va_Zof (hts0 _ lsW_cs) (hts0 _ inW_S) (va_eqt (hn _ nf_cs)) hA, ?_, va_AO.of (hts0 _ aoD), va_AO.of (hts0 _ aoK)⟩, hU, hN, ?_, va_Nw.of rfl (hts0 _ caW)⟩
  · exact List.forall_mem_cons.mpr ⟨hF, List.forall_mem_cons.mpr ⟨hU.1, List.forall_mem_cons.mpr ⟨hN.1, fun _ h => absurd h List.not_mem_nil⟩⟩⟩
  · exact List.forall_mem_cons.mpr ⟨va_Nw.of rfl (hts0 _ dcW_0), List.forall_mem_cons.mpr ⟨va_Nw.of rfl (hts0 _ dcW_1), List.forall_mem_cons.mpr ⟨va_Nw.of rfl (hts0 _ dcW_2), fun _ h => absurd h List.not_mem_nil⟩⟩⟩
end ST
section WI
variable {g : yG} {A : Nat → Prop} {p : Program} {e : Env} {R : Room} {s : State} {m : MethodId} {args : Array Value} {below : List Frame} {meth : Method} {c : Code} {H : Heap} {locs : List Loc} {ls : Array Slot} {Z : State → Prop} {cc : ByteArray} {nL kc ks d' mc' ms' idx b pc : Nat} {own : String} {z : zY} {ws wc wr : va_W} {rest : List Value} {Q' : Option Value → va_W → Prop}
/-- a constructor called from a frame whose end is any -/
theorem wj_I (hx : p.tables.exec = Jvm.exec) (hb : c.code = cc) (hml : c.maxLocals = nL) (hown : s.vm.findClass own = some m.cls) (hts : ∀ w ∈ zWS, w.before args s = true) (hK0 : va_K g.2.2.1 zCL (ytys g) s) (hE : yE g A s) (hA : ∀ q, s.heap.size ≤ q → A q) (hP : va_P g.2.2.1 zCL ws H) (hD : va_D A ws) (hS : va_S A s.heap H locs) (hl : ls.size = nL)
    (hdg : decode cc pc = .ok (.invokespecial idx, 3)) (hlk : Cond.methodLink own idx z.1 ∈ zWS) (hz : zlk z 0) (hi : Cond.instanceMethod z.1 ∈ zWS) (hret : z.2.2.2 = none) (hname : z.1.name = "<init>") (hcat : (rest.map fun v => v.category).sum ≤ 8) (hd : d' + 1 ≤ R.frames) (hd2 : 64 + 64 * d' ≤ R.locals) (hc : kc + mc' ≤ R.cells) (hs : ks + ms' ≤ R.slots)
    (isC isR : List Nat) (hC : isC.map (fun i => ws[i]?) = wc.map some) (hnC : va_nd isC = true) (hR : isR.map (fun i => ws[i]?) = wr.map some) (hnd : va_nd isR = true) (hdis : ∀ i ∈ isR, i ∉ isC)
    (hK : yK g d' mc' ms' z [.ref b] wc Q') (hv : ∀ v w1, Q' v w1 → v = none)
    (k : ∀ (w1 : va_W) (H1 : Heap) (locs1 : List Loc), Q' none w1 → va_P g.2.2.1 zCL (wr ++ w1) H1 → va_D A (wr ++ w1) → va_S A s.heap H1 locs1 → W p g.1 e R s m args below meth c H1 locs1 (kc + mc') (ks + ms') Z (F0 m (pc + 3) ls rest)) : W p g.1 e R s m args below meth c H locs kc ks Z (F0 m pc ls (.ref b :: rest)) := by
  have hFc := va_free (wc := wc) hD hS hA isC hC
  have hin : ∀ U : State, U.heap = H → s.WarmedH U.vm → yIn g wc H.size U := by
    intro U hU hWm
    refine ⟨by rw [hU], ?_, ?_, va_K.moved hWm.alike hK0, yE_to (locs := locs) hE (by rw [hU]; exact hS) hWm hFc⟩
    · rw [hU]
      intro j q hq
      have h1 : (isC.map (fun i => ws[i]?))[j]? = some (some q) := by rw [hC, List.getElem?_map, hq]; rfl
      rw [List.getElem?_map] at h1
      cases hi : isC[j]? with
      | none => rw [hi] at h1; cases h1
      | some i => rw [hi] at h1; exact hP i q (Option.some.inj h1)
    · exact (hD.sub isC hnC hC).weaken (fun _ _ _ _ => trivial)
  obtain ⟨w1, w2, w3, w4, w5, w6⟩ := hz
  have hr : va_Run p g.1 e R s m args below meth c H locs kc ks mc' ms' (F0 m pc ls (.ref b :: rest)) rest (yQ g (va_A wc H.size) Q' [Value.ref b].toArray) (va_A wc H.size) :=
    va_runI (As := []) (rest := rest) (n := 0) (cc := cc) (nL := nL) (Ts := zWS) (own := own) ⟨hx, hb, hml, hown, hts⟩ (hK H.size)
      ⟨callB_of 0 hts (zwsM_good w2) (by rw [zwsM, hret]) rfl rfl (hts _ w1) (hts _ hlk) ⟨w3, w4, w5⟩ ⟨hd, by show 8 + (z.2.2.1 + 11) + 64 * d' ≤ R.locals; omega⟩, hname, hts _ hi⟩
      ⟨yIn_blind, fun U hU hWm => ⟨rfl, hin U hU hWm⟩⟩ rfl rfl hl rfl (lv_room hcat) hdg ⟨hc, hs⟩
  intro T hT X
  obtain ⟨v, st₀, t, T', L1, h0, X', hL, e1, e2, ⟨⟨v', w1, hv1, hq, hP1, hD1⟩, hz, hk⟩, hst⟩ := hr T hT X
  cases hv1
  cases hv v w1 hq
  rw [h0] at hz hk
  obtain ⟨hP2, hD2⟩ := va_join hP hD isC isR hC hR hnd hdis hk hFc hP1 hD1
  obtain ⟨t2, a1, b1⟩ := k w1 T'.heap (locs ++ L1) hq (by rw [e1]; exact hP2) hD2 ⟨Nat.le_trans hS.1 (by rw [e1]; exact hz), fun q h1 h2 => by
      rw [e1, hk q (Nat.lt_of_lt_of_le h1 hS.1) (fun z => h2 (hFc q z))]
      exact hS.2.1 q h1 h2, fun q hq => by
      rcases List.mem_append.mp hq with h | h
      · exact hS.2.2 q h
      · exact hFc _ (hL q h)⟩ T' rfl X'
  exact ⟨t2, hst t2 a1, b1⟩
end WI
