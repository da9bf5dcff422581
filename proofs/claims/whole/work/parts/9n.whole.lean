/-! ===== the whole: from the law's entry to its end ===== -/
theorem l_range {α : Type} {X : List α} {y : α} : (List.range X.length).map (fun i => (X ++ [y])[i]?) = X.map some := by
  apply List.ext_getElem?
  intro i
  rw [List.getElem?_map, List.getElem?_map]
  by_cases h : i < X.length
  · rw [List.getElem?_range h, Option.map_some, List.getElem?_append_left h, List.getElem?_eq_getElem h]; rfl
  · rw [List.getElem?_eq_none (by rw [List.length_range]; omega), List.getElem?_eq_none (by omega)]; rfl
theorem nd_186 : va_nd (List.range 186) = true := by decide +kernel
theorem st_flags {l : Launch} (h : l.flags = flags0) : l.stackTraces = false := by
  unfold Launch.stackTraces
  rw [h]; decide
def wLx (g : yG) (a : Nat → Nat) : va_W := (wSa g a ++ wSc g a) ++ wSb g a
set_option maxRecDepth 100000 in
theorem wLx_len (g : yG) (a : Nat → Nat) : (wLx g a).length = 186 := rfl
theorem zA_in {Γ : zG} {A : Nat → Prop} {M : zM} (hD : va_D A (zws Γ M)) : ∀ q, zA Γ q → A q := fun q hq => by
  obtain ⟨i, hi, rfl⟩ := hq
  exact hD.2 i (zad Γ i, zent Γ M i zSH[i]) (zws_at (List.getElem?_eq_getElem hi))
set_option maxHeartbeats 4000000 in
theorem whole_start {p : Program} {e : Env} {s : State} {m : MethodId} {below : List Frame} {meth : Method} {c : Code} (l : Launch) (hflags : l.flags = flags0) {b L : Nat} {xs : Nat → Int32} (hL : L ≤ 3072) (C0 : lw_At p s m meth c b L xs) : W p l e room_1 s m #[Value.ref b] below meth c s.heap [] 0 0 (lw_Z below #[Value.ref b] s) (entryFrame m ([Value.ref b] : List Value).toArray 7) := by
  obtain ⟨hx, hb, hr, hml, hown, hts0, hX, hbl, hlocks, hgv⟩ := id C0
  have hown : s.vm.findClass "ProperFollowLaw" = some m.cls := hown
  have hts : ∀ w ∈ zWS, w.before #[Value.ref b] s = true := fun w hw => hts0 w (List.mem_filter.mp hw).1
  have hst := st_flags hflags
  obtain ⟨g, rfl, hK, hE, hU, hN, hDc, hCa⟩ := st_all l hts0 hgv
  have hA : ∀ q : Nat, s.heap.size ≤ q → (fun q : Nat => s.heap.size ≤ q) q := fun _ h => h
  have hbA : ¬ (s.heap.size ≤ b) := Nat.not_le.mpr hbl
  have hP : va_P g.2.2.1 zCL [] s.heap := fun k q h => by simp at h
  have hD : va_D (fun q : Nat => s.heap.size ≤ q) [] := ⟨fun i j p q h => by simp at h, fun k q h => by simp at h⟩
  have hS : va_S (fun q : Nat => s.heap.size ≤ q) s.heap s.heap [] := va_S.rf
  have hl := lv_entry ([.ref b]) (n := 7) (Nat.le_of_ble_eq_true rfl)
  rw [lg_entry_eq]
  generalize (lg_sl ([.ref b]) ++ List.replicate (7 - (lg_sl ([.ref b])).length) Slot.unset).toArray = ls at hl ⊢
  have hl : lv_has ls 7 [(0, .ref b)] := hl
  refine va_new (ci := 11) (fs := [.null, .null, .null, .null, .null, .null, .null, .null, .null, .null, .null, .null, .null, .null, .null, .int 0, .int 0, .int 0, .int 0, .int 0]) (C := kR11) (T := kT11) (N := 20) hx hb hts ki11 kt11 kk11 hown (hts _ clW_8) (hts _ wsX11) (hts _ wi_X11) hK hP hD hS hA rfl df11 (Nat.le_of_ble_eq_true rfl) (Nat.le_of_ble_eq_true rfl) dW_0 (fun q0 H hP hD hS => ?_)
  have hP : va_P g.2.2.1 zCL [(q0, .inr (11, [.null, .null, .null, .null, .null, .null, .null, .null, .null, .null, .null, .null, .null, .null, .null, .int 0, .int 0, .int 0, .int 0, .int 0]))] H := hP
  have hD : va_D (fun q : Nat => s.heap.size ≤ q) [(q0, .inr (11, [.null, .null, .null, .null, .null, .null, .null, .null, .null, .null, .null, .null, .null, .null, .null, .int 0, .int 0, .int 0, .int 0, .int 0]))] := hD
  refine lv_dup hx hb dW_3 rfl ?_
  refine wj_I (z := YX11_init) (own := "ProperFollowLaw") (wc := [(q0, .inr (11, [.null, .null, .null, .null, .null, .null, .null, .null, .null, .null, .null, .null, .null, .null, .null, .int 0, .int 0, .int 0, .int 0, .int 0]))]) (wr := []) hx hb hml hown hts hK hE hA hP hD hS hl.1 dW_4 mlW_19 lcWX11 imWX11 rfl rfl (Nat.le_of_ble_eq_true rfl) (Nat.le_of_ble_eq_true rfl) (Nat.le_of_ble_eq_true rfl) (Nat.le_of_ble_eq_true rfl) (Nat.le_of_ble_eq_true rfl) [0] [] rfl rfl rfl rfl (fun _ h => absurd h List.not_mem_nil) (cX11 g q0) (fun _ _ h => h.1) (fun w1 H1 locs1 hq hP hD hS => ?_)
  obtain ⟨-, a, ha, rfl⟩ := hq
  rw [List.nil_append, wX11_split] at hP hD
  have hP : va_P g.2.2.1 zCL (wLx g a) H1 := hP.swap
  have hD : va_D (fun q : Nat => s.heap.size ≤ q) (wLx g a) := hD.swap
  have hlen := wLx_len g a
  refine lv_astore_n (lv' := [(1, .ref q0), (0, .ref b)]) hx hb dW_7 rfl hl (by decide) rfl (fun ls hl => ?_)
  refine va_new (ci := 12) (fs := [.int 0, .null, .int 0, .int 0, .int 0, .int 0, .null, .null, .null, .null, .null, .int 0, .int 0, .int 0, .int 0, .int 0, .int 0, .long 0, .int 0, .int 0, .null, .null, .null, .null, .int 0, .int 0, .int 0, .int 0, .int 0, .null, .int 0, .int 0, .int 0, .null, .null, .int 0, .int 0, .null, .int 0, .int 0, .int 0, .null, .int 0, .null, .int 0, .int 0, .int 0, .int 0, .int 0, .null, .null, .null, .null]) (C := kR12) (T := kT12) (N := 53) hx hb hts ki12 kt12 kk12 hown (hts _ clW_20) (hts _ wsX12) (hts _ wi_X12) hK hP hD hS hA rfl df12 (Nat.le_of_ble_eq_true rfl) (Nat.le_of_ble_eq_true rfl) dW_8 (fun q1 H2 hP hD hS => ?_)
  refine lv_dup hx hb dW_11 rfl ?_
  refine wj_I (z := YX12_init) (own := "ProperFollowLaw") (wc := [(q1, .inr (12, [.int 0, .null, .int 0, .int 0, .int 0, .int 0, .null, .null, .null, .null, .null, .int 0, .int 0, .int 0, .int 0, .int 0, .int 0, .long 0, .int 0, .int 0, .null, .null, .null, .null, .int 0, .int 0, .int 0, .int 0, .int 0, .null, .int 0, .int 0, .int 0, .null, .null, .int 0, .int 0, .null, .int 0, .int 0, .int 0, .null, .int 0, .null, .int 0, .int 0, .int 0, .int 0, .int 0, .null, .null, .null, .null]))]) (wr := wLx g a) hx hb hml hown hts hK hE hA hP hD hS hl.1 dW_12 mlW_22 lcWX12 imWX12 rfl rfl (Nat.le_of_ble_eq_true rfl) (Nat.le_of_ble_eq_true rfl) (Nat.le_of_ble_eq_true rfl) (Nat.le_of_ble_eq_true rfl) (Nat.le_of_ble_eq_true rfl) [186] (List.range 186) ?_ rfl (by rw [← hlen]; exact l_range) nd_186 (fun i hi h => ?_) (cX12 g q1) (fun _ _ h => h.1) (fun w1 H3 locs3 hq hP hD hS => ?_)
  · show [(wLx g a ++ [(q1, _)])[186]?] = _
    rw [List.getElem?_append_right (by omega), hlen]; rfl
  · have := List.mem_range.mp hi
    have := List.mem_singleton.mp h
    omega
  obtain ⟨-, d, hd, rfl⟩ := hq
  refine lv_astore_n (lv' := [(2, .ref q1), (1, .ref q0), (0, .ref b)]) hx hb dW_15 rfl hl (by decide) rfl (fun ls hl => ?_)
  refine lv_iconst (v := 1) hx hb dW_16 (by decide) ?_
  refine va_newa (atype := .long) hx hb (hts _ wA1) rfl hK hP hD hS hA (a0 := (1, .inr (.inl (fun _ => 0)))) (fun _ => rfl) (by decide) rfl (by decide) (Nat.le_of_ble_eq_true rfl) (Nat.le_of_ble_eq_true rfl) dW_17 (fun q cA H4 hK4 hP hD hS => ?_)
  have e1 : va_RA s cA .long := (hK4.2 6 (cA, .long) rfl).2
  have e2 : va_RA s (g.2.1 1) .long := (hK.2 1 (g.2.1 1, .long) rfl).2
  have e3 : cA = g.2.1 1 := Option.some.inj (Eq.trans (Eq.symm e1) e2)
  subst e3
  have hws : (wLx g a ++ wX12 g d) ++ [(q, .inl (g.2.1 1, 1, .inr (.inl (fun _ => 0))))] = zws (zGm g a d q) zM0 := (wZ_eq g a d q).trans (zws_eq g a d q).symm
  rw [hws] at hP hD
  refine lv_astore_n (lv' := [(3, .ref q), (2, .ref q1), (1, .ref q0), (0, .ref b)]) hx hb dW_19 rfl hl (by decide) rfl (fun ls hl => ?_)
  refine lv_iconst (v := 0) hx hb dW_20 (by decide) ?_
  refine lv_istore (lv' := [(4, .int 0), (3, .ref q), (2, .ref q1), (1, .ref q0), (0, .ref b)]) hx hb dW_21 hl (by decide) rfl (fun ls hl => ?_)
  have hAi : ∀ q', zA (zGm g a d q) q' → s.heap.size ≤ q' := zA_in hD
  have C : gC (zGm g a d q) (lwS p e s m below meth c b) := ⟨hx, hb, hml, hown, hts, hK, ⟨hE.1, hE.2.1.narrow hAi, hE.2.2.1, hE.2.2.2.1.narrow hAi, fun q' hq' => (hE.2.2.2.2.1 q' hq').narrow hAi⟩, ⟨hU.narrow hAi, hN.narrow hAi, hDc, hCa⟩, hAi, fun q' h1 h2 => absurd h2 (Nat.not_le.mpr h1)⟩
  have W4 : gW (zGm g a d q) (lwS p e s m below meth c b) H4 _ zM0 := ⟨hP, hD, hS⟩
  subst ha
  subst hd
  exact law_loop C hst hlocks hr hX hbl hbA hL 514 0 _ _ zM0 (by omega) (by omega) (by decide) (by decide) Inv_0 H4 _ ls W4 (lv_sub hl [0, 4, 3, 2, 1] rfl)
