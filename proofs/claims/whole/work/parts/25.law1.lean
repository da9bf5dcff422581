def xS (Γ : zG) (d : Nat) (y : zY) (M : zM) (p : Program) (e : Env) (s : State) (m : MethodId) (args : Array Value) (below : List Frame) (meth : Method) (c : Code) : gS := (gSmk (p := p) (e := e) (s := s) (m := m) (args := args) (below := below) (meth := meth) (c := c) (R := xrm d) (Z := vx_MQ below (fun _ _ _ _ => False) (xXC Γ M) args s 1 6 (zA Γ)) (A := zA Γ) (cc := y.2.1) (nL := y.2.2.1) (own := y.1.cls))
theorem xK_of {Γ : zG} {d : Nat} {y : zY} {av : List Value} {M : zM} (hy : plainName y.1.cls = true) (hl : (lg_sl av).length ≤ y.2.2.1) (h : ∀ p e s m args below meth c, gC Γ (xS Γ d y M p e s m args below meth c) → (∀ x ∈ c.exceptionTable.toList, False) → meth.locks = false → gR Γ (xS Γ d y M p e s m args below meth c) 0 (lv_args 0 av) [] M 0 0) : xK Γ d y av M := by
  refine vx_ofW (cc := y.2.1) (maxL := y.2.2.1) (ret := y.2.2.2) hy rfl ?_
  intro p e s m args below meth c s₁ B hml hno hv
  obtain ⟨rfl, ⟨hP, hD, hK, hE⟩, hX⟩ := hv
  have hts := atoms_spec (ws := zwsM y) B.pre
  rw [lg_entry_eq]
  exact h p e s m _ below meth c ⟨B.exec, B.bytes, hml, findClass_of_methodNamed B.named, fun w hw => hts w (List.mem_cons_of_mem _ hw), hK, hE, hX, fun _ h => h, fun _ _ h => h⟩ hno B.notSynchronized s.heap [] _ ⟨hP, hD, va_S.rf⟩ (lv_entry av hl)
def zxL : List Cond := (zx_own "ProperFollow" 163 "java/util/NoSuchElementException" 13 prog_30_method_4_code "java/lang/RuntimeException" ["java/lang/Exception"]).filter vx_no
theorem zxL_in : zxL.filter goodWord = [135, 1418, 1427, 1429, 1432, 1434, 1419, 1420, 146, 147, 1421, 1426, 1430, 1450, 1408, 1451, 1410, 1452, 1412, 1422, 1424, 1414, 1446, 1447, 1449, 1414, 1437, 1438, 1439, 1440, 1440, 1441, 1442, 1443, 1443, 1444, 1445, 1446, 1436, 1397, 1405, 1406, 1407, 1409, 1411, 1413, 1417, 1416, 1415].filterMap (fun i => lw_tbl[i]?) := by decide +kernel
theorem zxL_dc : (zxL.filter (fun w => !goodWord w)).all (fun w => decide (w ∈ xDC.map Cond.declares)) = true := by decide +kernel
theorem zxL_ot0 : (Cond.classLink "ProperFollow" 159 "java/util/NoSuchElementException" :: Cond.initialized "java/util/NoSuchElementException" :: zxL).all vx_ot = true := by decide +kernel
theorem zxL_ot : ∀ w ∈ Cond.classLink "ProperFollow" 159 "java/util/NoSuchElementException" :: Cond.initialized "java/util/NoSuchElementException" :: (zx_own "ProperFollow" 163 "java/util/NoSuchElementException" 13 prog_30_method_4_code "java/lang/RuntimeException" ["java/lang/Exception"]).filter vx_no, vx_ot w = true := List.all_eq_true.mp zxL_ot0
theorem zx_f0 : Bundle.fit "java/util/NoSuchElementException" = true := by decide +kernel
theorem zx_f1 : ∀ n ∈ ["java/lang/RuntimeException", "java/lang/Exception"], Bundle.fit n = true := by decide +kernel
theorem zx_cl : Cond.classLink "ProperFollow" 159 "java/util/NoSuchElementException" ∈ zWS := by decide +kernel
theorem zx_ini : Cond.initialized "java/util/NoSuchElementException" ∈ zWS := by decide +kernel
theorem zx_r0 : decode prog_30_method_4_code 0 = .ok (.aload_n 0, 1) := by decide +kernel
theorem zx_r1 : decode prog_30_method_4_code 1 = .ok (.aload_n 1, 1) := by decide +kernel
theorem zx_r2 : decode prog_30_method_4_code 2 = .ok (.invokespecial 13, 3) := by decide +kernel
theorem zx_r5 : decode prog_30_method_4_code 5 = .ok (.return_, 1) := by decide +kernel
theorem zxL_at {Γ : zG} {S : gS} (C : gC Γ S) : ∀ w ∈ (zx_own "ProperFollow" 163 "java/util/NoSuchElementException" 13 prog_30_method_4_code "java/lang/RuntimeException" ["java/lang/Exception"]).filter vx_no, w.before S.args S.s = true := by
  show ∀ w ∈ zxL, w.before S.args S.s = true
  refine vx_hat (B := xDC.map Cond.declares) (fun w hw => ?_) (fun w hw => of_decide_eq_true (List.all_eq_true.mp zxL_dc w hw)) (fun w hw => ?_)
  · have hg : goodWord w = true := (List.mem_filter.mp hw).2
    rw [zxL_in] at hw
    obtain ⟨i, -, hi⟩ := List.mem_filterMap.mp hw
    exact C.2.2.2.2.1 w (List.mem_filter.mpr ⟨List.mem_of_getElem? hi, hg⟩)
  · obtain ⟨x, hx, rfl⟩ := List.mem_map.mp hw
    exact (C.2.2.2.2.2.2.2.1.2.2.1 x hx).use rfl
section GX
variable {Γ : zG} {d : Nat} {y : zY} {M : zM} {p : Program} {e : Env} {s : State} {m : MethodId} {args : Array Value} {below : List Frame} {meth : Method} {c : Code} {pc : Nat} {L : List (Nat × Value)} {rest : List Value}
theorem gx_end {H : Heap} {locs : List Loc} (hW : gW Γ (xS Γ d y M p e s m args below meth c) H locs M) : ∀ t : State, s.vm.Alike t.vm → H.size ≤ t.heap.size → (∀ q : Nat, q < H.size → t.heap[q]? = H[q]?) → xXC Γ M "java/util/NoSuchElementException" s t := by
  intro t _ hz hq
  obtain ⟨hP, hD, hS⟩ := hW
  refine ⟨rfl, ?_, Nat.le_trans hS.1 hz, fun q h1 h2 => by rw [hq q (Nat.lt_of_lt_of_le h1 hS.1)]; exact hS.2.1 q h1 h2⟩
  exact hP.kept (fun k q hk => hq q.1 (vx_lt hP hk))
theorem gj_throwS {is sa : Nat} {text : String} (C : gC Γ (xS Γ d y M p e s m args below meth c)) (hno : ∀ x ∈ c.exceptionTable.toList, False) (hlo : meth.locks = false) (hst : Γ.1.stackTraces = false) (hy : y.1.cls = "ProperFollow") (hstr : (y.1.cls, is, text, sa) ∈ zSC) (hd : 6 ≤ d) (hcat : (rest.map fun v => v.category).sum ≤ 8)
    (d0 : decode y.2.1 pc = .ok (.new 159, 3)) (d3 : decode y.2.1 (pc + 3) = .ok (.dup, 1)) (d4 : decode y.2.1 (pc + 4) = .ok (.ldc is, 2)) (d6 : decode y.2.1 (pc + 6) = .ok (.invokespecial 163, 3)) (d9 : decode y.2.1 (pc + 9) = .ok (.athrow, 1)) : gR Γ (xS Γ d y M p e s m args below meth c) pc L rest M 0 0 := by
  obtain ⟨⟨cl, nm, ds⟩, cc, ml, rt⟩ := y
  dsimp only at hy hstr d0 d3 d4 d6 d9
  subst hy
  intro H locs ls hW hl
  have hat := zxL_at C
  obtain ⟨hx, hb, hml, hown, hts, hK1, hE, hX, hA⟩ := id C
  have hs : vk_R "ProperFollow" is text (Γ.2.2.2.2.1 sa) s := hE.2.2.1 ("ProperFollow", is, text, sa) hstr
  exact zx_throwS (cc := cc) (own := "ProperFollow") (cls := "java/util/NoSuchElementException") (Yn := "java/lang/RuntimeException") (r := ["java/lang/Exception"]) (ic := 163) (ix := 13) (A := zA Γ) hx hb hst zx_r0 zx_r1 zx_r2 zx_r5 hown zx_f0 zx_f1 (hts _ zx_cl) (hts _ zx_ini) hs hat zxL_ot hX.1 hX.2.1 hW.2.2 (hl.1.trans hml.symm) d0 d3 d4 d6 d9 (fun x h => (hno x h).elim) (by show 2 + 3 < d; omega) (by show (rest.map fun v => v.category).sum + (13 * (2 + 1) + 43) ≤ 64 * d; omega) (Nat.le_refl _) (Nat.le_refl _) hlo (gx_end hW) hW.2.2.2.2 (Nat.le_refl _) (Nat.le_refl _)
theorem gj_throwSW {is sa : Nat} {text : String} (C : gC Γ (xS Γ d y M p e s m args below meth c)) (hno : ∀ x ∈ c.exceptionTable.toList, False) (hlo : meth.locks = false) (hst : Γ.1.stackTraces = false) (hy : y.1.cls = "ProperFollow") (hstr : (y.1.cls, is, text, sa) ∈ zSC) (hd : 6 ≤ d) (hcat : (rest.map fun v => v.category).sum ≤ 8)
    (d0 : decode y.2.1 pc = .ok (.new 159, 3)) (d3 : decode y.2.1 (pc + 3) = .ok (.dup, 1)) (d4 : decode y.2.1 (pc + 4) = .ok (.ldc_w is, 3)) (d6 : decode y.2.1 (pc + 7) = .ok (.invokespecial 163, 3)) (d9 : decode y.2.1 (pc + 10) = .ok (.athrow, 1)) : gR Γ (xS Γ d y M p e s m args below meth c) pc L rest M 0 0 := by
  obtain ⟨⟨cl, nm, ds⟩, cc, ml, rt⟩ := y
  dsimp only at hy hstr d0 d3 d4 d6 d9
  subst hy
  intro H locs ls hW hl
  have hat := zxL_at C
  obtain ⟨hx, hb, hml, hown, hts, hK1, hE, hX, hA⟩ := id C
  have hs : vk_R "ProperFollow" is text (Γ.2.2.2.2.1 sa) s := hE.2.2.1 ("ProperFollow", is, text, sa) hstr
  exact zx_throwSW (cc := cc) (own := "ProperFollow") (cls := "java/util/NoSuchElementException") (Yn := "java/lang/RuntimeException") (r := ["java/lang/Exception"]) (ic := 163) (ix := 13) (A := zA Γ) hx hb hst zx_r0 zx_r1 zx_r2 zx_r5 hown zx_f0 zx_f1 (hts _ zx_cl) (hts _ zx_ini) hs hat zxL_ot hX.1 hX.2.1 hW.2.2 (hl.1.trans hml.symm) d0 d3 d4 d6 d9 (fun x h => (hno x h).elim) (by show 2 + 3 < d; omega) (by show (rest.map fun v => v.category).sum + (13 * (2 + 1) + 43) ≤ 64 * d; omega) (Nat.le_refl _) (Nat.le_refl _) hlo (gx_end hW) hW.2.2.2.2 (Nat.le_refl _) (Nat.le_refl _)
end GX
