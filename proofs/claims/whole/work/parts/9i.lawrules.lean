/-! ===== the law: rules of its walk ===== -/
section GW
variable {Γ : zG} {S : gS} {kc ks : Nat} {pc pc' : Nat} {L L' : List (Nat × Value)} {rest st As : List Value} {M : zM} {z : zY} {b Ln : Nat} {xs : Nat → Int32}
theorem gj_sld (C : gC Γ S) (hX : va_X b Ln xs S.s S.s.heap) (hbl : b < S.s.heap.size) (hbA : ¬ S.A b) {i : Int32} (hin : vp_in i Ln) (hdg : decode S.cc pc = .ok (.iaload, 1)) (hp : pc + 1 = pc') (k : gR Γ S pc' L (.int (xs i.toNatClampNeg) :: rest) M kc ks) : gR Γ S pc L (.int i :: .ref b :: rest) M kc ks := by
  subst hp
  intro H locs ls hW hl
  exact va_sld C.1 C.2.1 hX hbl hbA hW.2.2 hin hdg (k H locs ls hW hl)
theorem gj_slen (C : gC Γ S) (hX : va_X b Ln xs S.s S.s.heap) (hbl : b < S.s.heap.size) (hbA : ¬ S.A b) (hdg : decode S.cc pc = .ok (.arraylength, 1)) (hp : pc + 1 = pc') (k : gR Γ S pc' L (.int (nI Ln) :: rest) M kc ks) : gR Γ S pc L (.ref b :: rest) M kc ks := by
  subst hp
  intro H locs ls hW hl
  exact va_slen C.1 C.2.1 hX hbl hbA hW.2.2 hdg (k H locs ls hW hl)
theorem gj_arg (C : gC Γ S) (hX : va_X b Ln xs S.s S.s.heap) (hbl : b < S.s.heap.size) (hbA : ¬ S.A b) (p0 p4 : Nat) {i k : Nat} {n : Int} (d0 : decode S.cc pc = .ok (.aload_n 0, 1)) (d1 : decode S.cc (pc + 1) = .ok (.iload 4, 2)) (d3 : decode S.cc (pc + 3) = .ok (.iconst n, 1)) (d4 : decode S.cc (pc + 4) = .ok (.iadd, 1)) (d5 : decode S.cc (pc + 5) = .ok (.iaload, 1))
    (hk0 : L[p0]? = some (0, .ref b)) (hk4 : L[p4]? = some (4, .int (nI i))) (hn : Int32.ofInt n = nI k) (hik : i + k < Ln) (hLn : Ln ≤ 3072) (hp : pc + 6 = pc') (kk : gR Γ S pc' L (.int (xs (i + k)) :: rest) M kc ks) : gR Γ S pc L rest M kc ks := by
  subst hp
  refine gj_aload_n C p0 d0 rfl rfl hk0 ?_
  refine gj_iload C p4 d1 rfl hk4 ?_
  refine gj_iconst C d3 rfl hn ?_
  refine gj_iadd C d4 rfl ?_
  rw [nI_add]
  refine gj_sld C hX hbl hbA (zin_in (by unfold zin; rw [nI_clamp (by omega), decide_eq_true (nI_pos' (by omega)), decide_eq_true hik]; rfl)) d5 rfl ?_
  rw [nI_clamp (by omega)]
  exact kk
theorem gj_SW {d' idx n : Nat} {hh : List (Nat × Nat × Nat × Nat)} {Q' : Option Value → zM → Prop} (C : gC Γ S)
    (hdg : decode S.cc pc = .ok (.invokestatic idx, 3)) (hp : pc + 3 = pc') (hlk : Cond.methodLink S.own idx z.1 ∈ zWS) (hstt : Cond.static z.1 ∈ zWS) (hini : Cond.initialized z.1.cls ∈ zWS) (hcw : Cond.codeWith z.1 z.2.1 z.2.2.1 z.2.2.2 hh ∈ zWS) (hy : z.1.cls ≠ "java/lang/invoke/MethodHandle" ∧ z.1.cls ≠ "java/lang/invoke/VarHandle") (hds : (parseMethodDescriptor z.1.desc).map (fun d => d.parameters.length) = some n) (hml : z.2.2.1 ≤ 45)
    (hst : st = As.reverse ++ rest) (hn : As.length = n) (hcat : (rest.map fun v => v.category).sum ≤ 8) (hd : d' + 1 ≤ S.R.frames) (hd2 : 64 + 64 * d' ≤ S.R.locals) (hr : kc + 1 ≤ S.R.cells ∧ ks + 6 ≤ S.R.slots)
    (hK : lK Γ d' z hh As M Q') (k : ∀ v N, Q' v N → gR Γ S pc' L (v.toList ++ rest) N (kc + 1) (ks + 6)) : gR Γ S pc L st M kc ks := by
  subst hp
  intro H locs ls hW hl
  obtain ⟨hx, hb, hm9, hown, hts, hK1, hE⟩ := id C
  have hG : GoodIn zWS (lwsM z hh) := fun w hw => by
    rcases List.mem_cons.mp hw with e | hw
    · rw [e]; exact zWS_good _ hcw
    · exact zWS_good w hw
  have hrun : va_Run S.p Γ.1 S.e S.R S.s S.m S.args S.below S.meth S.c H locs kc ks 1 6 (F0 S.m pc ls st) rest (zQ Γ Q' As.toArray) (zA Γ) :=
    vx_runSW (As := As) (rest := rest) (n := n) (cc := S.cc) (nL := S.nL) (Ts := zWS) (own := S.own) (hh := hh) (bytes := z.2.1) (maxL := z.2.2.1) (ret := z.2.2.2) ⟨hx, hb, hm9, hown, hts⟩ hK
      ⟨⟨rfl, rfl, hd, by show 8 + (z.2.2.1 + 11) + 64 * d' ≤ S.R.locals; omega, pay_in hts hG, List.mem_cons_self⟩, hts _ hcw, hts _ hini, hy, fun sig h => by rw [h] at hds; exact (Option.some.inj hds).symm, hts _ hlk, hts _ hstt⟩
      ⟨xIn_blind, fun U hU hWm => ⟨rfl, gxIn C hW hU hWm⟩⟩ rfl hn hl.1 hst (lv_room hcat) hdg hr
  intro T0 hT X
  obtain ⟨v, st₀, t, T', L1, h0, X', hL, e1, e2, ⟨⟨v', N, hv, hq, hP⟩, hF⟩, hst⟩ := hrun T0 hT X
  cases hv
  obtain ⟨t2, a1, b1⟩ := k v N hq T'.heap (locs ++ L1) ls (gBack C hW h0 e1 hP hF hL) hl T' rfl X'
  exact ⟨t2, hst t2 a1, b1⟩
end GW
/-- the law's own frame -/
abbrev lwS (p : Program) (e : Env) (s : State) (m : MethodId) (below : List Frame) (meth : Method) (c : Code) (b : Nat) : gS := gSmk (p := p) (e := e) (s := s) (m := m) (args := #[Value.ref b]) (below := below) (meth := meth) (c := c) (R := room_1) (Z := lw_Z below #[Value.ref b] s) (A := fun q => s.heap.size ≤ q) (cc := code) (nL := 7) (own := "ProperFollowLaw")
def lwL (Γ : zG) (b i : Nat) : List (Nat × Value) := [(4, .int (nI i)), (0, .ref b), (1, .ref (zad Γ 0)), (2, .ref (zad Γ 186)), (3, .ref (zad Γ 207))]
def lwN (Γ : zG) (S : gS) (b i kc ks : Nat) : Prop := ∀ N, Inv N → gR Γ S 1350 (lwL Γ b i) [] N kc ks
