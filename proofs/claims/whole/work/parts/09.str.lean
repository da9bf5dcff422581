/-! string constants: rules, and String.length, charAt -/
section ZS
variable {Γ : zG} {d d' : Nat} {y z : zY} {pc pc' : Nat} {L L' : List (Nat × Value)} {rest st As : List Value} {M N N0 : zM} {Q : Option Value → zM → Prop} {x : Value}
theorem zj_ldcS {idx k : Nat} {tx : String} (hdg : decode y.2.1 pc = .ok (.ldc idx, 2)) (hp : pc + 2 = pc') (hc : (y.1.cls, idx, tx, k) ∈ zSC) (kk : zR Γ d y pc' L (.ref (Γ.2.2.2.2.1 k) :: rest) M Q) : zR Γ d y pc L rest M Q := by
  subst hp
  intro p e s m args below meth c H locs ls C hW hl
  exact va_ldcS C.1 C.2.1 C.2.2.2.2.2.1 (C.2.2.2.2.2.2.2.2.2.2.1 _ hc) hdg (kk p e s m args below meth c H locs ls C hW hl)
theorem zj_ldcwS {idx k : Nat} {tx : String} (hdg : decode y.2.1 pc = .ok (.ldc_w idx, 3)) (hp : pc + 3 = pc') (hc : (y.1.cls, idx, tx, k) ∈ zSC) (kk : zR Γ d y pc' L (.ref (Γ.2.2.2.2.1 k) :: rest) M Q) : zR Γ d y pc L rest M Q := by
  subst hp
  intro p e s m args below meth c H locs ls C hW hl T hT X
  obtain ⟨t, a1, b1⟩ := kk p e s m args below meth c H locs ls C hW hl T hT X
  have hZ := C.2.2.2.2.2.2.2.2.2.2.1 _ hc
  have hE : (Cond.stringRef y.1.cls idx tx).before args s = true := hZ.1
  have hE2 : (Term.string y.1.cls idx).eval args s none [] s = some (.ref (Γ.2.2.2.2.1 k)) := hZ.2
  exact ⟨t, X.ldcStringW C.1 C.2.2.2.2.2.1 (text := tx) hE hE2 (g := F0 m pc ls rest) rfl (by rw [C.2.1]; exact hdg) t a1, b1⟩
theorem zj_compact {idx : Nat} (hdg : decode y.2.1 pc = .ok (.getstatic idx, 3)) (hp : pc + 3 = pc') (hf : Cond.fieldLink y.1.cls idx "java/lang/String" "COMPACT_STRINGS" "Z" ∈ zWS) (kk : zR Γ d y pc' L (.int 1 :: rest) M Q) : zR Γ d y pc L rest M Q := by
  subst hp
  intro p e s m args below meth c H locs ls C hW hl
  exact va_gets C.1 C.2.1 C.2.2.2.2.2.2.2.2.2.2.2.1 hW.2.2 C.2.2.2.2.2.1 (C.2.2.2.2.2.2.1 _ hf) (fun _ h => h) hdg (kk p e s m args below meth c H locs ls C hW hl)
theorem zj_getsq {idx : Nat} {cn fn dn : String} (hdg : decode y.2.1 pc = .ok (.getstatic idx, 3)) (hp : pc + 3 = pc') (hf : Cond.fieldLink y.1.cls idx cn fn dn ∈ zWS) (hq : (cn, fn, dn) ∈ zST) (kk : ∀ v : Value, (v = .null ∨ ∃ t, v = .ref t) → zR Γ d y pc' L (v :: rest) M Q) : zR Γ d y pc L rest M Q := by
  subst hp
  intro p e s m args below meth c H locs ls C hW hl
  rcases C.2.2.2.2.2.2.2.2.2.2.2.2 _ hq with h | ⟨t, h⟩
  · exact va_gets C.1 C.2.1 h hW.2.2 C.2.2.2.2.2.1 (C.2.2.2.2.2.2.1 _ hf) (fun _ h => h) hdg (kk _ (Or.inl rfl) p e s m args below meth c H locs ls C hW hl)
  · exact va_gets C.1 C.2.1 h hW.2.2 C.2.2.2.2.2.1 (C.2.2.2.2.2.2.1 _ hf) (fun _ h => h) hdg (kk _ (Or.inr ⟨t, rfl⟩) p e s m args below meth c H locs ls C hW hl)
theorem zj_scoder {idx k : Nat} (hdg : decode y.2.1 pc = .ok (.getfield idx, 3)) (hp : pc + 3 = pc') (hf : Cond.fieldLink y.1.cls idx "java/lang/String" "coder" "B" ∈ zWS) (hk : k < 7) (kk : zR Γ d y pc' L (.int 0 :: rest) M Q) : zR Γ d y pc L (.ref (Γ.2.2.2.2.1 k) :: rest) M Q := by
  subst hp
  intro p e s m args below meth c H locs ls C hW hl
  exact vk_getf C.1 C.2.1 (C.2.2.2.2.2.2.2.2.2.1.1 k hk).2.1 hW.2.2 C.2.2.2.2.2.1 (C.2.2.2.2.2.2.1 _ hf) (fun _ h => h) hdg (kk p e s m args below meth c H locs ls C hW hl)
theorem zj_svalue {idx k : Nat} (hdg : decode y.2.1 pc = .ok (.getfield idx, 3)) (hp : pc + 3 = pc') (hf : Cond.fieldLink y.1.cls idx "java/lang/String" "value" "[B" ∈ zWS) (hk : k < 7) (kk : zR Γ d y pc' L (.ref (Γ.2.2.2.2.2 k) :: rest) M Q) : zR Γ d y pc L (.ref (Γ.2.2.2.2.1 k) :: rest) M Q := by
  subst hp
  intro p e s m args below meth c H locs ls C hW hl
  exact vk_getf C.1 C.2.1 (C.2.2.2.2.2.2.2.2.2.1.1 k hk).2.2.1 hW.2.2 C.2.2.2.2.2.1 (C.2.2.2.2.2.2.1 _ hf) (fun _ h => h) hdg (kk p e s m args below meth c H locs ls C hW hl)
theorem zj_slen {k : Nat} {v : Int32} (hdg : decode y.2.1 pc = .ok (.arraylength, 1)) (hp : pc + 1 = pc') (hk : k < 7) (hv : Int32.ofNat (zSL.getD k 0) = v) (kk : zR Γ d y pc' L (.int v :: rest) M Q) : zR Γ d y pc L (.ref (Γ.2.2.2.2.2 k) :: rest) M Q := by
  subst hp
  intro p e s m args below meth c H locs ls C hW hl
  exact va_tlen C.1 C.2.1 (C.2.2.2.2.2.2.2.2.2.1.1 k hk).2.2.2 hW.2.2 hv hdg (kk p e s m args below meth c H locs ls C hW hl)
def zchr (k : Nat) : Nat → Int32 := fun j => (zSB.getD k []).getD j 0
theorem zj_sbyte {k : Nat} {j : Int32} (hdg : decode y.2.1 pc = .ok (.baload, 1)) (hp : pc + 1 = pc') (hk : k < 7) (hin : vp_in j (zSL.getD k 0)) (kk : zR Γ d y pc' L (.int (zchr k j.toNatClampNeg) :: rest) M Q) : zR Γ d y pc L (.int j :: .ref (Γ.2.2.2.2.2 k) :: rest) M Q := by
  subst hp
  intro p e s m args below meth c H locs ls C hW hl
  exact va_tb C.1 C.2.1 (C.2.2.2.2.2.2.2.2.2.1.1 k hk).2.2.2 hW.2.2 hin rfl hdg (kk p e s m args below meth c H locs ls C hW hl)
theorem zj_i2c {v w : Int32} (hdg : decode y.2.1 pc = .ok (.i2c, 1)) (hp : pc + 1 = pc') (hv : (v.toUInt32 % 65536).toInt32 = w) (k : zR Γ d y pc' L (.int w :: rest) M Q) : zR Γ d y pc L (.int v :: rest) M Q := by
  subst hp
  intro p e s m args below meth c H locs ls C hW hl
  exact lv_i2c C.1 C.2.1 hdg hv (k p e s m args below meth c H locs ls C hW hl)
theorem zj_nret {v : Int32} {ty : FieldType} (hdg : decode y.2.1 pc = .ok (.ireturn, 1)) (hr : y.2.2.2 = some ty) (hv : narrow ty (.int v) = .int v) (q : Q (some (.int v)) M) : zR Γ d y pc L [.int v] M Q := by
  intro p e s m args below meth c H locs ls C hW hl
  exact W.zret C.1 C.2.1 (C.2.2.2.1.trans hr) hv (fun t ht hWm => ⟨⟨_, M, rfl, q, by rw [ht]; exact hW.1⟩, hW.2.2.F ht⟩) hW.2.2.2.2 hdg C.2.2.2.2.1
/-- a call on a string constant -/
theorem zj_VS {idx n k : Nat} (hdg : decode y.2.1 pc = .ok (.invokevirtual idx, 3)) (hp : pc + 3 = pc') (hlk : Cond.methodLink y.1.cls idx z.1 ∈ zWS) (hz : zlkV z n) (hcls : z.1.cls = "java/lang/String") (hk : k < 7) (hst : st = As.reverse ++ .ref (Γ.2.2.2.2.1 k) :: rest) (hn : As.length = n) (hcat : (rest.map fun v => v.category).sum ≤ 8) (hd : d' + 1 ≤ d)
    (hK : zK Γ d' z (.ref (Γ.2.2.2.2.1 k) :: As) M (fun v N => v = some x ∧ N = N0)) (hN : N = N0) (kk : zR Γ d y pc' L (x :: rest) N Q) : zR Γ d y pc L st M Q := by
  subst hp
  obtain ⟨⟨w1, w2, w3, w4, w5, w6⟩, w7, w8⟩ := hz
  refine zR_run (av := .ref (Γ.2.2.2.2.1 k) :: As) (Q' := fun v N => v = some x ∧ N = N0) (fun p e s m args below meth c H locs ls C hW hl => ?_) (fun v N1 hq => by obtain ⟨rfl, e⟩ := hq; rw [e, ← hN]; exact kk)
  obtain ⟨hx, hb, hml, hr, hlo, hown, hts, hK1, hE⟩ := id C
  exact va_runV (As := As) (rest := rest) (C := z.1.cls) (n := n) (cc := y.2.1) (nL := y.2.2.1) (Ts := zWS) (own := y.1.cls) ⟨hx, hb, hml, hown, hts⟩ hK
    ⟨callB_of n hts (zwsM_good w2) rfl rfl rfl (hts _ w1) (hts _ hlk) ⟨w3, w4, w5⟩ (zroom hd w6), hts _ w7, hts _ w8⟩
    ⟨zIn_blind, by rw [hcls]; exact vk_recv hE.2.1 hk hW.2.2, fun U hU hWm => ⟨rfl, zIn_of C hW hU hWm⟩⟩ rfl hn hl.1 hst (lv_room hcat) hdg ⟨Nat.zero_le _, Nat.zero_le _⟩
end ZS
