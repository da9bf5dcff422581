/-! ===== when two meet; by what distance one is not seen ===== -/
theorem x_pass1 {C P : Nat} {A : aD} {B : Nat → Nat} {r bs far f pl bu le di wa lf ly pr co : Nat → Int32} (hC : C ≤ 8) (hP : P ≤ 6) (hr : r 4 = nI C) (hB : p_BC B C) (hb : ∀ c, c < 8 → bs c = nI (B c)) (hf : ∀ c d, c < C → d < C → p_far (-1) B c d (far (8 * c + d))) (hV : dV C P A) (h : dX P A f pl bu le di wa lf ly pr) :
    ∃ f' pl' bu' wa' lf' ly' pr' co', fDy_passMinutes f pl bu le di wa lf ly pr co r bs far 1 = some (f', pl', bu', wa', lf', ly', pr', co') ∧ dX P (aMin B P A) f' pl' bu' le di wa' lf' ly' pr' :=
  x_pass (co := co) hC hP hr hB hb hf hV h (n := 1) (by omega)
noncomputable def aMt (B : Nat → Nat) (P : Nat) (A : aD) (q r : Nat) : Nat → Nat → Int32
  | 0, _ => -1
  | f + 1, k => if dW (aMinN B P k A) 0 q = dW (aMinN B P k A) 0 r then nI k else aMt B P A q r f (k + 1)
theorem x_place {P : Nat} {A : aD} {pl : Nat → Int32} (h : xPl P A pl) {q : Nat} (hP : P ≤ 6) (hq : q < P) : fDy_whereIs pl (nI q) = some (nI (dW A 0 q)) := by
  rw [x_whe (by omega)]
  have := h q 0 (by omega) (by omega)
  rw [if_pos hq] at this
  exact congrArg some this
theorem x_meetL {C P : Nat} {A : aD} {B : Nat → Nat} {r bs far le di : Nat → Int32} (hC : C ≤ 8) (hP : P ≤ 6) (hr : r 4 = nI C) (hB : p_BC B C) (hb : ∀ c, c < 8 → bs c = nI (B c)) (hf : ∀ c d, c < C → d < C → p_far (-1) B c d (far (8 * c + d))) (hV : dV C P A) {q p : Nat} (hq : q < P) (hp : p < P) (z1 z2 z3 z4 z5 z6 z7 : Nat → Int32) :
    ∀ f k (t1 t2 t3 t4 t5 t6 t7 t8 : Nat → Int32), f + k = 100 → dX P (aMinN B P k A) t1 t2 t3 le di t4 t5 t6 t7 → ∃ v, zLP (fun s : (Nat → Int32) × (Nat → Int32) × (Nat → Int32) × (Nat → Int32) × (Nat → Int32) × (Nat → Int32) × (Nat → Int32) × (Nat → Int32) × Int32 => fX_meet_L42 r bs far (nI q) (nI p) (z1, z2, z3, le, di, z4, z5, z6, z7) s.1 s.2.1 s.2.2.1 s.2.2.2.1 s.2.2.2.2.1 s.2.2.2.2.2.1 s.2.2.2.2.2.2.1 s.2.2.2.2.2.2.2.1 s.2.2.2.2.2.2.2.2) (t1, t2, t3, t4, t5, t6, t7, t8, nI k) = some v ∧ v.1 = aMt B P A q p f k := by
  intro f
  induction f with
  | zero =>
    intro k t1 t2 t3 t4 t5 t6 t7 t8 hk h
    have hb0 : fX_meet_L42 r bs far (nI q) (nI p) (z1, z2, z3, le, di, z4, z5, z6, z7) t1 t2 t3 t4 t5 t6 t7 t8 (nI k) = some (.inr ((-1), t1, t2, t3, le, di, t4, t5, t6, t7, t8)) := by
      unfold fX_meet_L42
      rw [if_pos (show (99 : Int32) < nI k from nI_lt (a := 99) (by omega) (by omega))]
    exact ⟨_, zLP_out hb0, rfl⟩
  | succ f ih =>
    intro k t1 t2 t3 t4 t5 t6 t7 t8 hk h
    have hVk := aMinN_V hC hB hP hV k
    have w1 := hVk.1 q 0 hq (by omega)
    have w2 := hVk.1 p 0 hp (by omega)
    by_cases e : dW (aMinN B P k A) 0 q = dW (aMinN B P k A) 0 p
    · have hb0 : fX_meet_L42 r bs far (nI q) (nI p) (z1, z2, z3, le, di, z4, z5, z6, z7) t1 t2 t3 t4 t5 t6 t7 t8 (nI k) = some (.inr (nI k, t1, t2, t3, le, di, t4, t5, t6, t7, t8)) := by
        unfold fX_meet_L42
        rw [if_neg (show ¬ (99 : Int32) < nI k from nI_nlt (a := 99) (by omega) (by omega)), x_place h.2.2.1 hP hq, x_place h.2.2.1 hP hp]
        simp only [Option.bind_some]
        rw [if_pos (by rw [e])]
      refine ⟨_, zLP_out hb0, ?_⟩
      rw [aMt, if_pos e]
    · obtain ⟨f', pl', bu', wa', lf', ly', pr', co', e1, e2⟩ := x_pass1 (co := t8) hC hP hr hB hb hf hVk h
      have hb0 : fX_meet_L42 r bs far (nI q) (nI p) (z1, z2, z3, le, di, z4, z5, z6, z7) t1 t2 t3 t4 t5 t6 t7 t8 (nI k) = some (.inl (f', pl', bu', wa', lf', ly', pr', co', nI (k + 1))) := by
        unfold fX_meet_L42
        rw [if_neg (show ¬ (99 : Int32) < nI k from nI_nlt (a := 99) (by omega) (by omega)), x_place h.2.2.1 hP hq, x_place h.2.2.1 hP hp]
        simp only [Option.bind_some]
        rw [if_neg (fun h => e ((nI_eq (by omega) (by omega)).mp h)), e1]
        simp only [Option.bind_some, zlet, nI_1]
      obtain ⟨v, v1, v2⟩ := ih (k + 1) f' pl' bu' wa' lf' ly' pr' co' (by omega) e2
      refine ⟨v, (zLP_go hb0).trans v1, ?_⟩
      rw [aMt, if_neg e]; exact v2
theorem m_wasQ {P : Nat} {A : aD} {s : Nat → Int32} (h : sD P A s) (hP : P ≤ 6) {q : Nat} (hq : q < P) : zrd s 397 (91 + nI q) = some (nI (dW A 0 q)) := by
  rw [z_91, zrd_n (by omega) (by omega)]
  exact congrArg some (h.2.2.1 q 0 hq (by omega))
theorem m_meetL {C P : Nat} {A : aD} {B : Nat → Nat} {s0 ap : Nat → Int32} (hC : C ≤ 8) (hP : P ≤ 6) (hs2 : s0 2 = nI P) (hB : p_BC B C) (hs : ∀ c, c < 8 → s0 (3 + c) = nI (B c)) (hf : ∀ c d, c < C → d < C → p_far (nI 1000000) B c d (ap (8 * c + d))) (hV : dV C P A) {q p : Nat} (hq : q < P) (hp : p < P) :
    ∀ f k (s to : Nat → Int32), f + k = 100 → sD P (aMinN B P k A) s → sK s0 s → ∃ v, zLP (fun t : (Nat → Int32) × (Nat → Int32) × Int32 × Int32 => fM_meet_L37 ap (nI q) (nI p) t.1 t.2.1 t.2.2.1 t.2.2.2) (s, to, (-1), nI k) = some v ∧ v.2.2 = aMt B P A q p f k ∧ sK s0 v.1 := by
  intro f
  induction f with
  | zero =>
    intro k s to hk h hK
    have hb0 : fM_meet_L37 ap (nI q) (nI p) s to (-1) (nI k) = some (.inr (s, to, -1)) := by
      unfold fM_meet_L37
      rw [if_pos (show (99 : Int32) < nI k from nI_lt (a := 99) (by omega) (by omega))]
    exact ⟨_, zLP_out hb0, rfl, hK⟩
  | succ f ih =>
    intro k s to hk h hK
    have hVk := aMinN_V hC hB hP hV k
    have w1 := hVk.1 q 0 hq (by omega)
    have w2 := hVk.1 p 0 hp (by omega)
    obtain ⟨s', to', e1, e2, e3⟩ := m_minute (to := to) hC hP ((hK 2 (by omega)).trans hs2) hB (fun c hc => (hK _ (by omega)).trans (hs c hc)) hf hVk h
    by_cases e : dW (aMinN B P k A) 0 q = dW (aMinN B P k A) 0 p
    · have hb0 : fM_meet_L37 ap (nI q) (nI p) s to (-1) (nI k) = some (.inl (s', to', nI k, nI (k + 1))) := by
        unfold fM_meet_L37
        rw [if_neg (show ¬ (99 : Int32) < nI k from nI_nlt (a := 99) (by omega) (by omega)), if_neg (by decide), m_wasQ h hP hq, m_wasQ h hP hp]
        simp only [Option.bind_some]
        rw [if_pos (by rw [e]), e1]
        simp only [Option.bind_some, zlet, nI_1]
      have hb1 : fM_meet_L37 ap (nI q) (nI p) s' to' (nI k) (nI (k + 1)) = some (.inr (s', to', nI k)) := by
        unfold fM_meet_L37
        by_cases e4 : (99 : Int32) < nI (k + 1)
        · rw [if_pos e4]
        · rw [if_neg e4, if_pos (nI_pos' (by omega))]
      have hb2 : zLP (fun t : (Nat → Int32) × (Nat → Int32) × Int32 × Int32 => fM_meet_L37 ap (nI q) (nI p) t.1 t.2.1 t.2.2.1 t.2.2.2) (s', to', nI k, nI (k + 1)) = some (s', to', nI k) := zLP_out hb1
      refine ⟨(s', to', nI k), (zLP_go (s' := (s', to', nI k, nI (k + 1))) hb0).trans hb2, ?_, sK_trans hK e3⟩
      rw [aMt, if_pos e]
    · have hb0 : fM_meet_L37 ap (nI q) (nI p) s to (-1) (nI k) = some (.inl (s', to', -1, nI (k + 1))) := by
        unfold fM_meet_L37
        rw [if_neg (show ¬ (99 : Int32) < nI k from nI_nlt (a := 99) (by omega) (by omega)), if_neg (by decide), m_wasQ h hP hq, m_wasQ h hP hp]
        simp only [Option.bind_some]
        rw [if_neg (fun h => e ((nI_eq (by omega) (by omega)).mp h)), e1]
        simp only [Option.bind_some, zlet, nI_1]
      obtain ⟨v, v1, v2, v3⟩ := ih (k + 1) s' to' (by omega) e2 (sK_trans hK e3)
      refine ⟨v, (zLP_go hb0).trans v1, ?_, v3⟩
      rw [aMt, if_neg e]; exact v2
/-! ## one who is not seen -/
def aNr (B : Nat → Nat) (A : aD) (q r : Nat) : Prop := dW A 0 q = dW A 0 r ∨ (B (dW A 0 q)).testBit (dW A 0 r) = true
theorem p_near {B : Nat → Nat} {a b : Nat} {v : Int32} (hb : b < 8) (h : p_far (nI 1000000) B a b v) : v ≤ 1 ↔ a = b ∨ (B a).testBit b = true := by
  have h0 : a = b → p_D B a b 0 := fun e => ⟨e, fun j hj => absurd hj (by omega)⟩
  have h1 : a ≠ b → (B a).testBit b = true → p_D B a b 1 := fun e1 e2 => ⟨⟨b, hb, e2, Or.inl rfl, rfl⟩, fun j hj hw => by
    have : j = 0 := by omega
    subst this
    exact e1 hw⟩
  rcases h with ⟨k, k1, rfl, k3⟩ | ⟨rfl, k3⟩
  · rw [show (1 : Int32) = nI 1 from rfl, nI_leI (by omega) (by omega)]
    constructor
    · intro h
      rcases Nat.lt_or_ge k 1 with h2 | h2
      · have : k = 0 := by omega
        subst this
        exact Or.inl k3.1
      · have : k = 1 := by omega
        subst this
        obtain ⟨e, e1, e2, e3, e4⟩ := k3.1
        have : e = b := e4
        subst this
        exact Or.inr e2
    · intro h
      by_cases e : a = b
      · have := p_D_uni k3 (h0 e); omega
      · rcases h with h | h
        · exact absurd h e
        · have := p_D_uni k3 (h1 e h); omega
  · constructor
    · intro h; exact absurd h (by decide)
    · intro h
      by_cases e : a = b
      · exact absurd (h0 e).1 (k3 _)
      · rcases h with h | h
        · exact absurd h e
        · exact absurd (h1 e h).1 (k3 _)
noncomputable def aUn (B : Nat → Nat) (P : Nat) (q r : Nat) : Nat → aD → Bool
  | 0, _ => true
  | f + 1, A => @ite _ (aNr B (aMin B P A) q r) (Classical.propDecidable _) false (aUn B P q r f (aMin B P A))
theorem aIns_V {C P : Nat} {A : aD} (hV : dV C P A) {q r n : Nat} (hq : q < P) (hr : r < P) (h1 : 1 ≤ n) (h5 : n ≤ 5) : dV C P (aIns q r n A) := by
  obtain ⟨v1, v2, v3, v4, v5, v6⟩ := aHire_V hV hq hr h1 h5
  refine ⟨v1, v2, fun x hx => ?_, fun x i hx hi => ?_, v5, v6⟩
  · show zup (dM A) r 0 x ≤ 8 ∧ (zup (dM A) r 0 x ≠ 0 → x < P)
    by_cases e : x = r
    · subst e; rw [zup_s]; exact ⟨by omega, fun h => absurd rfl h⟩
    · rw [zup_n e]; exact v3 x hx
  · have hi' : i < zup (dM A) r 0 x := hi
    by_cases e : x = r
    · subst e; rw [zup_s] at hi'; omega
    · rw [zup_n e] at hi'; exact v4 x i hx hi'
theorem x_unL {C P : Nat} {B : Nat → Nat} {r bs far le di : Nat → Int32} (hC : C ≤ 8) (hP : P ≤ 6) (hr : r 4 = nI C) (hB : p_BC B C) (hb : ∀ c, c < 8 → bs c = nI (B c)) (hf : ∀ c d, c < C → d < C → p_far (-1) B c d (far (8 * c + d))) {q p : Nat} (hq : q < P) (hp : p < P) (z : Nat → Int32) :
    ∀ f k (A : aD) (t1 t2 t3 t4 t5 t6 t7 t8 : Nat → Int32), f + k = 20 → dV C P A → dX P A t1 t2 t3 le di t4 t5 t6 t7 → ∃ v, zLP (fun s : (Nat → Int32) × (Nat → Int32) × (Nat → Int32) × (Nat → Int32) × (Nat → Int32) × (Nat → Int32) × (Nat → Int32) × (Nat → Int32) × Int32 => fX_staysUnseen_L24 r bs far (nI q) (nI p) (le, di, z) s.1 s.2.1 s.2.2.1 s.2.2.2.1 s.2.2.2.2.1 s.2.2.2.2.2.1 s.2.2.2.2.2.2.1 s.2.2.2.2.2.2.2.1 s.2.2.2.2.2.2.2.2) (t1, t2, t3, t4, t5, t6, t7, t8, nI k) = some v ∧ v.1 = aUn B P q p f A := by
  intro f
  induction f with
  | zero =>
    intro k A t1 t2 t3 t4 t5 t6 t7 t8 hk hV h
    have hb0 : fX_staysUnseen_L24 r bs far (nI q) (nI p) (le, di, z) t1 t2 t3 t4 t5 t6 t7 t8 (nI k) = some (.inr (true, t1, t2, t3, le, di, t4, t5, t6, t7, t8)) := by
      unfold fX_staysUnseen_L24
      rw [if_pos (ze20 (by omega) (by omega))]
    exact ⟨_, zLP_out hb0, rfl⟩
  | succ f ih =>
    intro k A t1 t2 t3 t4 t5 t6 t7 t8 hk hV h
    have hV1 := aMin_V hC hB hP hV
    have w1 := hV1.1 q 0 hq (by omega)
    have w2 := hV1.1 p 0 hp (by omega)
    obtain ⟨f', pl', bu', wa', lf', ly', pr', co', e1, e2⟩ := x_pass1 (co := t8) hC hP hr hB hb hf hV h
    by_cases e : aNr B (aMin B P A) q p
    · have hb0 : fX_staysUnseen_L24 r bs far (nI q) (nI p) (le, di, z) t1 t2 t3 t4 t5 t6 t7 t8 (nI k) = some (.inr (false, f', pl', bu', le, di, wa', lf', ly', pr', co')) := by
        unfold fX_staysUnseen_L24
        rw [if_neg (zg20 (by omega)), e1]
        simp only [Option.bind_some]
        rw [x_place e2.2.2.1 hP hq, x_place e2.2.2.1 hP hp]
        simp only [Option.bind_some]
        by_cases e3 : dW (aMin B P A) 0 q = dW (aMin B P A) 0 p
        · rw [if_pos (by rw [e3])]
        · rw [if_neg (fun h => e3 ((nI_eq (by omega) (by omega)).mp h)), p_areBeside hC hr hb hB w1 w2]
          simp only [Option.bind_some]
          rcases e with e | e
          · exact absurd e e3
          · rw [if_pos e]
      refine ⟨_, zLP_out hb0, ?_⟩
      rw [aUn, if_pos e]
    · have hb0 : fX_staysUnseen_L24 r bs far (nI q) (nI p) (le, di, z) t1 t2 t3 t4 t5 t6 t7 t8 (nI k) = some (.inl (f', pl', bu', wa', lf', ly', pr', co', nI (k + 1))) := by
        unfold fX_staysUnseen_L24
        rw [if_neg (zg20 (by omega)), e1]
        simp only [Option.bind_some]
        rw [x_place e2.2.2.1 hP hq, x_place e2.2.2.1 hP hp]
        simp only [Option.bind_some]
        rw [if_neg (fun h => e (Or.inl ((nI_eq (by omega) (by omega)).mp h))), p_areBeside hC hr hb hB w1 w2]
        simp only [Option.bind_some]
        rw [if_neg (fun h => e (Or.inr h))]
        simp only [zlet, nI_1]
      obtain ⟨v, v1, v2⟩ := ih (k + 1) (aMin B P A) f' pl' bu' wa' lf' ly' pr' co' (by omega) hV1 e2
      refine ⟨v, (zLP_go hb0).trans v1, ?_⟩
      rw [aUn, if_neg e]; exact v2
theorem x_unseen {C P : Nat} {A : aD} {B : Nat → Nat} {r bs far f pl bu le di wa lf ly pr u0 u1 u2 u3 u4 u5 u6 u7 u8 u9 : Nat → Int32} (hC : C ≤ 8) (hP : P ≤ 6) (hr : r 4 = nI C) (hB : p_BC B C) (hb : ∀ c, c < 8 → bs c = nI (B c)) (hf : ∀ c d, c < C → d < C → p_far (-1) B c d (far (8 * c + d))) (hV : dV C P A) (h : dX P A f pl bu le di wa lf ly pr) {q p n : Nat} (hq : q < P) (hp : p < P) (h1 : 1 ≤ n) (h5 : n ≤ 5) :
    ∃ v, fX_staysUnseen r bs far f pl bu le di wa lf ly pr u0 u1 u2 u3 u4 u5 u6 u7 u8 u9 (nI q) (nI p) (nI n) = some v ∧ v.1 = aUn B P q p 20 (aIns p q n A) := by
  obtain ⟨y1, y2, y3, y4, y5, y6, y7, y8, y9, e1, e2⟩ := x_copy (r := u0) (f0 := u1) (f1 := u2) (f2 := u3) (f3 := u4) (f4 := u5) (f5 := u6) (f6 := u7) (f7 := u8) (dV_M hV) h
  obtain ⟨le', di', lf', e3, e4⟩ := x_instead (C := C) (n := n) hP e2 hp hq
  unfold fX_staysUnseen
  rw [e1]
  simp only [Option.bind_some]
  rw [e3]
  simp only [Option.bind_some]
  exact x_unL hC hP hr hB hb hf hq hp lf' 20 0 _ y1 y2 y3 y6 lf' y8 y9 u9 rfl (aIns_V hV hp hq h1 h5) e4
noncomputable def aPp (B : Nat → Nat) (P : Nat) (A : aD) (q p : Nat) : Nat → Nat → Int32
  | 0, _ => -1
  | f + 1, n => if aUn B P q p 20 (aIns p q n A) = true then nI n else aPp B P A q p f (n + 1)
theorem x_properL {C P : Nat} {A : aD} {B : Nat → Nat} {r bs far f pl bu le di wa lf ly pr : Nat → Int32} (hC : C ≤ 8) (hP : P ≤ 6) (hr : r 4 = nI C) (hB : p_BC B C) (hb : ∀ c, c < 8 → bs c = nI (B c)) (hf : ∀ c d, c < C → d < C → p_far (-1) B c d (far (8 * c + d))) (hV : dV C P A) (h : dX P A f pl bu le di wa lf ly pr) {q p : Nat} (hq : q < P) (hp : p < P) :
    ∀ fu n (u0 u1 u2 u3 u4 u5 u6 u7 u8 u9 : Nat → Int32), fu + n = 6 → 1 ≤ n → ∃ v, zLP (fun s : (Nat → Int32) × (Nat → Int32) × (Nat → Int32) × (Nat → Int32) × (Nat → Int32) × (Nat → Int32) × (Nat → Int32) × (Nat → Int32) × (Nat → Int32) × (Nat → Int32) × Int32 => fX_proper_L31 r bs far f pl bu le di wa lf ly pr (nI q) (nI p) s.1 s.2.1 s.2.2.1 s.2.2.2.1 s.2.2.2.2.1 s.2.2.2.2.2.1 s.2.2.2.2.2.2.1 s.2.2.2.2.2.2.2.1 s.2.2.2.2.2.2.2.2.1 s.2.2.2.2.2.2.2.2.2.1 s.2.2.2.2.2.2.2.2.2.2) (u0, u1, u2, u3, u4, u5, u6, u7, u8, u9, nI n) = some v ∧ v.1 = aPp B P A q p fu n := by
  intro fu
  induction fu with
  | zero =>
    intro n u0 u1 u2 u3 u4 u5 u6 u7 u8 u9 hn h1
    have hb0 : fX_proper_L31 r bs far f pl bu le di wa lf ly pr (nI q) (nI p) u0 u1 u2 u3 u4 u5 u6 u7 u8 u9 (nI n) = some (.inr ((-1), u0, u1, u2, u3, u4, u5, u6, u7, u8, u9)) := by
      unfold fX_proper_L31
      rw [if_pos (show (5 : Int32) < nI n from nI_lt (a := 5) (by omega) (by omega))]
    exact ⟨_, zLP_out hb0, rfl⟩
  | succ fu ih =>
    intro n u0 u1 u2 u3 u4 u5 u6 u7 u8 u9 hn h1
    obtain ⟨⟨v0, v1, v2, v3, v4, v5, v6, v7, v8, v9, v10⟩, e1, e2⟩ := x_unseen (u0 := u0) (u1 := u1) (u2 := u2) (u3 := u3) (u4 := u4) (u5 := u5) (u6 := u6) (u7 := u7) (u8 := u8) (u9 := u9) hC hP hr hB hb hf hV h hq hp h1 (show n ≤ 5 by omega)
    try dsimp only at e2
    subst e2
    cases e : aUn B P q p 20 (aIns p q n A) with
    | true =>
      have hb0 : fX_proper_L31 r bs far f pl bu le di wa lf ly pr (nI q) (nI p) u0 u1 u2 u3 u4 u5 u6 u7 u8 u9 (nI n) = some (.inr (nI n, v1, v2, v3, v4, v5, v6, v7, v8, v9, v10)) := by
        unfold fX_proper_L31
        rw [if_neg (show ¬ (5 : Int32) < nI n from nI_nlt (a := 5) (by omega) (by omega)), e1]
        simp only [Option.bind_some]
        rw [if_pos e]
      refine ⟨_, zLP_out hb0, ?_⟩
      rw [aPp, if_pos e]
    | false =>
      have hb0 : fX_proper_L31 r bs far f pl bu le di wa lf ly pr (nI q) (nI p) u0 u1 u2 u3 u4 u5 u6 u7 u8 u9 (nI n) = some (.inl (v1, v2, v3, v4, v5, v6, v7, v8, v9, v10, nI (n + 1))) := by
        unfold fX_proper_L31
        rw [if_neg (show ¬ (5 : Int32) < nI n from nI_nlt (a := 5) (by omega) (by omega)), e1]
        simp only [Option.bind_some]
        rw [if_neg (by rw [e]; decide)]
        simp only [zlet, nI_1]
      obtain ⟨v, w1, w2⟩ := ih (n + 1) v1 v2 v3 v4 v5 v6 v7 v8 v9 v10 (by omega) (by omega)
      refine ⟨v, (zLP_go hb0).trans w1, ?_⟩
      rw [aPp, if_neg (by rw [e]; decide)]; exact w2
theorem m_unL {C P : Nat} {B : Nat → Nat} {s0 ap : Nat → Int32} (hC : C ≤ 8) (hP : P ≤ 6) (hs2 : s0 2 = nI P) (hB : p_BC B C) (hs : ∀ c, c < 8 → s0 (3 + c) = nI (B c)) (hf : ∀ c d, c < C → d < C → p_far (nI 1000000) B c d (ap (8 * c + d))) {q p : Nat} (hq : q < P) (hp : p < P) :
    ∀ f k (A : aD) (s to : Nat → Int32), f + k = 20 → dV C P A → sD P A s → sK s0 s → ∃ v, zLP (fun t : (Nat → Int32) × (Nat → Int32) × Int32 × Int32 => fM_isProper_L24 ap (nI q) (nI p) t.1 t.2.1 t.2.2.1 t.2.2.2) (s, to, 1, nI k) = some v ∧ v.2.2 = zb (aUn B P q p f A) ∧ sK s0 v.1 := by
  intro f
  induction f with
  | zero =>
    intro k A s to hk hV h hK
    have hb0 : fM_isProper_L24 ap (nI q) (nI p) s to 1 (nI k) = some (.inr (s, to, 1)) := by
      unfold fM_isProper_L24
      rw [if_pos (ze20 (by omega) (by omega))]
    exact ⟨_, zLP_out hb0, rfl, hK⟩
  | succ f ih =>
    intro k A s to hk hV h hK
    have hV1 := aMin_V hC hB hP hV
    have w1 := hV1.1 q 0 hq (by omega)
    have w2 := hV1.1 p 0 hp (by omega)
    obtain ⟨s', to', e1, e2, e3⟩ := m_minute (to := to) hC hP ((hK 2 (by omega)).trans hs2) hB (fun c hc => (hK _ (by omega)).trans (hs c hc)) hf hV h
    have hnr := p_near (show dW (aMin B P A) 0 p < 8 by omega) (hf _ _ w1 w2)
    have hb0 : fM_isProper_L24 ap (nI q) (nI p) s to 1 (nI k) = some (.inl (s', to', zb (if ap (8 * dW (aMin B P A) 0 q + dW (aMin B P A) 0 p) ≤ 1 then false else true), nI (k + 1))) := by
      unfold fM_isProper_L24
      rw [if_neg (zg20 (by omega)), if_neg (by decide), e1]
      simp only [Option.bind_some]
      rw [m_wasQ e2 hP hq, m_wasQ e2 hP hp]
      simp only [Option.bind_some]
      rw [z_8mul, zrd_n (by omega) (by omega)]
      simp only [Option.bind_some, zlet, nI_1]
    by_cases e : aNr B (aMin B P A) q p
    · rw [if_pos (hnr.mpr e)] at hb0
      have hb1 : fM_isProper_L24 ap (nI q) (nI p) s' to' (zb false) (nI (k + 1)) = some (.inr (s', to', zb false)) := by
        unfold fM_isProper_L24
        by_cases e4 : (20 : Int32) ≤ nI (k + 1)
        · rw [if_pos e4]
        · rw [if_neg e4, if_pos (by decide)]
      have hb2 : zLP (fun t : (Nat → Int32) × (Nat → Int32) × Int32 × Int32 => fM_isProper_L24 ap (nI q) (nI p) t.1 t.2.1 t.2.2.1 t.2.2.2) (s', to', zb false, nI (k + 1)) = some (s', to', zb false) := zLP_out hb1
      refine ⟨(s', to', zb false), (zLP_go (s' := (s', to', zb false, nI (k + 1))) hb0).trans hb2, ?_, sK_trans hK e3⟩
      rw [aUn, if_pos e]
    · rw [if_neg (fun h => e (hnr.mp h))] at hb0
      obtain ⟨v, v1, v2, v3⟩ := ih (k + 1) (aMin B P A) s' to' (by omega) hV1 e2 (sK_trans hK e3)
      refine ⟨v, (zLP_go hb0).trans v1, ?_, v3⟩
      rw [aUn, if_neg e]; exact v2
theorem m_isProper {C P : Nat} {A : aD} {B : Nat → Nat} {s ap to bf : Nat → Int32} (hC : C ≤ 8) (hP : P ≤ 6) (hs2 : s 2 = nI P) (hB : p_BC B C) (hs : ∀ c, c < 8 → s (3 + c) = nI (B c)) (hf : ∀ c d, c < C → d < C → p_far (nI 1000000) B c d (ap (8 * c + d))) (hV : dV C P A) (h : sD P A s) (hbf : uD P A bf 0) {q p n : Nat} (hq : q < P) (hp : p < P) (h1 : 1 ≤ n) (h5 : n ≤ 5) :
    ∃ s' to', fM_isProper s ap to bf (nI q) (nI p) (nI n) = some (aUn B P q p 20 (aIns p q n A), s', to') ∧ sD P A s' ∧ sK s s' := by
  have hM := dV_M hV
  have a1 := sD_M hP h hM (x0 := q) (v := 0) (by omega) (Nat.zero_le _)
  have hVm : ∀ x, x < 6 → dM (sM_ A (zup (dM A) q 0)) x ≤ 8 := fun x hx => by
    show zup (dM A) q 0 x ≤ 8
    by_cases e : x = q
    · subst e; rw [zup_s]; omega
    · rw [zup_n e]; exact hM x hx
  have a2 : sD P (aIns p q n A) (zup (zup (zup s (145 + q) (nI 0)) (133 + q) (nI (p + 1))) (139 + q) (nI n)) := sD_AH hP a1 hVm (x0 := q) (v := p + 1) (n := n) (by omega)
  have k2 : sK s (zup (zup (zup s (145 + q) (nI 0)) (133 + q) (nI (p + 1))) (139 + q) (nI n)) := sK_up (sK_up (sK_up sK_rfl (by omega)) (by omega)) (by omega)
  obtain ⟨⟨v1, v2, v3⟩, e1, e2, e3⟩ := m_unL hC hP hs2 hB hs hf hq hp 20 0 _ _ to rfl (aIns_V hV hp hq h1 h5) a2 k2
  try dsimp only at e2 e3
  obtain ⟨s', b1, b2, b3⟩ := m_back (s := v1) hP hM hbf
  unfold fM_isProper
  rw [z_145, zwr_n (by omega) (by omega)]
  simp only [Option.bind_some]
  unfold fM_binds
  rw [z_133, z_139, nI_1, zwr_n (by omega) (by omega)]
  simp only [Option.bind_some]
  rw [zwr_n (by omega) (by omega)]
  simp only [Option.bind_some]
  have e1' : zLP (fun t : (Nat → Int32) × (Nat → Int32) × Int32 × Int32 => fM_isProper_L24 ap (nI q) (nI p) t.1 t.2.1 t.2.2.1 t.2.2.2) (zup (zup (zup s (145 + q) 0) (133 + q) (nI (p + 1))) (139 + q) (nI n), to, 1, 0) = some (v1, v2, v3) := e1
  rw [e1']
  simp only [Option.bind_some]
  rw [b1]
  simp only [Option.bind_some]
  rw [e2]
  refine ⟨s', v2, ?_, b2, sK_trans e3 b3⟩
  cases aUn B P q p 20 (aIns p q n A) <;> rfl
theorem m_properL {C P : Nat} {A : aD} {B : Nat → Nat} {s0 ap bf : Nat → Int32} (hC : C ≤ 8) (hP : P ≤ 6) (hs2 : s0 2 = nI P) (hB : p_BC B C) (hs : ∀ c, c < 8 → s0 (3 + c) = nI (B c)) (hf : ∀ c d, c < C → d < C → p_far (nI 1000000) B c d (ap (8 * c + d))) (hV : dV C P A) (hbf : uD P A bf 0) {q p : Nat} (hq : q < P) (hp : p < P) :
    ∀ n (s to : Nat → Int32), n ≤ 5 → sD P A s → sK s0 s → ∃ v, zLP (fun t : (Nat → Int32) × (Nat → Int32) × Int32 × Int32 => fM_proper_L37 ap (nI q) (nI p) bf t.1 t.2.1 t.2.2.1 t.2.2.2) (s, to, aPp B P A q p (5 - n) (n + 1), nI n) = some v ∧ v.2.2 = aPp B P A q p 5 1 ∧ sD P A v.1 ∧ sK s0 v.1 := by
  intro n
  induction n with
  | zero =>
    intro s to hn h hK
    have hb0 : fM_proper_L37 ap (nI q) (nI p) bf s to (aPp B P A q p 5 1) (nI 0) = some (.inr (s, to, aPp B P A q p 5 1)) := by
      unfold fM_proper_L37
      rw [if_pos (by decide)]
    exact ⟨_, zLP_out hb0, rfl, h, hK⟩
  | succ n ih =>
    intro s to hn h hK
    obtain ⟨s', to', e1, e2, e3⟩ := m_isProper (to := to) hC hP ((hK 2 (by omega)).trans hs2) hB (fun c hc => (hK _ (by omega)).trans (hs c hc)) hf hV h hbf hq hp (show 1 ≤ n + 1 by omega) hn
    have hb0 : fM_proper_L37 ap (nI q) (nI p) bf s to (aPp B P A q p (5 - (n + 1)) (n + 1 + 1)) (nI (n + 1)) = some (.inl (s', to', aPp B P A q p (5 - n) (n + 1), nI n)) := by
      unfold fM_proper_L37
      rw [if_neg (nI_nle (by omega) (by omega)), e1]
      simp only [Option.bind_some, zlet, nI_m1p]
      rw [show 5 - n = (5 - (n + 1)) + 1 by omega, aPp]
      cases e : aUn B P q p 20 (aIns p q (n + 1) A) with
      | true => rw [if_pos rfl, if_pos rfl]
      | false => rw [if_neg (by decide), if_neg (by decide)]
    obtain ⟨v, v1, v2, v3⟩ := ih s' to' (by omega) e2 (sK_trans hK e3)
    exact ⟨v, (zLP_go hb0).trans v1, v2, v3⟩
