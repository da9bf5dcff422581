/-! ===== a sentence: parts in the order in which they are reckoned; what waits (0 not, 1 and, 2 or, 3 a bracket) ===== -/
abbrev aI : Type := Nat × Nat × Nat
def cS : Nat → Nat
  | 0 => 12
  | 1 => 11
  | 2 => 10
  | _ => 22
def mS : Nat → Nat
  | 0 => 20
  | 1 => 21
  | 2 => 22
  | _ => 23
def sOK (st : List Nat) : Prop := ∀ x, x ∈ st → x ≤ 3
/-- a part: 0 to 8 plain ones, 20 not, 21 and, 22 or -/
def cOp (o : Nat) : Nat := if o < 9 then 13 + o else 32 - o
def cX (c : aI) (pa ot nu : Int32) : Prop := pa = nI (cOp c.1) ∧ (c.1 = 3 ∨ c.1 = 4 → ot = nI c.2.2) ∧ (5 ≤ c.1 ∧ c.1 ≤ 8 → ot = nI c.2.1 ∧ nu = nI c.2.2)
def iOK (c : aI) : Prop := (c.1 < 9 ∨ c.1 = 20 ∨ c.1 = 21 ∨ c.1 = 22) ∧ c.2.1 < 100 ∧ c.2.2 < 1000 ∧ (5 ≤ c.1 ∧ c.1 ≤ 8 → c.2.1 = 60 ∨ c.2.1 = 61 ∨ c.2.1 = 62)
def pdR (co : Nat → Nat) : List Nat → (Nat → Int32) → Prop
  | [], _ => True
  | x :: t, pe => pe t.length = nI (co x) ∧ pdR co t pe
def cdX : List aI → (Nat → Int32) → (Nat → Int32) → (Nat → Int32) → Prop
  | [], _, _, _ => True
  | c :: t, pa, ot, nu => cX c (pa t.length) (ot t.length) (nu t.length) ∧ cdX t pa ot nu
def cdM : List aI → (Nat → Int32) → Prop
  | [], _ => True
  | c :: t, rd => (rd (3 * t.length) = nI c.1 ∧ rd (3 * t.length + 1) = nI c.2.1 ∧ rd (3 * t.length + 2) = nI c.2.2) ∧ cdM t rd
theorem pdR_up {co : Nat → Nat} : ∀ {st : List Nat} {pe : Nat → Int32} {k : Nat} {v : Int32}, st.length ≤ k → pdR co st pe → pdR co st (zup pe k v)
  | [], _, _, _, _, _ => trivial
  | x :: t, pe, k, v, hk, h => by
    rw [List.length_cons] at hk
    exact ⟨by rw [zup_n (by omega)]; exact h.1, pdR_up (by omega) h.2⟩
theorem cdX_up : ∀ {cd : List aI} {pa ot nu : Nat → Int32} {k : Nat} {v1 v2 v3 : Int32}, cd.length ≤ k → cdX cd pa ot nu → cdX cd (zup pa k v1) (zup ot k v2) (zup nu k v3)
  | [], _, _, _, _, _, _, _, _, _ => trivial
  | x :: t, pa, ot, nu, k, v1, v2, v3, hk, h => by
    rw [List.length_cons] at hk
    exact ⟨by rw [zup_n (by omega), zup_n (by omega), zup_n (by omega)]; exact h.1, cdX_up (by omega) h.2⟩
theorem cdM_up : ∀ {cd : List aI} {rd : Nat → Int32} {k : Nat} {v : Int32}, 3 * cd.length ≤ k → cdM cd rd → cdM cd (zup rd k v)
  | [], _, _, _, _, _ => trivial
  | x :: t, rd, k, v, hk, h => by
    rw [List.length_cons] at hk
    exact ⟨by rw [zup_n (by omega), zup_n (by omega), zup_n (by omega)]; exact h.1, cdM_up (by omega) h.2⟩
/-- how many nots and brackets wait; how many ands and ors -/
def wiC : List Nat → Nat
  | [] => 0
  | x :: t => wiC t + (if x = 0 ∨ 3 ≤ x then 1 else 0)
def bnC : List Nat → Nat
  | [] => 0
  | x :: t => bnC t + (if x = 1 ∨ x = 2 then 1 else 0)
/-- no not waits right below an and or an or -/
def wfS : List Nat → Prop
  | [] => True
  | x :: t => (x = 1 ∨ x = 2 → t.head? ≠ some 0) ∧ wfS t
def sNot : List Nat → List aI → List Nat × List aI
  | 0 :: t, cd => sNot t ((20, 0, 0) :: cd)
  | st, cd => (st, cd)
def sJoin (w : Bool) : List Nat → List aI → List Nat × List aI
  | 1 :: t, cd => sJoin w t ((21, 0, 0) :: cd)
  | 2 :: t, cd => if w = true then sJoin w t ((22, 0, 0) :: cd) else (2 :: t, cd)
  | st, cd => (st, cd)
def dpC : List aI → Nat
  | [] => 0
  | c :: t => if c.1 < 9 then dpC t + 1 else if c.1 = 20 then dpC t else dpC t - 1
def rpn : List aI → Prop
  | [] => True
  | c :: t => (c.1 = 20 → 1 ≤ dpC t) ∧ (c.1 = 21 ∨ c.1 = 22 → 2 ≤ dpC t) ∧ rpn t
def iAll (cd : List aI) : Prop := ∀ c, c ∈ cd → iOK c
/-- the class's rows of a sentence that is read -/
def zX (st : List Nat) (cd : List aI) (on : Nat) (due : Bool) (r pa ot nu pe : Nat → Int32) : Prop := r 5 = nI cd.length ∧ r 6 = nI st.length ∧ r 7 = nI (wiC st) ∧ r 8 = nI on ∧ r 9 = zb due ∧ cdX cd pa ot nu ∧ pdR cS st pe
/-- the reference's -/
def zMo (st : List Nat) (cd : List aI) (on : Nat) (due : Bool) (r rd sk : Nat → Int32) : Prop := r 44 = nI cd.length ∧ r 45 = nI on ∧ r 46 = nI st.length ∧ r 47 = nI (wiC st + 1) ∧ r 48 = zb (!due) ∧ cdM cd rd ∧ pdR mS st sk
theorem cS_ne : ∀ x, x ≤ 3 → ∀ y, y ≤ 3 → (cS x = cS y ↔ x = y) := by decide
theorem mS_ne : ∀ x, x ≤ 3 → ∀ y, y ≤ 3 → (mS x = mS y ↔ x = y) := by decide
theorem cS_lt (x : Nat) : cS x < 30 := by unfold cS; split <;> omega
theorem mS_lt (x : Nat) : mS x < 30 := by unfold mS; split <;> omega
def lastS : List Nat → Int32
  | [] => -1
  | x :: _ => nI (cS x)
theorem x_last {st : List Nat} {cd : List aI} {on : Nat} {due : Bool} {r pa ot nu pe : Nat → Int32} (h : zX st cd on due r pa ot nu pe) (hl : st.length ≤ 40) : fSn_lastWaiting r pe = some (lastS st) := by
  unfold fSn_lastWaiting
  rw [h.2.1]
  cases st with
  | nil => rw [if_pos (by decide)]; rfl
  | cons x t =>
    rw [List.length_cons] at hl ⊢
    rw [if_neg (nI_nle (by omega) (by omega)), if_neg (show ¬ (40 : Int32) < nI (t.length + 1) from nI_nlt (a := 40) (by omega) (by omega)), nI_pred, zrd_n (by omega) (by omega), h.2.2.2.2.2.2.1]; rfl
theorem x_add {st : List Nat} {cd : List aI} {on : Nat} {due : Bool} {r pa ot nu pe : Nat → Int32} (h : zX st cd on due r pa ot nu pe) (hl : cd.length < 40) {c : aI} {x y z : Int32} (hc : cX c x y z) : ∃ r' pa' ot' nu', fSn_addPart r pa ot nu x y z = some (r', pa', ot', nu') ∧ zX st (c :: cd) on due r' pa' ot' nu' pe ∧ r' 6 = r 6 ∧ r' 7 = r 7 ∧ r' 10 = r 10 := by
  obtain ⟨h5, h6, h7, h8, h9, hcd, hpd⟩ := h
  unfold fSn_addPart
  rw [h5, if_neg (zg40 hl), zwr_n hl (by omega), zwr_n hl (by omega), zwr_n hl (by omega)]
  refine ⟨_, _, _, _, rfl, ⟨?_, ?_, ?_, ?_, ?_, ⟨?_, cdX_up (Nat.le_refl _) hcd⟩, hpd⟩, ?_, ?_, ?_⟩
  · rw [zup_s, nI_1]; rfl
  · rw [zup_n (by omega)]; exact h6
  · rw [zup_n (by omega)]; exact h7
  · rw [zup_n (by omega)]; exact h8
  · rw [zup_n (by omega)]; exact h9
  · rw [zup_s, zup_s, zup_s]; exact hc
  · rw [zup_n (by omega)]
  · rw [zup_n (by omega)]
  · rw [zup_n (by omega)]
theorem m_code {st : List Nat} {cd : List aI} {on : Nat} {due : Bool} {r rd sk : Nat → Int32} (h : zMo st cd on due r rd sk) (hl : cd.length < 45) {c : aI} : ∃ rd', fM_code r rd (nI c.1) (nI c.2.1) (nI c.2.2) = some (zup r 44 (nI (cd.length + 1)), rd') ∧ zMo st (c :: cd) on due (zup r 44 (nI (cd.length + 1))) rd' sk := by
  obtain ⟨h1, h2, h3, h4, h5, hcd, hpd⟩ := h
  unfold fM_code
  rw [h1, show (3 : Int32) * nI cd.length = nI (3 * cd.length) from nI_mul 3 _, show nI (3 * cd.length) + 2 = nI (3 * cd.length + 2) from nI_add _ 2, nI_1, zwr_n (by omega) (by omega)]
  simp only [Option.bind_some]
  rw [zwr_n (by omega) (by omega)]
  simp only [Option.bind_some]
  rw [zwr_n (by omega) (by omega)]
  simp only [Option.bind_some, zlet, nI_1]
  refine ⟨_, rfl, ?_, ?_, ?_, ?_, ?_, ⟨⟨?_, ?_, ?_⟩, cdM_up (by omega) (cdM_up (by omega) (cdM_up (by omega) hcd))⟩, hpd⟩
  · rw [zup_s]; rfl
  · rw [zup_n (by omega)]; exact h2
  · rw [zup_n (by omega)]; exact h3
  · rw [zup_n (by omega)]; exact h4
  · rw [zup_n (by omega)]; exact h5
  · rw [zup_n (by omega), zup_n (by omega), zup_s]
  · rw [zup_n (by omega), zup_s]
  · rw [zup_s]
/-! ## nots are done -/
theorem sNot_len : ∀ (st : List Nat) (cd : List aI), (sNot st cd).1.length + (sNot st cd).2.length = st.length + cd.length ∧ (sNot st cd).1.length ≤ st.length ∧ wiC (sNot st cd).1 ≤ wiC st ∧ bnC (sNot st cd).1 = bnC st
  | [], cd => ⟨rfl, Nat.le_refl _, Nat.le_refl _, rfl⟩
  | 0 :: t, cd => by
    have := sNot_len t ((20, 0, 0) :: cd)
    rw [sNot]
    rw [List.length_cons] at this
    rw [List.length_cons, wiC, bnC, if_pos (Or.inl rfl), if_neg (by omega)]
    omega
  | (x + 1) :: t, cd => ⟨rfl, Nat.le_refl _, Nat.le_refl _, rfl⟩
theorem sNot_head : ∀ (st : List Nat) (cd : List aI), (sNot st cd).1.head? ≠ some 0
  | [], cd => by rw [sNot]; · exact fun h => by cases h
                 · intro t h; cases h
  | 0 :: t, cd => by rw [sNot]; exact sNot_head t _
  | (x + 1) :: t, cd => by
    rw [sNot]
    · show some (x + 1) ≠ some 0
      intro h; injection h with h; omega
    · intro t' h; injection h with h; omega
theorem zX_wi {st : List Nat} {cd : List aI} {on : Nat} {due : Bool} {r pa ot nu pe : Nat → Int32} (h : zX st cd on due r pa ot nu pe) : r 7 = nI (wiC st) := h.2.2.1
theorem x_notsL : ∀ (fu k : Nat) (st : List Nat) (cd : List aI) (on : Nat) (r pa ot nu pe : Nat → Int32), fu + k = 8 → wiC st ≤ fu → st.length + cd.length ≤ 40 → zX st cd on false r pa ot nu pe →
    ∃ r' pa' ot' nu', zLP (fun s : (Nat → Int32) × (Nat → Int32) × (Nat → Int32) × (Nat → Int32) × Int32 => fSn_endOne_L7 pe s.1 s.2.1 s.2.2.1 s.2.2.2.1 s.2.2.2.2) (r, pa, ot, nu, nI k) = some (r', pa', ot', nu') ∧ zX (sNot st cd).1 (sNot st cd).2 on false r' pa' ot' nu' pe ∧ r' 10 = r 10 := by
  intro fu
  induction fu with
  | zero =>
    intro k st cd on r pa ot nu pe hk hw hl h
    have hb : fSn_endOne_L7 pe r pa ot nu (nI k) = some (.inr (r, pa, ot, nu)) := by
      unfold fSn_endOne_L7
      rw [if_pos (ze8 (by omega) (by omega))]
    refine ⟨r, pa, ot, nu, zLP_out hb, ?_, rfl⟩
    cases st with
    | nil => exact h
    | cons x t =>
      cases x with
      | zero => rw [wiC, if_pos (Or.inl rfl)] at hw; omega
      | succ x => exact h
  | succ fu ih =>
    intro k st cd on r pa ot nu pe hk hw hl h
    have hlast := x_last h (by omega)
    cases st with
    | nil =>
      have hb : fSn_endOne_L7 pe r pa ot nu (nI k) = some (.inr (r, pa, ot, nu)) := by
        unfold fSn_endOne_L7
        rw [if_neg (zg8 (by omega)), hlast]
        simp only [Option.bind_some]
        rw [if_neg (show ¬ lastS [] = 12 by decide)]
      exact ⟨r, pa, ot, nu, zLP_out hb, h, rfl⟩
    | cons x t =>
      cases x with
      | zero =>
        rw [List.length_cons] at hl
        rw [wiC, if_pos (Or.inl rfl)] at hw
        obtain ⟨r1, pa1, ot1, nu1, a1, a2, a3, a4, a5⟩ := x_add h (by omega) (c := (20, 0, 0)) (x := 12) (y := -1) (z := 0) ⟨rfl, fun h => by rcases h with h | h <;> exact absurd h (by decide), fun h => absurd h (by decide)⟩
        have hb : fSn_endOne_L7 pe r pa ot nu (nI k) = some (.inl (zup (zup r1 6 (r1 6 - 1)) 7 (zup r1 6 (r1 6 - 1) 7 - 1), pa1, ot1, nu1, nI (k + 1))) := by
          unfold fSn_endOne_L7
          rw [if_neg (zg8 (by omega)), hlast]
          simp only [Option.bind_some]
          rw [if_pos (show lastS (0 :: t) = 12 from rfl), a1]
          simp only [Option.bind_some, zlet, nI_1]
        obtain ⟨h5, h6, h7, h8, h9, hcd, hpd⟩ := a2
        have e6 : r1 6 - 1 = nI t.length := by rw [h6, List.length_cons, nI_pred]
        have e7 : zup r1 6 (r1 6 - 1) 7 - 1 = nI (wiC t) := by rw [zup_n (by omega), h7, wiC, if_pos (Or.inl rfl), nI_pred]
        have hn : zX t ((20, 0, 0) :: cd) on false (zup (zup r1 6 (r1 6 - 1)) 7 (zup r1 6 (r1 6 - 1) 7 - 1)) pa1 ot1 nu1 pe := by
          refine ⟨?_, ?_, ?_, ?_, ?_, hcd, hpd.2⟩
          · rw [zup_n (by omega), zup_n (by omega)]; exact h5
          · rw [zup_n (by omega), zup_s]; exact e6
          · rw [zup_s]; exact e7
          · rw [zup_n (by omega), zup_n (by omega)]; exact h8
          · rw [zup_n (by omega), zup_n (by omega)]; exact h9
        obtain ⟨r', pa', ot', nu', b1, b2, b3⟩ := ih (k + 1) t ((20, 0, 0) :: cd) on _ pa1 ot1 nu1 pe (by omega) (by omega) (by rw [List.length_cons]; omega) hn
        refine ⟨r', pa', ot', nu', (zLP_go hb).trans b1, b2, b3.trans ?_⟩
        rw [zup_n (by omega), zup_n (by omega), a5]
      | succ x =>
        have hb : fSn_endOne_L7 pe r pa ot nu (nI k) = some (.inr (r, pa, ot, nu)) := by
          unfold fSn_endOne_L7
          rw [if_neg (zg8 (by omega)), hlast]
          simp only [Option.bind_some]
          have : ¬ nI (cS (x + 1)) = 12 := fun e => by
            have := (nI_eq (b := 12) (by have := cS_lt (x + 1); omega) (by omega)).mp e
            revert this
            unfold cS
            split <;> omega
          rw [if_neg (show ¬ lastS ((x + 1) :: t) = 12 from this)]
        exact ⟨r, pa, ot, nu, zLP_out hb, h, rfl⟩
theorem x_nots {st : List Nat} {cd : List aI} {on : Nat} {due : Bool} {r pa ot nu pe : Nat → Int32} (hw : wiC st ≤ 8) (hl : st.length + cd.length ≤ 40) (h : zX st cd on due r pa ot nu pe) : ∃ r' pa' ot' nu', fSn_endOne r pa ot nu pe = some (r', pa', ot', nu') ∧ zX (sNot st cd).1 (sNot st cd).2 on false r' pa' ot' nu' pe ∧ r' 10 = r 10 := by
  obtain ⟨h5, h6, h7, h8, h9, hcd, hpd⟩ := h
  have h' : zX st cd on false (zup r 9 0) pa ot nu pe := by
    refine ⟨?_, ?_, ?_, ?_, ?_, hcd, hpd⟩
    · rw [zup_n (by omega)]; exact h5
    · rw [zup_n (by omega)]; exact h6
    · rw [zup_n (by omega)]; exact h7
    · rw [zup_n (by omega)]; exact h8
    · rw [zup_s]; rfl
  obtain ⟨r', pa', ot', nu', b1, b2, b3⟩ := x_notsL 8 0 st cd on _ pa ot nu pe rfl hw hl h'
  unfold fSn_endOne
  simp only [zlet]
  have b1' : zLP (fun s : (Nat → Int32) × (Nat → Int32) × (Nat → Int32) × (Nat → Int32) × Int32 => fSn_endOne_L7 pe s.1 s.2.1 s.2.2.1 s.2.2.2.1 s.2.2.2.2) (zup r 9 0, pa, ot, nu, 0) = some (r', pa', ot', nu') := b1
  rw [b1']
  exact ⟨_, _, _, _, rfl, b2, b3.trans (zup_n (by omega))⟩
def mH (r r' : Nat → Int32) : Prop := ∀ j, j < 44 ∨ 48 < j → r' j = r j
theorem mH_up {r s : Nat → Int32} (h : mH r s) {k : Nat} {v : Int32} (hk : 44 ≤ k ∧ k ≤ 48) : mH r (zup s k v) := fun j hj => by rw [zup_n (by omega)]; exact h j hj
theorem mH_trans {r s t : Nat → Int32} (h : mH r s) (g : mH s t) : mH r t := fun j hj => (g j hj).trans (h j hj)
theorem m_nots : ∀ (st : List Nat) (cd : List aI) (on : Nat) (due : Bool) (r rd sk : Nat → Int32), st.length + cd.length ≤ 40 → zMo st cd on due r rd sk →
    ∃ r' rd', fM_nots r rd sk = some (r', rd') ∧ zMo (sNot st cd).1 (sNot st cd).2 on due r' rd' sk ∧ mH r r' := by
  have key : ∀ (st : List Nat) (cd : List aI) (on : Nat) (due : Bool) (r rd sk : Nat → Int32), st.length + cd.length ≤ 40 → zMo st cd on due r rd sk → ∃ v, zLP (fun s : (Nat → Int32) × (Nat → Int32) => fM_nots_L0 sk s.1 s.2) (r, rd) = some v ∧ zMo (sNot st cd).1 (sNot st cd).2 on due v.1 v.2 sk ∧ mH r v.1 := by
    intro st
    induction st with
    | nil =>
      intro cd on due r rd sk hl h
      have hb : fM_nots_L0 sk r rd = some (.inr (r, rd)) := by
        unfold fM_nots_L0
        rw [h.2.2.1, if_pos (by decide)]
      exact ⟨(r, rd), zLP_out hb, h, fun _ _ => rfl⟩
    | cons x t ih =>
      intro cd on due r rd sk hl h
      rw [List.length_cons] at hl
      obtain ⟨h1, h2, h3, h4, h5, hcd, hpd⟩ := id h
      rw [List.length_cons] at h3
      have hz : zrd sk 45 (r 46 - 1) = some (nI (mS x)) := by rw [h3, nI_pred, zrd_n (by omega) (by omega), hpd.1]
      have hn0 : ¬ r 46 ≤ 0 := by rw [h3]; exact nI_nle (by omega) (by omega)
      cases x with
      | zero =>
        have e47 : zup r 46 (r 46 - 1) 47 - 1 = nI (wiC t + 1) := by rw [zup_n (by omega), h4, wiC, if_pos (Or.inl rfl), nI_pred]
        have hn : zMo t cd on due (zup (zup r 46 (r 46 - 1)) 47 (zup r 46 (r 46 - 1) 47 - 1)) rd sk := by
          refine ⟨?_, ?_, ?_, ?_, ?_, hcd, hpd.2⟩
          · rw [zup_n (by omega), zup_n (by omega)]; exact h1
          · rw [zup_n (by omega), zup_n (by omega)]; exact h2
          · rw [zup_n (by omega), zup_s, h3, nI_pred]
          · rw [zup_s]; exact e47
          · rw [zup_n (by omega), zup_n (by omega)]; exact h5
        obtain ⟨rd1, c1, c2⟩ := m_code hn (by omega) (c := (20, 0, 0))
        have c1' : fM_code (zup (zup r 46 (r 46 - 1)) 47 (zup r 46 (r 46 - 1) 47 - 1)) rd 20 0 0 = _ := c1
        have hb : fM_nots_L0 sk r rd = some (.inl (zup (zup (zup r 46 (r 46 - 1)) 47 (zup r 46 (r 46 - 1) 47 - 1)) 44 (nI (cd.length + 1)), rd1)) := by
          unfold fM_nots_L0
          rw [if_neg hn0, hz]
          simp only [Option.bind_some]
          rw [if_pos (show nI (mS 0) = 20 from rfl)]
          simp only [zlet]
          rw [c1']
          rfl
        obtain ⟨v, v1, v2, v3⟩ := ih ((20, 0, 0) :: cd) on due _ rd1 sk (by rw [List.length_cons]; omega) c2
        exact ⟨v, (zLP_go hb).trans v1, v2, mH_trans (mH_up (mH_up (mH_up (fun _ _ => rfl) (by omega)) (by omega)) (by omega)) v3⟩
      | succ x =>
        have hb : fM_nots_L0 sk r rd = some (.inr (r, rd)) := by
          unfold fM_nots_L0
          rw [if_neg hn0, hz]
          simp only [Option.bind_some]
          have : ¬ nI (mS (x + 1)) = 20 := fun e => by
            have := (nI_eq (b := 20) (by have := mS_lt (x + 1); omega) (by omega)).mp e
            revert this
            unfold mS
            split <;> omega
          rw [if_neg this]
        exact ⟨(r, rd), zLP_out hb, h, fun _ _ => rfl⟩
  intro st cd on due r rd sk hl h
  obtain ⟨⟨v1, v2⟩, k1, k2, k3⟩ := key st cd on due r rd sk hl h
  unfold fM_nots
  rw [k1]
  exact ⟨v1, v2, rfl, k2, k3⟩
