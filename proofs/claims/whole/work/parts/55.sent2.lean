/-! ===== ands and ors are done; what waits more ===== -/
theorem sJoin_len (w : Bool) : ∀ (st : List Nat) (cd : List aI), (sJoin w st cd).1.length + (sJoin w st cd).2.length = st.length + cd.length ∧ (sJoin w st cd).1.length ≤ st.length ∧ wiC (sJoin w st cd).1 = wiC st
  | [], cd => ⟨rfl, Nat.le_refl _, rfl⟩
  | 0 :: t, cd => ⟨rfl, Nat.le_refl _, rfl⟩
  | 1 :: t, cd => by
    have := sJoin_len w t ((21, 0, 0) :: cd)
    rw [sJoin]
    rw [List.length_cons] at this
    rw [List.length_cons, wiC, if_neg (by omega)]
    omega
  | 2 :: t, cd => by
    rw [sJoin]
    split
    · have := sJoin_len w t ((22, 0, 0) :: cd)
      rw [List.length_cons] at this
      rw [List.length_cons, wiC, if_neg (by omega)]
      omega
    · exact ⟨rfl, Nat.le_refl _, rfl⟩
  | (x + 3) :: t, cd => ⟨rfl, Nat.le_refl _, rfl⟩
theorem x_joinL (w : Bool) {wv : Int32} (hwv : wv = if w then 10 else 11) : ∀ (fu k : Nat) (st : List Nat) (cd : List aI) (on : Nat) (due : Bool) (r pa ot nu pe : Nat → Int32), fu + k = 40 → st.length ≤ fu → st.length + cd.length ≤ 40 → zX st cd on due r pa ot nu pe →
    ∃ r' pa' ot' nu', zLP (fun s : (Nat → Int32) × (Nat → Int32) × (Nat → Int32) × (Nat → Int32) × Int32 => fSn_settleWaiting_L2 pe wv s.1 s.2.1 s.2.2.1 s.2.2.2.1 s.2.2.2.2) (r, pa, ot, nu, nI k) = some (r', pa', ot', nu') ∧ zX (sJoin w st cd).1 (sJoin w st cd).2 on due r' pa' ot' nu' pe ∧ r' 10 = r 10 := by
  intro fu
  induction fu with
  | zero =>
    intro k st cd on due r pa ot nu pe hk hs hl h
    have hst : st = [] := List.length_eq_zero_iff.mp (by omega)
    subst hst
    have hb : fSn_settleWaiting_L2 pe wv r pa ot nu (nI k) = some (.inr (r, pa, ot, nu)) := by
      unfold fSn_settleWaiting_L2
      rw [if_pos (ze40 (by omega) (by omega))]
    exact ⟨r, pa, ot, nu, zLP_out hb, h, rfl⟩
  | succ fu ih =>
    intro k st cd on due r pa ot nu pe hk hs hl h
    have hlast := x_last h (by omega)
    have hk40 : ¬ (40 : Int32) ≤ nI k := zg40 (by omega)
    have hpop : ∀ (x : Nat) (t : List Nat) (c : aI), st = x :: t → (x = 1 ∨ x = 2) → cX c (nI (cS x)) (-1) 0 → (∀ r1 pa1 ot1 nu1, fSn_addPart r pa ot nu (nI (cS x)) (-1) 0 = some (r1, pa1, ot1, nu1) → fSn_settleWaiting_L2 pe wv r pa ot nu (nI k) = some (.inl (zup r1 6 (r1 6 - 1), pa1, ot1, nu1, nI (k + 1)))) → sJoin w st cd = sJoin w t (c :: cd) →
        ∃ r' pa' ot' nu', zLP (fun s : (Nat → Int32) × (Nat → Int32) × (Nat → Int32) × (Nat → Int32) × Int32 => fSn_settleWaiting_L2 pe wv s.1 s.2.1 s.2.2.1 s.2.2.2.1 s.2.2.2.2) (r, pa, ot, nu, nI k) = some (r', pa', ot', nu') ∧ zX (sJoin w st cd).1 (sJoin w st cd).2 on due r' pa' ot' nu' pe ∧ r' 10 = r 10 := by
      intro x t c hst hx hc hgo hj
      subst hst
      rw [List.length_cons] at hl hs
      obtain ⟨r1, pa1, ot1, nu1, a1, a2, a3, a4, a5⟩ := x_add h (by omega) hc
      obtain ⟨h5, h6, h7, h8, h9, hcd, hpd⟩ := a2
      have hn : zX t (c :: cd) on due (zup r1 6 (r1 6 - 1)) pa1 ot1 nu1 pe := by
        refine ⟨?_, ?_, ?_, ?_, ?_, hcd, hpd.2⟩
        · rw [zup_n (by omega)]; exact h5
        · rw [zup_s, h6, List.length_cons, nI_pred]
        · rw [zup_n (by omega), h7, wiC, if_neg (by omega), Nat.add_zero]
        · rw [zup_n (by omega)]; exact h8
        · rw [zup_n (by omega)]; exact h9
      obtain ⟨r', pa', ot', nu', b1, b2, b3⟩ := ih (k + 1) t (c :: cd) on due _ pa1 ot1 nu1 pe (by omega) (by omega) (by rw [List.length_cons]; omega) hn
      rw [hj]
      exact ⟨r', pa', ot', nu', (zLP_go (hgo r1 pa1 ot1 nu1 a1)).trans b1, b2, b3.trans ((zup_n (by omega)).trans a5)⟩
    have hstop : fSn_settleWaiting_L2 pe wv r pa ot nu (nI k) = some (.inr (r, pa, ot, nu)) → sJoin w st cd = (st, cd) →
        ∃ r' pa' ot' nu', zLP (fun s : (Nat → Int32) × (Nat → Int32) × (Nat → Int32) × (Nat → Int32) × Int32 => fSn_settleWaiting_L2 pe wv s.1 s.2.1 s.2.2.1 s.2.2.2.1 s.2.2.2.2) (r, pa, ot, nu, nI k) = some (r', pa', ot', nu') ∧ zX (sJoin w st cd).1 (sJoin w st cd).2 on due r' pa' ot' nu' pe ∧ r' 10 = r 10 := fun hb hj => by
      rw [hj]; exact ⟨r, pa, ot, nu, zLP_out hb, h, rfl⟩
    match st, hlast, hpop, hstop with
    | [], hlast, hpop, hstop =>
      refine hstop ?_ rfl
      unfold fSn_settleWaiting_L2
      rw [if_neg hk40, hlast]
      simp only [Option.bind_some, zlet]
      rw [if_neg (show ¬ lastS [] = 11 by decide), if_neg (show ¬ lastS [] = 10 by decide)]
    | 0 :: t, hlast, hpop, hstop =>
      refine hstop ?_ rfl
      unfold fSn_settleWaiting_L2
      rw [if_neg hk40, hlast]
      simp only [Option.bind_some, zlet]
      rw [if_neg (show ¬ lastS (0 :: t) = 11 from (by decide : ¬ nI 12 = 11)), if_neg (show ¬ lastS (0 :: t) = 10 from (by decide : ¬ nI 12 = 10))]
    | 1 :: t, hlast, hpop, hstop =>
      refine hpop 1 t (21, 0, 0) rfl (Or.inl rfl) ⟨rfl, fun h => by rcases h with h | h <;> exact absurd h (by decide), fun h => absurd h (by decide)⟩ (fun r1 pa1 ot1 nu1 e => ?_) rfl
      unfold fSn_settleWaiting_L2
      rw [if_neg hk40, hlast]
      simp only [Option.bind_some, zlet]
      rw [if_pos (show lastS (1 :: t) = 11 from rfl), show lastS (1 :: t) = nI (cS 1) from rfl, e]
      simp only [Option.bind_some, nI_1]
    | 2 :: t, hlast, hpop, hstop =>
      cases w with
      | true =>
        refine hpop 2 t (22, 0, 0) rfl (Or.inr rfl) ⟨rfl, fun h => by rcases h with h | h <;> exact absurd h (by decide), fun h => absurd h (by decide)⟩ (fun r1 pa1 ot1 nu1 e => ?_) rfl
        unfold fSn_settleWaiting_L2
        rw [if_neg hk40, hlast]
        simp only [Option.bind_some, zlet]
        rw [if_neg (show ¬ lastS (2 :: t) = 11 from (by decide : ¬ nI 10 = 11)), if_pos (show lastS (2 :: t) = 10 from rfl), if_pos (by rw [hwv]; rfl), show lastS (2 :: t) = nI (cS 2) from rfl, e]
        simp only [Option.bind_some, nI_1]
      | false =>
        refine hstop ?_ rfl
        unfold fSn_settleWaiting_L2
        rw [if_neg hk40, hlast]
        simp only [Option.bind_some, zlet]
        rw [if_neg (show ¬ lastS (2 :: t) = 11 from (by decide : ¬ nI 10 = 11)), if_pos (show lastS (2 :: t) = 10 from rfl), if_neg (by rw [hwv]; decide)]
    | (x + 3) :: t, hlast, hpop, hstop =>
      refine hstop ?_ rfl
      unfold fSn_settleWaiting_L2
      rw [if_neg hk40, hlast]
      simp only [Option.bind_some, zlet]
      rw [if_neg (show ¬ lastS ((x + 3) :: t) = 11 from (by decide : ¬ nI 22 = 11)), if_neg (show ¬ lastS ((x + 3) :: t) = 10 from (by decide : ¬ nI 22 = 10))]
theorem x_join (w : Bool) {wv : Int32} (hwv : wv = if w then 10 else 11) {st : List Nat} {cd : List aI} {on : Nat} {due : Bool} {r pa ot nu pe : Nat → Int32} (hl : st.length + cd.length ≤ 40) (h : zX st cd on due r pa ot nu pe) : ∃ r' pa' ot' nu', fSn_settleWaiting r pa ot nu pe wv = some (r', pa', ot', nu') ∧ zX (sJoin w st cd).1 (sJoin w st cd).2 on due r' pa' ot' nu' pe ∧ r' 10 = r 10 := by
  obtain ⟨r', pa', ot', nu', b1, b2, b3⟩ := x_joinL w hwv 40 0 st cd on due r pa ot nu pe rfl (by omega) hl h
  unfold fSn_settleWaiting
  have b1' : zLP (fun s : (Nat → Int32) × (Nat → Int32) × (Nat → Int32) × (Nat → Int32) × Int32 => fSn_settleWaiting_L2 pe wv s.1 s.2.1 s.2.2.1 s.2.2.2.1 s.2.2.2.2) (r, pa, ot, nu, 0) = some (r', pa', ot', nu') := b1
  rw [b1']
  exact ⟨_, _, _, _, rfl, b2, b3⟩
theorem m_join (w : Bool) {wv : Int32} (hwv : wv = if w then 22 else 21) : ∀ (st : List Nat) (cd : List aI) (on : Nat) (due : Bool) (r rd sk : Nat → Int32), st.length + cd.length ≤ 40 → zMo st cd on due r rd sk →
    ∃ r' rd', fM_joins r rd sk wv = some (r', rd') ∧ zMo (sJoin w st cd).1 (sJoin w st cd).2 on due r' rd' sk ∧ mH r r' := by
  have key : ∀ (st : List Nat) (cd : List aI) (on : Nat) (due : Bool) (r rd sk : Nat → Int32), st.length + cd.length ≤ 40 → zMo st cd on due r rd sk → ∃ v, zLP (fun s : (Nat → Int32) × (Nat → Int32) => fM_joins_L0 sk wv s.1 s.2) (r, rd) = some v ∧ zMo (sJoin w st cd).1 (sJoin w st cd).2 on due v.1 v.2 sk ∧ mH r v.1 := by
    intro st
    induction st with
    | nil =>
      intro cd on due r rd sk hl h
      have hb : fM_joins_L0 sk wv r rd = some (.inr (r, rd)) := by
        unfold fM_joins_L0
        rw [h.2.2.1, if_pos (by decide)]
      exact ⟨(r, rd), zLP_out hb, h, fun _ _ => rfl⟩
    | cons x t ih =>
      intro cd on due r rd sk hl h
      rw [List.length_cons] at hl
      obtain ⟨h1, h2, h3, h4, h5, hcd, hpd⟩ := id h
      rw [List.length_cons] at h3
      have hz : zrd sk 45 (r 46 - 1) = some (nI (mS x)) := by rw [h3, nI_pred, zrd_n (by omega) (by omega), hpd.1]
      have hn0 : ¬ r 46 ≤ 0 := by rw [h3]; exact nI_nle (by omega) (by omega)
      have e46 : r 46 - 1 = nI t.length := by rw [h3, nI_pred]
      have hstop : fM_joins_L0 sk wv r rd = some (.inr (r, rd)) → sJoin w (x :: t) cd = (x :: t, cd) → ∃ v, zLP (fun s : (Nat → Int32) × (Nat → Int32) => fM_joins_L0 sk wv s.1 s.2) (r, rd) = some v ∧ zMo (sJoin w (x :: t) cd).1 (sJoin w (x :: t) cd).2 on due v.1 v.2 sk ∧ mH r v.1 := fun hb hj => by
        rw [hj]; exact ⟨(r, rd), zLP_out hb, h, fun _ _ => rfl⟩
      have hpop : ∀ c : aI, nI c.1 = nI (mS x) → c.2.1 = 0 → c.2.2 = 0 → (x = 1 ∨ x = 2) → (∀ q, (zrd sk 45 (zup r 46 (r 46 - 1) 46)).bind (fun v13 => (fM_code (zup r 46 (r 46 - 1)) rd v13 0 0).bind (fun y14 => some (Sum.inl (β := (Nat → Int32) × (Nat → Int32)) (y14.1, y14.2)))) = some (.inl q) → fM_joins_L0 sk wv r rd = some (.inl q)) → sJoin w (x :: t) cd = sJoin w t (c :: cd) → ∃ v, zLP (fun s : (Nat → Int32) × (Nat → Int32) => fM_joins_L0 sk wv s.1 s.2) (r, rd) = some v ∧ zMo (sJoin w (x :: t) cd).1 (sJoin w (x :: t) cd).2 on due v.1 v.2 sk ∧ mH r v.1 := by
        intro c hc1 hc2 hc3 hx hgo hj
        have hn : zMo t cd on due (zup r 46 (r 46 - 1)) rd sk := by
          refine ⟨?_, ?_, ?_, ?_, ?_, hcd, hpd.2⟩
          · rw [zup_n (by omega)]; exact h1
          · rw [zup_n (by omega)]; exact h2
          · rw [zup_s]; exact e46
          · rw [zup_n (by omega), h4, wiC, if_neg (by omega), Nat.add_zero]
          · rw [zup_n (by omega)]; exact h5
        obtain ⟨rd1, c1, c2⟩ := m_code hn (by omega) (c := c)
        rw [hc1, hc2, hc3] at c1
        have c1' : fM_code (zup r 46 (r 46 - 1)) rd (nI (mS x)) 0 0 = _ := c1
        have hb := hgo (zup (zup r 46 (r 46 - 1)) 44 (nI (cd.length + 1)), rd1) (by
          rw [zup_s, hz]
          simp only [Option.bind_some]
          rw [c1']; rfl)
        obtain ⟨v, v1, v2, v3⟩ := ih (c :: cd) on due _ rd1 sk (by rw [List.length_cons]; omega) c2
        rw [hj]
        exact ⟨v, (zLP_go hb).trans v1, v2, mH_trans (mH_up (mH_up (fun _ _ => rfl) (by omega)) (by omega)) v3⟩
      match x, hz, hstop, hpop with
      | 0, hz, hstop, hpop =>
        refine hstop ?_ rfl
        unfold fM_joins_L0
        rw [if_neg hn0, hz]
        simp only [Option.bind_some, zlet]
        rw [if_neg (by decide), if_neg (by decide)]
      | 1, hz, hstop, hpop =>
        refine hpop (21, 0, 0) rfl rfl rfl (Or.inl rfl) (fun q hq => ?_) rfl
        unfold fM_joins_L0
        rw [if_neg hn0, hz]
        simp only [Option.bind_some, zlet]
        rw [if_pos (by decide)]
        exact hq
      | 2, hz, hstop, hpop =>
        cases w with
        | true =>
          refine hpop (22, 0, 0) rfl rfl rfl (Or.inr rfl) (fun q hq => ?_) rfl
          unfold fM_joins_L0
          rw [if_neg hn0, hz]
          simp only [Option.bind_some, zlet]
          rw [if_neg (by decide), if_pos (by decide), if_pos (by rw [hwv]; rfl)]
          exact hq
        | false =>
          refine hstop ?_ rfl
          unfold fM_joins_L0
          rw [if_neg hn0, hz]
          simp only [Option.bind_some, zlet]
          rw [if_neg (by decide), if_pos (by decide), if_neg (by rw [hwv]; decide)]
      | x + 3, hz, hstop, hpop =>
        refine hstop ?_ rfl
        unfold fM_joins_L0
        rw [if_neg hn0, hz]
        simp only [Option.bind_some, zlet]
        rw [if_neg (show ¬ nI (mS (x + 3)) = 21 by show ¬ nI 23 = 21; decide), if_neg (show ¬ nI (mS (x + 3)) = 22 by show ¬ nI 23 = 22; decide)]
  intro st cd on due r rd sk hl h
  obtain ⟨⟨v1, v2⟩, k1, k2, k3⟩ := key st cd on due r rd sk hl h
  unfold fM_joins
  rw [k1]
  exact ⟨v1, v2, rfl, k2, k3⟩
/-! ## what holds of parts and of what waits -/
def sI (st : List Nat) (cd : List aI) (on : Nat) (due : Bool) : Prop := cd.length + st.length + (if due then 0 else 1) ≤ 2 * on ∧ on ≤ 20 ∧ wiC st ≤ 8 ∧ wfS st ∧ (due = false → st.head? ≠ some 0) ∧ dpC cd = bnC st + (if due then 0 else 1) ∧ rpn cd ∧ iAll cd
theorem iAll_c {c : aI} {cd : List aI} (h : iAll cd) (hc : iOK c) : iAll (c :: cd) := fun x hx => by
  rcases List.mem_cons.mp hx with e | e
  · rw [e]; exact hc
  · exact h x e
theorem wfS_t {x : Nat} {t : List Nat} (h : wfS (x :: t)) : wfS t := h.2
/-- the nots right ahead of a one -/
theorem sI_nots : ∀ (st : List Nat) (cd : List aI) (on : Nat), cd.length + st.length + 1 ≤ 2 * on → on ≤ 20 → wiC st ≤ 8 → wfS st → dpC cd = bnC st + 1 → rpn cd → iAll cd → sI (sNot st cd).1 (sNot st cd).2 on false
  | [], cd, on, h1, h2, h3, h4, h5, h6, h7 => ⟨h1, h2, h3, h4, (fun _ h => (by cases h)), h5, h6, h7⟩
  | 0 :: t, cd, on, h1, h2, h3, h4, h5, h6, h7 => by
    rw [List.length_cons] at h1
    rw [wiC, if_pos (Or.inl rfl)] at h3
    rw [bnC, if_neg (by omega)] at h5
    rw [sNot]
    refine sI_nots t ((20, 0, 0) :: cd) on (by rw [List.length_cons]; omega) h2 (by omega) h4.2 ?_ ⟨fun _ => by omega, fun h => by rcases h with h | h <;> exact absurd h (by decide), h6⟩ (iAll_c h7 ⟨Or.inr (Or.inl rfl), by decide, by decide, fun h => absurd h (by decide)⟩)
    show dpC cd = _
    omega
  | (x + 1) :: t, cd, on, h1, h2, h3, h4, h5, h6, h7 => ⟨h1, h2, h3, h4, (fun _ h => (by injection h with h; omega)), h5, h6, h7⟩
/-- the ands and ors that are done -/
theorem sI_joins (w : Bool) : ∀ (st : List Nat) (cd : List aI) (on : Nat), sI st cd on false → sI (sJoin w st cd).1 (sJoin w st cd).2 on false
  | [], cd, on, h => h
  | 0 :: t, cd, on, h => h
  | 1 :: t, cd, on, ⟨h1, h2, h3, h4, h5, h6, h7, h8⟩ => by
    rw [List.length_cons] at h1
    rw [wiC, if_neg (by omega)] at h3
    rw [bnC, if_pos (Or.inl rfl)] at h6
    simp only [Bool.false_eq_true, if_false] at h1 h6
    rw [sJoin]
    refine sI_joins w t ((21, 0, 0) :: cd) on ⟨?_, h2, by omega, h4.2, fun _ => h4.1 (Or.inl rfl), ?_, ⟨fun h => absurd h (by decide), fun _ => by omega, h7⟩, iAll_c h8 ⟨Or.inr (Or.inr (Or.inl rfl)), by decide, by decide, fun h => absurd h (by decide)⟩⟩
    · rw [List.length_cons]; simp only [Bool.false_eq_true, if_false]; omega
    · show dpC cd - 1 = _
      simp only [Bool.false_eq_true, if_false]; omega
  | 2 :: t, cd, on, ⟨h1, h2, h3, h4, h5, h6, h7, h8⟩ => by
    rw [sJoin]
    split
    · rw [List.length_cons] at h1
      rw [wiC, if_neg (by omega)] at h3
      rw [bnC, if_pos (Or.inr rfl)] at h6
      simp only [Bool.false_eq_true, if_false] at h1 h6
      refine sI_joins w t ((22, 0, 0) :: cd) on ⟨?_, h2, by omega, h4.2, fun _ => h4.1 (Or.inr rfl), ?_, ⟨fun h => absurd h (by decide), fun _ => by omega, h7⟩, iAll_c h8 ⟨Or.inr (Or.inr (Or.inr rfl)), by decide, by decide, fun h => absurd h (by decide)⟩⟩
      · rw [List.length_cons]; simp only [Bool.false_eq_true, if_false]; omega
      · show dpC cd - 1 = _
        simp only [Bool.false_eq_true, if_false]; omega
    · exact ⟨h1, h2, h3, h4, h5, h6, h7, h8⟩
  | (x + 3) :: t, cd, on, h => h
theorem sJoin_head (st : List Nat) (cd : List aI) (on : Nat) (h : sI st cd on false) : (sJoin true st cd).1 = [] ∨ ∃ x t, (sJoin true st cd).1 = (x + 3) :: t := by
  have hh := (sI_joins true st cd on h).2.2.2.2.1 rfl
  have key : ∀ (st : List Nat) (cd : List aI), (sJoin true st cd).1.head? ≠ some 0 → (sJoin true st cd).1 = [] ∨ ∃ x t, (sJoin true st cd).1 = (x + 3) :: t := by
    intro st
    induction st with
    | nil => intro cd _; exact Or.inl rfl
    | cons x t ih =>
      intro cd hh
      match x, hh with
      | 0, hh => exact absurd rfl hh
      | 1, hh => exact ih _ hh
      | 2, hh => exact ih _ hh
      | x + 3, hh => exact Or.inr ⟨x, t, rfl⟩
  exact key st cd hh
