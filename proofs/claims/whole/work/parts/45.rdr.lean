/-! ===== words and tokens ===== -/
theorem lg_cmp0 {x y : Int64} : lg_cmp x y = 0 ↔ x = y := by
  unfold lg_cmp
  by_cases h : x > y
  · rw [if_pos h]
    constructor
    · intro e; exact absurd e (by decide)
    · intro e; subst e; exact absurd h (Int64.lt_irrefl)
  · rw [if_neg h]
    by_cases e : x = y
    · rw [if_pos e]; exact ⟨fun _ => e, fun _ => rfl⟩
    · rw [if_neg e]; exact ⟨fun h => absurd h (by decide), fun h => absurd h e⟩
/-- a word is held with its last letter first -/
def cv : List Nat → Nat
  | [] => 0
  | c :: t => cv t * 32 + (c - 96)
def mv : List Nat → Nat
  | [] => 0
  | c :: t => mv t * 256 + c
def wLet (w : List Nat) : Prop := ∀ c, c ∈ w → 97 ≤ c ∧ c ≤ 122
def wOK (w : List Nat) : Prop := wLet w ∧ w.length ≤ 7
theorem cv_inj : ∀ {a b : List Nat}, wLet a → wLet b → (cv a = cv b ↔ a = b)
  | [], [], _, _ => ⟨fun _ => rfl, fun _ => rfl⟩
  | [], c :: t, _, hb => by
    have := hb c (List.mem_cons_self)
    constructor
    · intro h; rw [cv, cv] at h; omega
    · intro h; cases h
  | c :: t, [], ha, _ => by
    have := ha c (List.mem_cons_self)
    constructor
    · intro h; rw [cv, cv] at h; omega
    · intro h; cases h
  | c :: t, d :: u, ha, hb => by
    have h1 := ha c (List.mem_cons_self)
    have h2 := hb d (List.mem_cons_self)
    have ih := cv_inj (a := t) (b := u) (fun x hx => ha x (List.mem_cons_of_mem _ hx)) (fun x hx => hb x (List.mem_cons_of_mem _ hx))
    constructor
    · intro h
      rw [cv, cv] at h
      have e1 : c = d := by omega
      have e2 : cv t = cv u := by omega
      rw [e1, ih.mp e2]
    · intro h; rw [h]
theorem mv_inj : ∀ {a b : List Nat}, wLet a → wLet b → (mv a = mv b ↔ a = b)
  | [], [], _, _ => ⟨fun _ => rfl, fun _ => rfl⟩
  | [], c :: t, _, hb => by
    have := hb c (List.mem_cons_self)
    constructor
    · intro h; rw [mv, mv] at h; omega
    · intro h; cases h
  | c :: t, [], ha, _ => by
    have := ha c (List.mem_cons_self)
    constructor
    · intro h; rw [mv, mv] at h; omega
    · intro h; cases h
  | c :: t, d :: u, ha, hb => by
    have h1 := ha c (List.mem_cons_self)
    have h2 := hb d (List.mem_cons_self)
    have ih := mv_inj (a := t) (b := u) (fun x hx => ha x (List.mem_cons_of_mem _ hx)) (fun x hx => hb x (List.mem_cons_of_mem _ hx))
    constructor
    · intro h
      rw [mv, mv] at h
      have e1 : c = d := by omega
      have e2 : mv t = mv u := by omega
      rw [e1, ih.mp e2]
    · intro h; rw [h]
theorem cv_lt : ∀ {a : List Nat}, wLet a → cv a < 32 ^ a.length
  | [], _ => by show 0 < 1; omega
  | c :: t, ha => by
    have h1 := ha c (List.mem_cons_self)
    have ih := cv_lt (a := t) (fun x hx => ha x (List.mem_cons_of_mem _ hx))
    rw [cv, List.length_cons, Nat.pow_succ]
    omega
theorem mv_lt : ∀ {a : List Nat}, wLet a → mv a < 256 ^ a.length
  | [], _ => by show 0 < 1; omega
  | c :: t, ha => by
    have h1 := ha c (List.mem_cons_self)
    have ih := mv_lt (a := t) (fun x hx => ha x (List.mem_cons_of_mem _ hx))
    rw [mv, List.length_cons, Nat.pow_succ]
    omega
theorem cv_lt7 {a : List Nat} (h : wOK a) : cv a < 2 ^ 35 := by
  have h1 := cv_lt h.1
  have h2 : 32 ^ a.length ≤ 32 ^ 7 := Nat.pow_le_pow_right (by omega) h.2
  have h3 : 32 ^ 7 = 2 ^ 35 := by decide
  omega
theorem mv_lt7 {a : List Nat} (h : wOK a) : mv a < 2 ^ 56 := by
  have h1 := mv_lt h.1
  have h2 : 256 ^ a.length ≤ 256 ^ 7 := Nat.pow_le_pow_right (by omega) h.2
  have h3 : 256 ^ 7 = 2 ^ 56 := by decide
  omega
theorem lN_eq63 {a b : Nat} (ha : a < 2 ^ 63) (hb : b < 2 ^ 63) : lN a = lN b ↔ a = b := by
  constructor
  · intro h
    have h1 : (Int64.ofNat a).toInt = (Int64.ofNat b).toInt := congrArg Int64.toInt h
    rw [Int64.toInt_ofNat_of_lt ha, Int64.toInt_ofNat_of_lt hb] at h1
    omega
  · intro h; rw [h]
theorem cw_eq {a b : List Nat} (ha : wOK a) (hb : wOK b) : lN (cv a) = lN (cv b) ↔ a = b := by
  rw [lN_eq63 (by have := cv_lt7 ha; omega) (by have := cv_lt7 hb; omega), cv_inj ha.1 hb.1]
theorem mw_eq {a b : List Nat} (ha : wOK a) (hb : wOK b) : lN (mv a) = lN (mv b) ↔ a = b := by
  rw [lN_eq63 (by have := mv_lt7 ha; omega) (by have := mv_lt7 hb; omega), mv_inj ha.1 hb.1]
/-! ## signs between tokens -/
def tSp (b : Nat → Nat) (i : Nat) : Bool := decide (b i = 32) || decide (b i = 10)
def skF (b : Nat → Nat) : Nat → Nat → Nat
  | 0, p => p
  | f + 1, p => if tSp b p = true then skF b f (p + 1) else p
theorem skF_ge {b : Nat → Nat} : ∀ f p, p ≤ skF b f p ∧ skF b f p ≤ p + f
  | 0, p => by rw [skF]; omega
  | f + 1, p => by
    rw [skF]
    split
    · have := skF_ge (b := b) f (p + 1); omega
    · omega
theorem skF_stop {b : Nat → Nat} : ∀ f p, skF b f p < p + f → tSp b (skF b f p) = false
  | 0, p, h => by rw [skF] at h; omega
  | f + 1, p, h => by
    rw [skF] at h ⊢
    split at h
    · next e => rw [if_pos e]; exact skF_stop f (p + 1) (by omega)
    · next e => rw [if_neg e]; exact Bool.eq_false_iff.mpr e
theorem skF_more {b : Nat → Nat} (g : Nat) : ∀ f p, skF b f p < p + f → skF b (f + g) p = skF b f p
  | 0, p, h => by rw [skF] at h; omega
  | f + 1, p, h => by
    rw [show f + 1 + g = (f + g) + 1 by omega, skF]
    rw [skF] at h ⊢
    split at h
    · next e => rw [if_pos e, if_pos e]; exact skF_more g f (p + 1) (by omega)
    · next e => rw [if_neg e, if_neg e]
theorem skF_le {b : Nat → Nat} (g : Nat) : ∀ f p, skF b f p ≤ skF b (f + g) p
  | 0, p => by rw [skF]; exact (skF_ge _ _).1
  | f + 1, p => by
    rw [show f + 1 + g = (f + g) + 1 by omega, skF, skF]
    split
    · exact skF_le g f (p + 1)
    · exact Nat.le_refl _
/-- the tape: n bytes -/
def tpX (n : Nat) (b : Nat → Nat) (tp tb : Nat → Int32) : Prop := n ≤ 940 ∧ tp 1 = nI n ∧ ∀ i, i < n → tb i = nI (b i) ∧ b i < 256
def tpM (n : Nat) (b : Nat → Nat) (mt : Nat → Int32) : Prop := ∀ i, i < n → mt i &&& 255 = nI (b i)
theorem x_byte {n : Nat} {b : Nat → Nat} {tp tb : Nat → Int32} (h : tpX n b tp tb) {i : Nat} (hi : i < n) : fTp_byteOf tp tb (nI i) = some (nI (b i)) := by
  have := h.1
  unfold fTp_byteOf
  rw [if_neg (nI_pos (by omega)), h.2.1, if_neg (nI_ge hi (by omega)), zrd_n (by omega) (by omega), (h.2.2 i hi).1]; rfl
theorem m_peek {n p : Nat} {b : Nat → Nat} {r mt : Nat → Int32} (hn : n ≤ 940) (h : tpM n b mt) (h3 : r 3 = nI n) (h4 : r 4 = nI p) (hp : p ≤ n) : fM_peek r mt = some (if p < n then nI (b p) else -1) := by
  unfold fM_peek
  rw [h3, h4]
  by_cases e : p < n
  · rw [if_neg (nI_ge e (by omega)), if_pos e, zrd_n (by omega) (by omega)]
    simp only [Option.bind_some, h p e]
  · rw [if_pos (nI_le (by omega) (by omega)), if_neg e]
theorem x_skip {n : Nat} {b : Nat → Nat} {tp tb : Nat → Int32} (h : tpX n b tp tb) {bd : Nat} (hb : bd ≤ n) : ∀ f p, f = bd - p → p ≤ 2000 → zLP (fun s : Int32 => fRd_goOn_L30 tp tb (nI bd) s) (nI p) = some (nI (skF b f p)) := by
  have hn := h.1
  intro f
  induction f with
  | zero =>
    intro p hp hp2
    refine zLP_out ?_
    unfold fRd_goOn_L30
    rw [if_pos (nI_le (by omega) (by omega))]; rfl
  | succ f ih =>
    intro p hp hp2
    have hpn : p < n := by omega
    have hb256 := (h.2.2 p hpn).2
    rw [skF]
    cases e : tSp b p with
    | true =>
      rw [if_pos rfl, ← ih (p + 1) (by omega) (by omega)]
      refine zLP_go ?_
      unfold fRd_goOn_L30
      rw [if_neg (nI_ge (by omega) (by omega)), x_byte h hpn]
      simp only [Option.bind_some, zlet, nI_1]
      unfold tSp at e
      rw [Bool.or_eq_true, decide_eq_true_eq, decide_eq_true_eq] at e
      by_cases e1 : b p = 32
      · rw [if_pos (by rw [e1]; rfl)]
      · rw [if_neg (fun h => e1 ((nI_k32 (by omega)).mp h))]
        have e2 : b p = 10 := by rcases e with e | e; exact absurd e e1; exact e
        rw [if_pos (by rw [e2]; rfl)]
    | false =>
      rw [if_neg (by decide)]
      refine zLP_out ?_
      unfold fRd_goOn_L30
      rw [if_neg (nI_ge (by omega) (by omega)), x_byte h hpn]
      simp only [Option.bind_some]
      unfold tSp at e
      rw [Bool.or_eq_false_iff, decide_eq_false_iff_not, decide_eq_false_iff_not] at e
      rw [if_neg (fun h => e.1 ((nI_k32 (by omega)).mp h)), if_neg (fun h => e.2 ((nI_k10 (by omega)).mp h))]
theorem m_skip {n : Nat} {b : Nat → Nat} {mt : Nat → Int32} (hn : n ≤ 940) (hb : ∀ i, i < n → b i < 256) (h : tpM n b mt) : ∀ f p (r : Nat → Int32), f + p = n → r 3 = nI n → r 4 = nI p → ∃ r', zLP (fun s : Nat → Int32 => fM_next_L0 mt s) r = some r' ∧ r' 4 = nI (skF b f p) ∧ ∀ j, j ≠ 4 → r' j = r j := by
  intro f
  induction f with
  | zero =>
    intro p r hp h3 h4
    refine ⟨r, zLP_out ?_, by rw [h4]; rfl, fun _ _ => rfl⟩
    unfold fM_next_L0
    rw [m_peek hn h h3 h4 (by omega), if_neg (by omega)]
    simp only [Option.bind_some]
    rw [if_neg (by decide), if_neg (by decide)]
  | succ f ih =>
    intro p r hp h3 h4
    have hpn : p < n := by omega
    have hb256 := hb p hpn
    rw [skF]
    cases e : tSp b p with
    | true =>
      obtain ⟨r', e1, e2, e3⟩ := ih (p + 1) (zup r 4 (nI (p + 1))) (by omega) (by rw [zup_n (by omega)]; exact h3) zup_s
      rw [if_pos rfl]
      refine ⟨r', (zLP_go ?_).trans e1, e2, fun j hj => by rw [e3 j hj, zup_n hj]⟩
      unfold fM_next_L0
      rw [m_peek hn h h3 h4 (by omega), if_pos hpn]
      simp only [Option.bind_some, zlet, h4, nI_1]
      unfold tSp at e
      rw [Bool.or_eq_true, decide_eq_true_eq, decide_eq_true_eq] at e
      by_cases e1 : b p = 32
      · rw [if_pos (by rw [e1]; rfl)]
      · rw [if_neg (fun h => e1 ((nI_k32 (by omega)).mp h))]
        have e2 : b p = 10 := by rcases e with e | e; exact absurd e e1; exact e
        rw [if_pos (by rw [e2]; rfl)]
    | false =>
      rw [if_neg (by decide)]
      refine ⟨r, zLP_out ?_, h4, fun _ _ => rfl⟩
      unfold fM_next_L0
      rw [m_peek hn h h3 h4 (by omega), if_pos hpn]
      simp only [Option.bind_some]
      unfold tSp at e
      rw [Bool.or_eq_false_iff, decide_eq_false_iff_not, decide_eq_false_iff_not] at e
      rw [if_neg (fun h => e.1 ((nI_k32 (by omega)).mp h)), if_neg (fun h => e.2 ((nI_k10 (by omega)).mp h))]
/-! ## runs of letters and digits -/
def isL (c : Nat) : Bool := decide (97 ≤ c) && decide (c ≤ 122)
def isG (c : Nat) : Bool := decide (48 ≤ c) && decide (c ≤ 57)
def rnF (b : Nat → Nat) : Nat → Nat → List Nat → List Nat × Nat
  | 0, p, l => (l, p)
  | f + 1, p, l => if (isL (b p) || isG (b p)) = true then rnF b f (p + 1) (b p :: l) else (l, p)
def lC : List Nat → Nat
  | [] => 0
  | c :: t => lC t + (if isL c then 1 else 0)
def gC_ : List Nat → Nat
  | [] => 0
  | c :: t => gC_ t + (if isL c then 0 else 1)
def cW : List Nat → Int64
  | [] => 0
  | c :: t => if isL c then cW t * 32 + lN (c - 96) else cW t
def cN : List Nat → Int32
  | [] => 0
  | c :: t => if isL c then cN t else cN t * 10 + nI (c - 48)
theorem lC_le : ∀ l, lC l + gC_ l = l.length
  | [] => rfl
  | c :: t => by
    have := lC_le t
    rw [lC, gC_, List.length_cons]
    split <;> omega
theorem rnF_len {b : Nat → Nat} : ∀ f p l, (rnF b f p l).1.length + p = l.length + (rnF b f p l).2 ∧ p ≤ (rnF b f p l).2 ∧ (rnF b f p l).2 ≤ p + f
  | 0, p, l => by rw [rnF]; exact ⟨rfl, by omega, by omega⟩
  | f + 1, p, l => by
    rw [rnF]
    split
    · have := rnF_len (b := b) f (p + 1) (b p :: l)
      rw [List.length_cons] at this
      omega
    · exact ⟨rfl, by omega, by omega⟩

theorem z_c97 {c : Nat} (h : 97 ≤ c) (h2 : c < 256) : (nI c - 97 + 1).toInt64 = lN (c - 96) := by
  rw [show (97 : Int32) = nI 97 from rfl, nI_sub h, nI_1, nI_l (by omega)]
  congr 1; omega
theorem nI_lt97 {c : Nat} (h : c < 256) : nI c < 97 ↔ c < 97 := nI_ltI (b := 97) (by omega) (by omega)
theorem nI_gt122 {c : Nat} (h : c < 256) : (122 : Int32) < nI c ↔ 122 < c := nI_ltI (a := 122) (by omega) (by omega)
theorem nI_lt48 {c : Nat} (h : c < 256) : nI c < 48 ↔ c < 48 := nI_ltI (b := 48) (by omega) (by omega)
theorem nI_gt57 {c : Nat} (h : c < 256) : (57 : Int32) < nI c ↔ 57 < c := nI_ltI (a := 57) (by omega) (by omega)
theorem x_run {n : Nat} {b : Nat → Nat} {tp tb : Nat → Int32} (h : tpX n b tp tb) : ∀ f p (l : List Nat) (r : Nat → Int32) (w : Nat → Int64), f + p = n → l.length ≤ p → r 7 = cN l → w 6 = cW l →
    ∃ r' w', zLP (fun s : (Nat → Int32) × (Nat → Int64) × Int32 × Int32 × Int32 => fRd_readRun_L28 tp tb (nI n) s.1 s.2.1 s.2.2.1 s.2.2.2.1 s.2.2.2.2) (r, w, nI (lC l), nI (gC_ l), nI p) = some (r', w', nI (lC (rnF b f p l).1), nI (gC_ (rnF b f p l).1), nI (rnF b f p l).2) ∧ r' 7 = cN (rnF b f p l).1 ∧ w' 6 = cW (rnF b f p l).1 ∧ (∀ j, j ≠ 7 → r' j = r j) ∧ ∀ j, j ≠ 6 → w' j = w j := by
  have hn := h.1
  intro f
  induction f with
  | zero =>
    intro p l r w hp hl h7 h6
    refine ⟨r, w, zLP_out ?_, h7, h6, fun _ _ => rfl, fun _ _ => rfl⟩
    show fRd_readRun_L28 tp tb (nI n) r w (nI (lC l)) (nI (gC_ l)) (nI p) = _
    unfold fRd_readRun_L28
    rw [if_pos (nI_le (by omega) (by omega))]; rfl
  | succ f ih =>
    intro p l r w hp hl h7 h6
    have hpn : p < n := by omega
    have hb256 := (h.2.2 p hpn).2
    rw [rnF]
    cases e1 : isL (b p) with
    | true =>
      have e1' := e1
      unfold isL at e1
      rw [Bool.and_eq_true, decide_eq_true_eq, decide_eq_true_eq] at e1
      rw [Bool.true_or, if_pos rfl]
      obtain ⟨r', w', k1, k2, k3, k4, k5⟩ := ih (p + 1) (b p :: l) r (zup w 6 (fRd_withLetter (w 6) (nI (b p)))) (by omega) (by rw [List.length_cons]; omega) (by rw [h7, cN, if_pos e1']) (by rw [zup_s, h6, cW, if_pos e1']; unfold fRd_withLetter; rw [z_c97 e1.1 hb256])
      refine ⟨r', w', (zLP_go ?_).trans k1, k2, k3, k4, fun j hj => by rw [k5 j hj, zup_n hj]⟩
      show fRd_readRun_L28 tp tb (nI n) r w (nI (lC l)) (nI (gC_ l)) (nI p) = _
      unfold fRd_readRun_L28
      rw [if_neg (nI_ge hpn (by omega)), x_byte h hpn]
      simp only [Option.bind_some, zlet]
      rw [if_neg (fun h => by have := (nI_lt97 hb256).mp h; omega), if_neg (fun h => by have := (nI_gt122 hb256).mp h; omega), lC, gC_, if_pos e1', if_pos e1', nI_1, nI_1]; rfl
    | false =>
      have e1' := e1
      unfold isL at e1
      rw [Bool.and_eq_false_iff, decide_eq_false_iff_not, decide_eq_false_iff_not] at e1
      rw [Bool.false_or]
      have hJ : ∀ {β : Type} (X Y : β), (if nI (b p) < 97 then X else if (122 : Int32) < nI (b p) then X else Y) = X := fun X Y => by
        by_cases e2 : b p < 97
        · rw [if_pos ((nI_lt97 hb256).mpr e2)]
        · rw [if_neg (fun h => e2 ((nI_lt97 hb256).mp h)), if_pos ((nI_gt122 hb256).mpr (by omega))]
      cases e2 : isG (b p) with
      | true =>
        have e2' := e2
        unfold isG at e2
        rw [Bool.and_eq_true, decide_eq_true_eq, decide_eq_true_eq] at e2
        rw [if_pos rfl]
        obtain ⟨r', w', k1, k2, k3, k4, k5⟩ := ih (p + 1) (b p :: l) (zup r 7 (r 7 * 10 + (nI (b p) - 48))) w (by omega) (by rw [List.length_cons]; omega) (by rw [zup_s, h7, cN, if_neg (by rw [e1']; decide), show (48 : Int32) = nI 48 from rfl, nI_sub e2.1]) (by rw [h6, cW, if_neg (by rw [e1']; decide)])
        refine ⟨r', w', (zLP_go ?_).trans k1, k2, k3, fun j hj => by rw [k4 j hj, zup_n hj], k5⟩
        show fRd_readRun_L28 tp tb (nI n) r w (nI (lC l)) (nI (gC_ l)) (nI p) = _
        unfold fRd_readRun_L28
        rw [if_neg (nI_ge hpn (by omega)), x_byte h hpn]
        simp only [Option.bind_some, zlet]
        rw [hJ, if_neg (fun h => by have := (nI_lt48 hb256).mp h; omega), if_neg (fun h => by have := (nI_gt57 hb256).mp h; omega), lC, gC_, if_neg (by rw [e1']; decide), if_neg (by rw [e1']; decide), nI_1, nI_1]; rfl
      | false =>
        unfold isG at e2
        rw [Bool.and_eq_false_iff, decide_eq_false_iff_not, decide_eq_false_iff_not] at e2
        rw [if_neg (by decide)]
        refine ⟨r, w, zLP_out ?_, h7, h6, fun _ _ => rfl, fun _ _ => rfl⟩
        show fRd_readRun_L28 tp tb (nI n) r w (nI (lC l)) (nI (gC_ l)) (nI p) = _
        unfold fRd_readRun_L28
        rw [if_neg (nI_ge hpn (by omega)), x_byte h hpn]
        simp only [Option.bind_some, zlet]
        rw [hJ]
        by_cases e3 : b p < 48
        · rw [if_pos ((nI_lt48 hb256).mpr e3)]
        · rw [if_neg (fun h => e3 ((nI_lt48 hb256).mp h)), if_pos ((nI_gt57 hb256).mpr (by omega))]
/-! ## the reference's run -/
def mW : List Nat → Int64
  | [] => 0
  | c :: t => if t.length < 7 then (mW t <<< ((8 : Int32).toInt64 &&& 63)) ||| (nI c).toInt64 else mW t
def mN : List Nat → Int32
  | [] => 0
  | c :: t => if t.length < 3 then 10 * mN t + nI c - 48 else mN t
def mAll (s : Bool) : List Nat → Bool
  | [] => true
  | c :: t => mAll s t && (isL c == s)
theorem m_small {c : Nat} (h : c < 256) : fM_isSmall (nI c) = isL c := by
  unfold fM_isSmall isL
  by_cases e : c < 97
  · rw [if_pos ((nI_lt97 h).mpr e), decide_eq_false (by omega), Bool.false_and]
  · rw [if_neg (fun h2 => e ((nI_lt97 h).mp h2)), decide_eq_true (by omega), Bool.true_and]
    by_cases e2 : 122 < c
    · rw [if_pos ((nI_gt122 h).mpr e2), decide_eq_false (by omega)]
    · rw [if_neg (fun h2 => e2 ((nI_gt122 h).mp h2)), decide_eq_true (by omega)]
theorem m_digit {c : Nat} (h : c < 256) : fM_isDigit (nI c) = isG c := by
  unfold fM_isDigit isG
  by_cases e : c < 48
  · rw [if_pos ((nI_lt48 h).mpr e), decide_eq_false (by omega), Bool.false_and]
  · rw [if_neg (fun h2 => e ((nI_lt48 h).mp h2)), decide_eq_true (by omega), Bool.true_and]
    by_cases e2 : 57 < c
    · rw [if_pos ((nI_gt57 h).mpr e2), decide_eq_false (by omega)]
    · rw [if_neg (fun h2 => e2 ((nI_gt57 h).mp h2)), decide_eq_true (by omega)]
theorem zb_eq {a b : Bool} : zb a = zb b ↔ (a == b) = true := by cases a <;> cases b <;> decide
theorem m_run {n : Nat} {b : Nat → Nat} {mt : Nat → Int32} (hn : n ≤ 940) (hb : ∀ i, i < n → b i < 256) (h : tpM n b mt) {c0 : Nat} (hc0 : c0 < 256) : ∀ f p (l : List Nat) (r : Nat → Int32) (w : Nat → Int64), f + p = n → l.length ≤ p → r 3 = nI n → r 4 = nI p → r 13 = nI l.length → r 14 = mN l → w 17 = mW l →
    ∃ r' w', zLP (fun s : (Nat → Int32) × (Nat → Int64) × Int32 => fM_next_L181 mt (nI c0) s.1 s.2.1 s.2.2) (r, w, zb (mAll (isL c0) l)) = some (r', w', zb (mAll (isL c0) (rnF b f p l).1)) ∧ r' 4 = nI (rnF b f p l).2 ∧ r' 13 = nI (rnF b f p l).1.length ∧ r' 14 = mN (rnF b f p l).1 ∧ w' 17 = mW (rnF b f p l).1 ∧ (∀ j, j ≠ 4 → j ≠ 13 → j ≠ 14 → r' j = r j) ∧ ∀ j, j ≠ 17 → w' j = w j := by
  intro f
  induction f with
  | zero =>
    intro p l r w hp hl h3 h4 h13 h14 h17
    refine ⟨r, w, zLP_out ?_, h4, h13, h14, h17, fun _ _ _ _ => rfl, fun _ _ => rfl⟩
    show fM_next_L181 mt (nI c0) r w (zb (mAll (isL c0) l)) = _
    unfold fM_next_L181
    rw [m_peek hn h h3 h4 (by omega), if_neg (by omega)]
    simp only [Option.bind_some, zlet]
    rw [if_neg (by decide), if_neg (by decide)]; rfl
  | succ f ih =>
    intro p l r w hp hl h3 h4 h13 h14 h17
    have hpn : p < n := by omega
    have hb256 := hb p hpn
    have hpk : fM_peek r mt = some (nI (b p)) := by rw [m_peek hn h h3 h4 (by omega), if_pos hpn]
    rw [rnF]
    cases e1 : (isL (b p) || isG (b p)) with
    | true =>
      rw [if_pos rfl]
      have hgo : ∀ r1 w1, r1 3 = nI n → r1 4 = nI (p + 1) → r1 13 = nI (l.length + 1) → r1 14 = mN (b p :: l) → w1 17 = mW (b p :: l) → (∀ j, j ≠ 4 → j ≠ 13 → j ≠ 14 → r1 j = r j) → (∀ j, j ≠ 17 → w1 j = w j) → fM_next_L181 mt (nI c0) r w (zb (mAll (isL c0) l)) = some (.inl (r1, w1, zb (mAll (isL c0) (b p :: l)))) →
          ∃ r' w', zLP (fun s : (Nat → Int32) × (Nat → Int64) × Int32 => fM_next_L181 mt (nI c0) s.1 s.2.1 s.2.2) (r, w, zb (mAll (isL c0) l)) = some (r', w', zb (mAll (isL c0) (rnF b f (p + 1) (b p :: l)).1)) ∧ r' 4 = nI (rnF b f (p + 1) (b p :: l)).2 ∧ r' 13 = nI (rnF b f (p + 1) (b p :: l)).1.length ∧ r' 14 = mN (rnF b f (p + 1) (b p :: l)).1 ∧ w' 17 = mW (rnF b f (p + 1) (b p :: l)).1 ∧ (∀ j, j ≠ 4 → j ≠ 13 → j ≠ 14 → r' j = r j) ∧ ∀ j, j ≠ 17 → w' j = w j := by
        intro r1 w1 a3 a4 a13 a14 a17 aj bj ho
        obtain ⟨r', w', k1, k2, k3, k4, k5, k6, k7⟩ := ih (p + 1) (b p :: l) r1 w1 (by omega) (by rw [List.length_cons]; omega) a3 a4 (by rw [List.length_cons]; exact a13) a14 a17
        exact ⟨r', w', (zLP_go ho).trans k1, k2, k3, k4, k5, fun j x1 x2 x3 => (k6 j x1 x2 x3).trans (aj j x1 x2 x3), fun j x => (k7 j x).trans (bj j x)⟩
      -- the word, the number
      have hw : ∃ w1 : Nat → Int64, w1 17 = mW (b p :: l) ∧ (∀ j, j ≠ 17 → w1 j = w j) ∧ w1 = if (7 : Int32) ≤ r 13 then w else zup w 17 ((w 17 <<< ((8 : Int32).toInt64 &&& 63)) ||| (nI (b p)).toInt64) := by
        by_cases e7 : l.length < 7
        · refine ⟨_, ?_, ?_, (if_neg (by rw [h13]; exact zg7 e7)).symm⟩
          · rw [zup_s, h17, mW, if_pos e7]
          · exact fun j hj => zup_n hj
        · refine ⟨w, ?_, fun _ _ => rfl, (if_pos (by rw [h13]; exact ze7 (by omega) (by omega))).symm⟩
          rw [h17, mW, if_neg e7]
      obtain ⟨w1, hw1, hw2, hw3⟩ := hw
      have hr : ∃ r1 : Nat → Int32, r1 3 = nI n ∧ r1 4 = nI (p + 1) ∧ r1 13 = nI (l.length + 1) ∧ r1 14 = mN (b p :: l) ∧ (∀ j, j ≠ 4 → j ≠ 13 → j ≠ 14 → r1 j = r j) ∧ r1 = if (3 : Int32) ≤ r 13 then zup (zup r 13 (nI (l.length + 1))) 4 (nI (p + 1)) else zup (zup (zup r 14 (10 * r 14 + nI (b p) - 48)) 13 (nI (l.length + 1))) 4 (nI (p + 1)) := by
        by_cases e3 : l.length < 3
        · refine ⟨_, ?_, ?_, ?_, ?_, ?_, (if_neg (by rw [h13]; exact zg3 e3)).symm⟩
          · rw [zup_n (by omega), zup_n (by omega), zup_n (by omega)]; exact h3
          · exact zup_s
          · rw [zup_n (by omega), zup_s]
          · rw [zup_n (by omega), zup_n (by omega), zup_s, h14, mN, if_pos e3]
          · intro j x1 x2 x3; rw [zup_n x1, zup_n x2, zup_n x3]
        · refine ⟨_, ?_, ?_, ?_, ?_, ?_, (if_pos (by rw [h13]; exact ze3 (by omega) (by omega))).symm⟩
          · rw [zup_n (by omega), zup_n (by omega)]; exact h3
          · exact zup_s
          · rw [zup_n (by omega), zup_s]
          · rw [zup_n (by omega), zup_n (by omega), h14, mN, if_neg e3]
          · intro j x1 x2 x3; rw [zup_n x1, zup_n x2]
      obtain ⟨r1, g3, g4, g13, g14, gj, gr⟩ := hr
      refine hgo r1 w1 g3 g4 g13 g14 hw1 gj hw2 ?_
      have hall : zb (mAll (isL c0) (b p :: l)) = if zb (mAll (isL c0) l) = 0 then 0 else if zb (isL (b p)) = zb (isL c0) then 1 else 0 := by
        rw [mAll]
        cases mAll (isL c0) l <;> cases isL (b p) <;> cases isL c0 <;> rfl
      have hs13 : zup r 14 (10 * r 14 + nI (b p) - 48) 13 = r 13 := zup_n (by omega)
      have h34 : zup r 13 (nI (l.length + 1)) 4 = r 4 := zup_n (by omega)
      have h344 : zup (zup r 14 (10 * r 14 + nI (b p) - 48)) 13 (nI (l.length + 1)) 4 = r 4 := by rw [zup_n (by omega), zup_n (by omega)]
      unfold fM_next_L181
      rw [hpk]
      simp only [Option.bind_some, zlet, m_small hb256, m_small hc0, m_digit hb256]
      rw [hs13, h13, nI_1, h34, h344, h4, nI_1]
      rw [h13] at hw3 gr
      rw [hall]
      have hfin : ∀ x33 : Int32, (if (7 : Int32) ≤ nI l.length then (if (3 : Int32) ≤ nI l.length then some (Sum.inl (β := (Nat → Int32) × (Nat → Int64) × Int32) (zup (zup r 13 (nI (l.length + 1))) 4 (nI (p + 1)), w, x33)) else some (Sum.inl (zup (zup (zup r 14 (10 * r 14 + nI (b p) - 48)) 13 (nI (l.length + 1))) 4 (nI (p + 1)), w, x33))) else (if (3 : Int32) ≤ nI l.length then some (Sum.inl (zup (zup r 13 (nI (l.length + 1))) 4 (nI (p + 1)), zup w 17 ((w 17 <<< ((8 : Int32).toInt64 &&& 63)) ||| (nI (b p)).toInt64), x33)) else some (Sum.inl (zup (zup (zup r 14 (10 * r 14 + nI (b p) - 48)) 13 (nI (l.length + 1))) 4 (nI (p + 1)), zup w 17 ((w 17 <<< ((8 : Int32).toInt64 &&& 63)) ||| (nI (b p)).toInt64), x33)))) = some (.inl (r1, w1, x33)) := by
        intro x33
        rw [gr, hw3]
        by_cases e7 : (7 : Int32) ≤ nI l.length
        · rw [if_pos e7, if_pos e7]
          by_cases e3 : (3 : Int32) ≤ nI l.length
          · rw [if_pos e3, if_pos e3]
          · rw [if_neg e3, if_neg e3]
        · rw [if_neg e7, if_neg e7]
          by_cases e3 : (3 : Int32) ≤ nI l.length
          · rw [if_pos e3, if_pos e3]
          · rw [if_neg e3, if_neg e3]
      rw [hfin, hfin]
      rw [Bool.or_eq_true] at e1
      by_cases eL : isL (b p) = true
      · rw [if_pos eL]
        by_cases ez : zb (mAll (isL c0) l) = 0
        · rw [if_pos ez, if_pos ez]
        · rw [if_neg ez, if_neg ez]
          by_cases eb : zb (isL (b p)) = zb (isL c0)
          · rw [if_pos eb, if_pos eb]
          · rw [if_neg eb, if_neg eb]
      · rw [if_neg eL, if_pos (e1.resolve_left eL)]
        by_cases ez : zb (mAll (isL c0) l) = 0
        · rw [if_pos ez, if_pos ez]
        · rw [if_neg ez, if_neg ez]
          by_cases eb : zb (isL (b p)) = zb (isL c0)
          · rw [if_pos eb, if_pos eb]
          · rw [if_neg eb, if_neg eb]
    | false =>
      rw [if_neg (by decide)]
      rw [Bool.or_eq_false_iff] at e1
      refine ⟨r, w, zLP_out ?_, h4, h13, h14, h17, fun _ _ _ _ => rfl, fun _ _ => rfl⟩
      show fM_next_L181 mt (nI c0) r w (zb (mAll (isL c0) l)) = _
      unfold fM_next_L181
      rw [hpk]
      simp only [Option.bind_some, zlet, m_small hb256, m_digit hb256]
      rw [if_neg (by rw [e1.1]; decide), if_neg (by rw [e1.2]; decide)]
