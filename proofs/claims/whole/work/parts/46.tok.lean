/-! ===== a token, as both read it ===== -/
def isSg (v : Nat) : Prop := v = 59 ∨ v = 60 ∨ v = 61 ∨ v = 62 ∨ v = 40 ∨ v = 41
/-- k: 0 the end, 1 a word w, 2 a number v, 3 a sign v, 4 none; it begins at a, and behind it is p -/
def tokR (n L : Nat) (rx : Nat → Int32) (wx : Nat → Int64) (rm : Nat → Int32) (wm : Nat → Int64) (k v : Nat) (w : List Nat) (a p : Nat) : Prop :=
  rx 2 = nI L ∧ rx 3 = nI a ∧ rx 8 = 0 ∧ rm 3 = nI n ∧ rm 5 = nI L ∧ rm 11 = nI k ∧ rm 12 = nI a ∧ rm 15 = 0 ∧ (a ≤ n ∧ a ≤ L) ∧
  ((k = 0 ∧ rx 5 = 3) ∨
   (k = 1 ∧ rx 5 = 1 ∧ wOK w ∧ wx 6 = lN (cv w) ∧ wm 17 = lN (mv w) ∧ (a < p ∧ p ≤ n ∧ (n ≤ L ∨ a < L)) ∧ rx 4 = nI p ∧ rm 4 = nI p) ∨
   (k = 2 ∧ rx 5 = 2 ∧ v < 1000 ∧ rx 7 = nI v ∧ rm 14 = nI v ∧ (a < p ∧ p ≤ n ∧ (n ≤ L ∨ a < L)) ∧ rx 4 = nI p ∧ rm 4 = nI p) ∨
   (k = 3 ∧ isSg v ∧ rx 5 = nI v ∧ rm 14 = nI v ∧ (a < p ∧ p ≤ n ∧ (n ≤ L ∨ a < L)) ∧ rx 4 = nI p ∧ rm 4 = nI p) ∨
   (k = 4 ∧ rx 5 = 0))
def mG (rm rm' : Nat → Int32) : Prop := ∀ j, j < 4 ∨ 15 ≤ j → rm' j = rm j
theorem mG_up {r s : Nat → Int32} (h : mG r s) {k : Nat} {v : Int32} (hk : 4 ≤ k ∧ k < 15) : mG r (zup s k v) := fun j hj => by rw [zup_n (by omega)]; exact h j hj
theorem isL_g {c : Nat} (h : isL c = true) : isG c = false := by
  unfold isL at h
  unfold isG
  rw [Bool.and_eq_true, decide_eq_true_eq, decide_eq_true_eq] at h
  rw [decide_eq_false (show ¬ c ≤ 57 by omega), Bool.and_false]
theorem isSg_dec {v : Nat} (h : v < 256) : fRd_isSomeSign (nI v) = true ↔ isSg v := by
  unfold fRd_isSomeSign isSg
  by_cases h1 : v = 59
  · rw [if_pos ((nI_k59 (by omega)).mpr h1)]; exact ⟨fun _ => Or.inl h1, fun _ => rfl⟩
  · rw [if_neg (fun h => h1 ((nI_k59 (by omega)).mp h))]
    by_cases h2 : v = 60
    · rw [if_pos ((nI_k60 (by omega)).mpr h2)]; exact ⟨fun _ => by omega, fun _ => rfl⟩
    · rw [if_neg (fun h => h2 ((nI_k60 (by omega)).mp h))]
      by_cases h3 : v = 61
      · rw [if_pos ((nI_k61 (by omega)).mpr h3)]; exact ⟨fun _ => by omega, fun _ => rfl⟩
      · rw [if_neg (fun h => h3 ((nI_k61 (by omega)).mp h))]
        by_cases h4 : v = 62
        · rw [if_pos ((nI_k62 (by omega)).mpr h4)]; exact ⟨fun _ => by omega, fun _ => rfl⟩
        · rw [if_neg (fun h => h4 ((nI_k62 (by omega)).mp h))]
          by_cases h5 : v = 40
          · rw [if_pos ((nI_k40 (by omega)).mpr h5)]; exact ⟨fun _ => by omega, fun _ => rfl⟩
          · rw [if_neg (fun h => h5 ((nI_k40 (by omega)).mp h))]
            by_cases h6 : v = 41
            · rw [if_pos ((nI_k41 (by omega)).mpr h6)]; exact ⟨fun _ => by omega, fun _ => rfl⟩
            · rw [if_neg (fun h => h6 ((nI_k41 (by omega)).mp h))]
              exact ⟨fun h => absurd h (by decide), fun h => by omega⟩
theorem isSg_A : ∀ c, c < 256 → isL c = false → isG c = false → (if nI c = 59 then (3 : Int32) else if nI c = 40 then 3 else if nI c = 41 then 3 else if nI c < 60 then 4 else if 62 < nI c then 4 else 3) = if fRd_isSomeSign (nI c) = true then 3 else 4 := by decide +kernel
theorem isSg_n {c : Nat} (h : isL c = true ∨ isG c = true) : ¬ isSg c := by
  unfold isSg
  unfold isL isG at h
  simp only [Bool.and_eq_true, decide_eq_true_eq] at h
  omega
theorem lC_all : ∀ {l : List Nat}, gC_ l = 0 → ∀ c, c ∈ l → isL c = true
  | [], _, c, h => by cases h
  | d :: t, h, c, hc => by
    rw [gC_] at h
    rcases List.mem_cons.mp hc with e | e
    · subst e
      cases e2 : isL c with
      | true => rfl
      | false => rw [e2] at h; simp at h
    · exact lC_all (l := t) (by omega) c e
theorem cW_all : ∀ {l : List Nat}, gC_ l = 0 → cW l = lN (cv l)
  | [], _ => rfl
  | d :: t, h => by
    have hd : isL d = true := lC_all h d (List.mem_cons_self)
    rw [gC_] at h
    rw [cW, if_pos hd, cW_all (l := t) (by omega), cv, show (32 : Int64) = lN 32 from rfl, lN_mul, lN_add]
theorem isL_iff {c : Nat} : isL c = true ↔ 97 ≤ c ∧ c ≤ 122 := by
  unfold isL; rw [Bool.and_eq_true, decide_eq_true_eq, decide_eq_true_eq]
theorem isG_iff {c : Nat} : isG c = true ↔ 48 ≤ c ∧ c ≤ 57 := by
  unfold isG; rw [Bool.and_eq_true, decide_eq_true_eq, decide_eq_true_eq]
theorem lN_sh8 {a c : Nat} (ha : a < 2 ^ 48) (hc : c < 256) : (lN a <<< ((8 : Int32).toInt64 &&& 63)) ||| (nI c).toInt64 = lN (a * 256 + c) := by
  rw [nI_l (by omega)]
  apply Int64.toBitVec_inj.1
  have e8 : ((8 : Int32).toInt64 &&& 63) = (8 : Int64) := by decide
  rw [e8]
  have e1 : (lN a <<< (8 : Int64)).toBitVec = (BitVec.ofNat 64 a) <<< 8 := by
    show (BitVec.ofNat 64 a) <<< (BitVec.smod (8 : Int64).toBitVec 64) = _
    rw [show BitVec.smod (8 : Int64).toBitVec 64 = 8#64 from by decide]
    rfl
  show (lN a <<< (8 : Int64)).toBitVec ||| BitVec.ofNat 64 c = BitVec.ofNat 64 (a * 256 + c)
  rw [e1]
  apply BitVec.eq_of_toNat_eq
  rw [BitVec.toNat_or, BitVec.toNat_shiftLeft, BitVec.toNat_ofNat, BitVec.toNat_ofNat, BitVec.toNat_ofNat, Nat.mod_eq_of_lt (show a < 2 ^ 64 by omega), Nat.mod_eq_of_lt (show c < 2 ^ 64 by omega), Nat.mod_eq_of_lt (show a * 256 + c < 2 ^ 64 by omega), Nat.shiftLeft_eq, show (2 : Nat) ^ 8 = 256 from rfl, Nat.mod_eq_of_lt (show a * 256 < 2 ^ 64 by omega)]
  rw [Nat.mul_comm a 256, ← Nat.two_pow_add_eq_or_of_lt (i := 8) hc a]
theorem mW_all : ∀ {l : List Nat}, wLet l → l.length ≤ 7 → mW l = lN (mv l)
  | [], _, _ => rfl
  | d :: t, h, hl => by
    rw [List.length_cons] at hl
    have hd := h d (List.mem_cons_self)
    have ht : wLet t := fun c hc => h c (List.mem_cons_of_mem _ hc)
    have h1 := mv_lt ht
    have h2 : 256 ^ t.length ≤ 256 ^ 6 := Nat.pow_le_pow_right (by omega) (by omega)
    have h3 : 256 ^ 6 = 2 ^ 48 := by decide
    rw [mW, if_pos (by omega), mW_all (l := t) ht (by omega), lN_sh8 (by omega) (by omega), mv]
/-- a number of at most three digits -/
def gv : List Nat → Nat
  | [] => 0
  | c :: t => gv t * 10 + (c - 48)
theorem cN_all : ∀ {l : List Nat}, lC l = 0 → (∀ c, c ∈ l → isG c = true) → cN l = nI (gv l)
  | [], _, _ => rfl
  | d :: t, h, hg => by
    rw [lC] at h
    have hd : ¬ isL d = true := fun e => by rw [if_pos e] at h; omega
    rw [if_neg hd] at h
    rw [cN, if_neg hd, cN_all (l := t) (by omega) (fun c hc => hg c (List.mem_cons_of_mem _ hc)), gv, show (10 : Int32) = nI 10 from rfl, nI_mul, nI_add]
theorem mN_all : ∀ {l : List Nat}, (∀ c, c ∈ l → isG c = true) → l.length ≤ 3 → mN l = nI (gv l)
  | [], _, _ => rfl
  | d :: t, h, hl => by
    rw [List.length_cons] at hl
    have hd := isG_iff.mp (h d (List.mem_cons_self))
    rw [mN, if_pos (by omega), mN_all (l := t) (fun c hc => h c (List.mem_cons_of_mem _ hc)) (by omega), show (10 : Int32) = nI 10 from rfl, nI_mul, nI_add, show (48 : Int32) = nI 48 from rfl, nI_sub (by omega), gv]
    congr 1; omega
theorem gv_lt : ∀ {l : List Nat}, (∀ c, c ∈ l → isG c = true) → gv l < 10 ^ l.length
  | [], _ => by show 0 < 1; omega
  | d :: t, h => by
    have hd := isG_iff.mp (h d (List.mem_cons_self))
    have ih := gv_lt (l := t) (fun c hc => h c (List.mem_cons_of_mem _ hc))
    rw [gv, List.length_cons, Nat.pow_succ]
    omega
theorem rnF_al {b : Nat → Nat} : ∀ f p l, (∀ c, c ∈ l → (isL c || isG c) = true) → ∀ c, c ∈ (rnF b f p l).1 → (isL c || isG c) = true
  | 0, p, l, h => by rw [rnF]; exact h
  | f + 1, p, l, h => by
    rw [rnF]
    split
    · next e =>
      exact rnF_al f (p + 1) (b p :: l) (fun c hc => by
        rcases List.mem_cons.mp hc with e2 | e2
        · rw [e2]; exact e
        · exact h c e2)
    · exact h
theorem mAll_T : ∀ {l : List Nat}, mAll true l = true ↔ gC_ l = 0
  | [] => ⟨fun _ => rfl, fun _ => rfl⟩
  | d :: t => by
    rw [mAll, gC_, Bool.and_eq_true, mAll_T (l := t)]
    cases e : isL d with
    | true => simp
    | false => simp
theorem mAll_F : ∀ {l : List Nat}, mAll false l = true ↔ lC l = 0
  | [] => ⟨fun _ => rfl, fun _ => rfl⟩
  | d :: t => by
    rw [mAll, lC, Bool.and_eq_true, mAll_F (l := t)]
    cases e : isL d with
    | true => simp
    | false => simp
theorem lC_no : ∀ {l : List Nat}, lC l = 0 → ∀ c, c ∈ l → ¬ isL c = true
  | [], _, c, h => by cases h
  | d :: t, h, c, hc => by
    rw [lC] at h
    rcases List.mem_cons.mp hc with e | e
    · subst e
      intro e2
      rw [if_pos e2] at h; omega
    · exact lC_no (l := t) (by omega) c e
theorem rnF_cnt {b : Nat → Nat} : ∀ f p l, lC l ≤ lC (rnF b f p l).1 ∧ gC_ l ≤ gC_ (rnF b f p l).1
  | 0, p, l => by rw [rnF]; exact ⟨Nat.le_refl _, Nat.le_refl _⟩
  | f + 1, p, l => by
    rw [rnF]
    split
    · have := rnF_cnt (b := b) f (p + 1) (b p :: l)
      rw [lC, gC_] at this
      omega
    · exact ⟨Nat.le_refl _, Nat.le_refl _⟩
theorem z_max {i a : Nat} (h : a < i) (hi : i < 2 ^ 31) : (if nI i < nI a + 1 then nI a + 1 else nI i) = nI i := by
  rw [nI_1]
  by_cases e : i < a + 1
  · omega
  · rw [if_neg (nI_nlt (by omega) (by omega))]
/-- both read on from p -/
theorem t_next {n L p : Nat} {b : Nat → Nat} {tp tb mt rx rm : Nat → Int32} {wx wm : Nat → Int64} (hX : tpX n b tp tb) (hT : tpM n b mt) (hL : L ≤ 940) (h2 : rx 2 = nI L) (h4 : rx 4 = nI p) (h8 : rx 8 = 0) (m3 : rm 3 = nI n) (m4 : rm 4 = nI p) (m5 : rm 5 = nI L) (m15 : rm 15 = 0) (hp : p ≤ n) :
    ∃ rx' wx' rm' wm' k v w a p', fRd_goOn rx wx tp tb = some (rx', wx') ∧ fM_next rm wm mt = some (rm', wm') ∧ tokR n L rx' wx' rm' wm' k v w a p' ∧ (p ≤ a ∨ (a = L ∧ L < n)) ∧ mG rm rm' ∧ ∀ j, j ≠ 17 → wm' j = wm j := by
  have hn := hX.1
  have hb : ∀ i, i < n → b i < 256 := fun i hi => (hX.2.2 i hi).2
  -- the class's way over spaces
  have hbd : (if rx 2 < tp 1 then rx 2 else tp 1) = nI (min n L) := by
    rw [h2, hX.2.1]
    by_cases e : L < n
    · rw [if_pos (nI_lt e (by omega))]; congr 1; omega
    · rw [if_neg (nI_nlt (by omega) (by omega))]; congr 1; omega
  have hsx := x_skip hX (bd := min n L) (by omega) (min n L - p) p rfl (by omega)
  obtain ⟨r1, s1, s2, s3⟩ := m_skip hn hb hT (n - p) p rm (by omega) m3 m4
  have g1 := skF_ge (b := b) (n - p) p
  have g2 := skF_ge (b := b) (min n L - p) p
  have r13 : r1 3 = nI n := (s3 3 (by omega)).trans m3
  have r15 : r1 5 = nI L := (s3 5 (by omega)).trans m5
  have r115 : r1 15 = 0 := (s3 15 (by omega)).trans m15
  have hF1 : mG rm r1 := fun j hj => s3 j (by omega)
  unfold fRd_goOn fTp_length
  rw [if_pos h8]
  simp only [zlet, h4]
  rw [hbd, hsx, hX.2.1, h2]
  simp only [Option.bind_some]
  unfold fM_next
  rw [s1]
  simp only [Option.bind_some, zlet]
  have q3 : zup (zup r1 12 (r1 4)) 13 0 3 = nI n := by rw [zup_n (by omega), zup_n (by omega)]; exact r13
  have q5 : zup (zup r1 12 (r1 4)) 13 0 5 = nI L := by rw [zup_n (by omega), zup_n (by omega)]; exact r15
  have q4 : zup (zup r1 12 (r1 4)) 13 0 4 = nI (skF b (n - p) p) := by rw [zup_n (by omega), zup_n (by omega)]; exact s2
  rw [q3, q5, q4]
  have hF2 : mG rm (zup (zup r1 12 (r1 4)) 13 0) := mG_up (mG_up hF1 (by omega)) (by omega)
  by_cases hbig : L < n ∧ L ≤ skF b (n - p) p
  · -- behind the limit
    obtain ⟨hl1, hl2⟩ := hbig
    have hx : L ≤ skF b (min n L - p) p := by
      rcases Nat.lt_or_ge (skF b (min n L - p) p) L with hlt | hge
      · have h5 : skF b (min n L - p) p < p + (min n L - p) := by omega
        have h6 := skF_more (b := b) (n - p - (min n L - p)) (min n L - p) p h5
        rw [show min n L - p + (n - p - (min n L - p)) = n - p by omega] at h6
        omega
      · exact hge
    rw [if_neg (nI_ge hl1 (by omega)), if_neg (nI_nlt hx (by omega)), if_neg (nI_ge hl1 (by omega)), if_neg (nI_nlt hl2 (by omega))]
    refine ⟨_, _, _, _, 4, 0, [], L, 0, rfl, rfl, ⟨?_, ?_, ?_, ?_, ?_, ?_, ?_, ?_, by omega, Or.inr (Or.inr (Or.inr (Or.inr ⟨rfl, ?_⟩)))⟩, Or.inr ⟨rfl, hl1⟩, mG_up (mG_up hF2 (by omega)) (by omega), fun _ _ => rfl⟩
    · rw [zup_n (by omega), zup_n (by omega)]; exact h2
    · rw [zup_n (by omega), zup_s]
    · rw [zup_n (by omega), zup_n (by omega)]; exact h8
    · rw [zup_n (by omega), zup_n (by omega)]; exact q3
    · rw [zup_n (by omega), zup_n (by omega)]; exact q5
    · rw [zup_s]; rfl
    · rw [zup_n (by omega), zup_s]
    · rw [zup_n (by omega), zup_n (by omega), zup_n (by omega), zup_n (by omega)]; exact r115
    · rw [zup_s]
  · have hsame : skF b (min n L - p) p = skF b (n - p) p := by
      rcases Nat.lt_or_ge L n with hl1 | hl1
      · have hl2 : skF b (n - p) p < L := by omega
        have h5 := skF_le (b := b) (n - p - (min n L - p)) (min n L - p) p
        rw [show min n L - p + (n - p - (min n L - p)) = n - p by omega] at h5
        have h6 := skF_more (b := b) (n - p - (min n L - p)) (min n L - p) p (by omega)
        rw [show min n L - p + (n - p - (min n L - p)) = n - p by omega] at h6
        omega
      · rw [show min n L = n by omega]
    have hJx : ∀ {β : Type} (X Y : β), (if nI n ≤ nI L then X else if nI (skF b (n - p) p) < nI L then X else Y) = X := fun X Y => by
      by_cases e : n ≤ L
      · rw [if_pos (nI_le e (by omega))]
      · rw [if_neg (nI_ge (by omega) (by omega)), if_pos (nI_lt (by omega) (by omega))]
    rw [hsame, hJx, hJx]
    have hpk := m_peek (r := zup (zup r1 12 (r1 4)) 13 0) hn hT q3 q4 (by omega)
    rw [hpk]
    simp only [Option.bind_some]
    revert q4 hpk
    generalize hi : skF b (n - p) p = i at *
    intro q4 hpk
    have q12 : zup (zup r1 12 (r1 4)) 13 0 12 = nI i := by rw [zup_n (by omega), zup_s]; exact s2
    have q15 : zup (zup r1 12 (r1 4)) 13 0 15 = 0 := by rw [zup_n (by omega), zup_n (by omega)]; exact r115
    have q13 : zup (zup r1 12 (r1 4)) 13 0 13 = 0 := zup_s
    revert q3 q5 q4 q12 q15 hF2 hpk q13
    generalize zup (zup r1 12 (r1 4)) 13 0 = r2
    intro q3 q5 hF2 q4 hpk q12 q15 q13
    by_cases hin : i < n
    · -- a token begins at i
      have hlim : n ≤ L ∨ i < L := by omega
      have hb256 := hb i hin
      rw [if_pos (nI_lt hin (by omega)), if_pos hin, x_byte hX hin]
      simp only [Option.bind_some, zup_s]
      rw [if_pos (nI_pos' (by omega)), m_small hb256, m_digit hb256]
      cases eal : (isL (b i) || isG (b i)) with
      | false =>
        rw [Bool.or_eq_false_iff] at eal
        rw [if_neg (show ¬ isL (b i) = true by rw [eal.1]; decide), if_neg (show ¬ isG (b i) = true by rw [eal.2]; decide), isSg_A (b i) hb256 eal.1 eal.2]
        by_cases es : fRd_isSomeSign (nI (b i)) = true
        · rw [if_pos es, if_pos es]
          refine ⟨_, _, _, _, 3, b i, [], i, i + 1, rfl, rfl, ⟨?_, ?_, ?_, ?_, ?_, ?_, ?_, ?_, by omega, Or.inr (Or.inr (Or.inr (Or.inl ⟨rfl, (isSg_dec hb256).mp es, ?_, ?_, ⟨by omega, by omega, hlim⟩, ?_, ?_⟩)))⟩, Or.inl (by omega), mG_up (mG_up (mG_up hF2 (by omega)) (by omega)) (by omega), fun _ _ => rfl⟩
          · rw [zup_n (by omega), zup_n (by omega), zup_n (by omega)]; exact h2
          · rw [zup_n (by omega), zup_n (by omega), zup_s]
          · rw [zup_n (by omega), zup_n (by omega), zup_n (by omega)]; exact h8
          · rw [zup_n (by omega), zup_n (by omega), zup_n (by omega)]; exact q3
          · rw [zup_n (by omega), zup_n (by omega), zup_n (by omega)]; exact q5
          · rw [zup_n (by omega), zup_n (by omega), zup_s]; rfl
          · rw [zup_n (by omega), zup_n (by omega), zup_n (by omega)]; exact q12
          · rw [zup_n (by omega), zup_n (by omega), zup_n (by omega)]; exact q15
          · rw [zup_s]
          · rw [zup_n (by omega), zup_s]
          · rw [zup_n (by omega), zup_s, nI_1]
          · rw [zup_s, zup_n (by omega), zup_n (by omega), q4, nI_1]
        · rw [if_neg es, if_neg es]
          -- the class reads an empty run
          have hr0 : rnF b (n - i) i [] = ([], i) := by
            rw [show n - i = (n - i - 1) + 1 by omega, rnF, if_neg (by rw [eal.1, eal.2]; decide)]
          obtain ⟨r', w', k1, k2, k3, k4, k5⟩ := x_run hX (n - i) i [] (zup (zup (zup (zup rx 3 (nI i)) 4 (nI i + 1)) 5 (nI (b i))) 7 0) (zup wx 6 0) (by omega) (by simp) (by rw [zup_s]; rfl) (by rw [zup_s]; rfl)
          rw [hr0] at k1 k2 k3
          unfold fRd_readRun fTp_length
          simp only [zlet]
          rw [hX.2.1]
          have e3 : zup (zup (zup rx 3 (nI i)) 4 (nI i + 1)) 5 (nI (b i)) 3 = nI i := by rw [zup_n (by omega), zup_n (by omega), zup_s]
          rw [e3]
          have k1' : zLP (fun s : (Nat → Int32) × (Nat → Int64) × Int32 × Int32 × Int32 => fRd_readRun_L28 tp tb (nI n) s.1 s.2.1 s.2.2.1 s.2.2.2.1 s.2.2.2.2) (zup (zup (zup (zup rx 3 (nI i)) 4 (nI i + 1)) 5 (nI (b i))) 7 0, zup wx 6 0, 0, 0, nI i) = some (r', w', 0, 0, nI i) := k1
          rw [k1']
          simp only [Option.bind_some, if_true]
          rw [if_pos (show (0 : Int32) ≤ 0 by decide), if_pos (show (0 : Int32) ≤ 0 by decide)]
          simp only [Option.bind_some]
          have r'3 : r' 3 = nI i := by rw [k4 3 (by omega), zup_n (by omega)]; exact e3
          refine ⟨_, _, _, _, 4, 0, [], i, 0, rfl, rfl, ⟨?_, ?_, ?_, ?_, ?_, ?_, ?_, ?_, by omega, Or.inr (Or.inr (Or.inr (Or.inr ⟨rfl, ?_⟩)))⟩, Or.inl (by omega), mG_up (mG_up (mG_up hF2 (by omega)) (by omega)) (by omega), fun _ _ => rfl⟩
          · rw [zup_n (by omega), zup_n (by omega), k4 2 (by omega), zup_n (by omega), zup_n (by omega), zup_n (by omega), zup_n (by omega)]; exact h2
          · rw [zup_n (by omega), zup_n (by omega)]; exact r'3
          · rw [zup_n (by omega), zup_n (by omega), k4 8 (by omega), zup_n (by omega), zup_n (by omega), zup_n (by omega), zup_n (by omega)]; exact h8
          · rw [zup_n (by omega), zup_n (by omega), zup_n (by omega)]; exact q3
          · rw [zup_n (by omega), zup_n (by omega), zup_n (by omega)]; exact q5
          · rw [zup_n (by omega), zup_n (by omega), zup_s]; rfl
          · rw [zup_n (by omega), zup_n (by omega), zup_n (by omega)]; exact q12
          · rw [zup_n (by omega), zup_n (by omega), zup_n (by omega)]; exact q15
          · rw [zup_s]
      | true =>
        -- a run
        have es : ¬ fRd_isSomeSign (nI (b i)) = true := fun h => isSg_n (by rw [Bool.or_eq_true] at eal; exact eal) ((isSg_dec hb256).mp h)
        rw [if_neg es]
        obtain ⟨r', w', k1, k2, k3, k4, k5⟩ := x_run hX (n - i) i [] (zup (zup (zup (zup rx 3 (nI i)) 4 (nI i + 1)) 5 (nI (b i))) 7 0) (zup wx 6 0) (by omega) (by simp) (by rw [zup_s]; rfl) (by rw [zup_s]; rfl)
        have e3 : zup (zup (zup rx 3 (nI i)) 4 (nI i + 1)) 5 (nI (b i)) 3 = nI i := by rw [zup_n (by omega), zup_n (by omega), zup_s]
        obtain ⟨u', v', l1, l2, l3, l4, l5, l6, l7⟩ := m_run hn hb hT hb256 (n - i) i [] (zup r2 14 0) (zup wm 17 0) (by omega) (by simp) (by rw [zup_n (by omega)]; exact q3) (by rw [zup_n (by omega)]; exact q4) (by rw [zup_n (by omega)]; exact q13) (by rw [zup_s]; rfl) (by rw [zup_s]; rfl)
        have hlen := rnF_len (b := b) (n - i) i []
        have hal := rnF_al (b := b) (n - i) i [] (fun c hc => by cases hc)
        have hone : rnF b (n - i) i [] = rnF b (n - i - 1) (i + 1) [b i] := by
          rw [show n - i = (n - i - 1) + 1 by omega, rnF, if_pos eal]; rfl
        have hlen1 := rnF_len (b := b) (n - i - 1) (i + 1) [b i]
        have hcnt := rnF_cnt (b := b) (n - i - 1) (i + 1) [b i]
        rw [← hone] at hlen1 hcnt
        have hsum := lC_le (rnF b (n - i) i []).1
        rw [List.length_nil, Nat.zero_add] at hlen
        have e1c : lC [b i] = if isL (b i) then 1 else 0 := by rw [lC, lC, Nat.zero_add]
        have e2c : gC_ [b i] = if isL (b i) then 0 else 1 := by rw [gC_, gC_, Nat.zero_add]
        rw [e1c, e2c] at hcnt
        revert k1 k2 k3 l1 l2 l3 l4 l5 hlen hal hlen1 hcnt hsum
        generalize (rnF b (n - i) i []).1 = l
        generalize (rnF b (n - i) i []).2 = e
        intro k1 k2 k3 l1 l2 l3 l4 l5 hlen hal hlen1 hcnt hsum
        have hcx : fRd_readRun (zup (zup (zup rx 3 (nI i)) 4 (nI i + 1)) 5 (nI (b i))) wx tp tb = some (zup (zup r' 4 (nI e)) 5 (if gC_ l = 0 then (if lC l ≤ 7 then 1 else 0) else if lC l = 0 then (if gC_ l ≤ 3 then 2 else 0) else 0), w') := by
          unfold fRd_readRun fTp_length
          simp only [zlet]
          rw [hX.2.1, e3]
          have k1' : zLP (fun s : (Nat → Int32) × (Nat → Int64) × Int32 × Int32 × Int32 => fRd_readRun_L28 tp tb (nI n) s.1 s.2.1 s.2.2.1 s.2.2.2.1 s.2.2.2.2) (zup (zup (zup (zup rx 3 (nI i)) 4 (nI i + 1)) 5 (nI (b i))) 7 0, zup wx 6 0, 0, 0, nI i) = some (r', w', nI (lC l), nI (gC_ l), nI e) := k1
          rw [k1']
          simp only [Option.bind_some]
          have r'3 : r' 3 = nI i := by rw [k4 3 (by omega), zup_n (by omega)]; exact e3
          rw [r'3, z_max (by omega) (by omega)]
          by_cases g0 : gC_ l = 0
          · rw [if_pos ((nI_e0 (by omega)).mpr g0), if_pos g0, if_neg (show ¬ nI (lC l) ≤ 0 from nI_nle (by omega) (by omega))]
            by_cases g7 : lC l ≤ 7
            · rw [if_neg (show ¬ (7 : Int32) < nI (lC l) from nI_nlt (a := 7) (by omega) (by omega)), if_pos g7]
            · rw [if_pos (show (7 : Int32) < nI (lC l) from nI_lt (a := 7) (by omega) (by omega)), if_neg g7, if_neg (show ¬ nI (lC l) = 0 from nI_ne0 (by omega) (by omega))]
          · rw [if_neg (show ¬ nI (gC_ l) = 0 from nI_ne0 (by omega) (by omega)), if_neg g0]
            by_cases g1 : lC l = 0
            · rw [if_pos ((nI_e0 (by omega)).mpr g1), if_pos g1, if_neg (show ¬ nI (gC_ l) ≤ 0 from nI_nle (by omega) (by omega))]
              by_cases g3 : gC_ l ≤ 3
              · rw [if_neg (show ¬ (3 : Int32) < nI (gC_ l) from nI_nlt (a := 3) (by omega) (by omega)), if_pos g3]
              · rw [if_pos (show (3 : Int32) < nI (gC_ l) from nI_lt (a := 3) (by omega) (by omega)), if_neg g3]
            · rw [if_neg (show ¬ nI (lC l) = 0 from nI_ne0 (by omega) (by omega)), if_neg g1]
        rw [hcx]
        have hJL : ∀ {β : Type} (X Y : β), (if isL (b i) = true then X else if isG (b i) = true then X else Y) = X := fun X Y => by
          rw [Bool.or_eq_true] at eal
          by_cases eL : isL (b i) = true
          · rw [if_pos eL]
          · rw [if_neg eL, if_pos (eal.resolve_left eL)]
        rw [hJL]
        have l1' : zLP (fun s : (Nat → Int32) × (Nat → Int64) × Int32 => fM_next_L181 mt (nI (b i)) s.1 s.2.1 s.2.2) (zup r2 14 0, zup wm 17 0, 1) = some (u', v', zb (mAll (isL (b i)) l)) := l1
        rw [l1']
        simp only [Option.bind_some]
        have hFu : mG rm u' := fun j hj => by rw [l6 j (by omega) (by omega) (by omega), zup_n (by omega)]; exact hF2 j hj
        have hvw : ∀ j, j ≠ 17 → v' j = wm j := fun j hj => by rw [l7 j hj, zup_n hj]
        have u3 : u' 3 = nI n := by rw [l6 3 (by omega) (by omega) (by omega), zup_n (by omega)]; exact q3
        have u5 : u' 5 = nI L := by rw [l6 5 (by omega) (by omega) (by omega), zup_n (by omega)]; exact q5
        have u12 : u' 12 = nI i := by rw [l6 12 (by omega) (by omega) (by omega), zup_n (by omega)]; exact q12
        have u15 : u' 15 = 0 := by rw [l6 15 (by omega) (by omega) (by omega), zup_n (by omega)]; exact q15
        have r'2 : r' 2 = nI L := by rw [k4 2 (by omega), zup_n (by omega), zup_n (by omega), zup_n (by omega), zup_n (by omega)]; exact h2
        have r'8 : r' 8 = 0 := by rw [k4 8 (by omega), zup_n (by omega), zup_n (by omega), zup_n (by omega), zup_n (by omega)]; exact h8
        have r'3 : r' 3 = nI i := by rw [k4 3 (by omega), zup_n (by omega)]; exact e3
        have hall : mAll (isL (b i)) l = if isL (b i) then decide (gC_ l = 0) else decide (lC l = 0) := by
          cases isL (b i) with
          | true =>
            by_cases g0 : gC_ l = 0
            · rw [if_pos rfl, decide_eq_true g0, mAll_T.mpr g0]
            · rw [if_pos rfl, decide_eq_false g0]; exact Bool.eq_false_iff.mpr (fun h => g0 (mAll_T.mp h))
          | false =>
            by_cases g0 : lC l = 0
            · rw [if_neg (by decide), decide_eq_true g0, mAll_F.mpr g0]
            · rw [if_neg (by decide), decide_eq_false g0]; exact Bool.eq_false_iff.mpr (fun h => g0 (mAll_F.mp h))
        simp only [hall, l3]
        have hbase : ∀ (kd tk : Int32) (k v : Nat) (w : List Nat) (p' : Nat), tk = nI k → ((k = 0 ∧ kd = 3) ∨ (k = 1 ∧ kd = 1 ∧ wOK w ∧ w' 6 = lN (cv w) ∧ v' 17 = lN (mv w) ∧ (i < p' ∧ p' ≤ n ∧ (n ≤ L ∨ i < L)) ∧ nI e = nI p' ∧ u' 4 = nI p') ∨ (k = 2 ∧ kd = 2 ∧ v < 1000 ∧ r' 7 = nI v ∧ u' 14 = nI v ∧ (i < p' ∧ p' ≤ n ∧ (n ≤ L ∨ i < L)) ∧ nI e = nI p' ∧ u' 4 = nI p') ∨ (k = 4 ∧ kd = 0)) →
            ∃ rx' wx' rm' wm' k v w a p', some (zup (zup r' 4 (nI e)) 5 kd, w') = some (rx', wx') ∧ some (zup u' 11 tk, v') = some (rm', wm') ∧ tokR n L rx' wx' rm' wm' k v w a p' ∧ (p ≤ a ∨ (a = L ∧ L < n)) ∧ mG rm rm' ∧ ∀ j, j ≠ 17 → wm' j = wm j := by
          intro kd tk k v w p' htk hc
          refine ⟨_, _, _, _, k, v, w, i, p', rfl, rfl, ⟨?_, ?_, ?_, ?_, ?_, ?_, ?_, ?_, by omega, ?_⟩, Or.inl (by omega), mG_up hFu (by omega), hvw⟩
          · rw [zup_n (by omega), zup_n (by omega)]; exact r'2
          · rw [zup_n (by omega), zup_n (by omega)]; exact r'3
          · rw [zup_n (by omega), zup_n (by omega)]; exact r'8
          · rw [zup_n (by omega)]; exact u3
          · rw [zup_n (by omega)]; exact u5
          · rw [zup_s]; exact htk
          · rw [zup_n (by omega)]; exact u12
          · rw [zup_n (by omega)]; exact u15
          · rcases hc with ⟨c1, c2⟩ | ⟨c1, c2, c3, c4, c5, c6, c7, c8⟩ | ⟨c1, c2, c3, c4, c5, c6, c7, c8⟩ | ⟨c1, c2⟩
            · exact Or.inl ⟨c1, by rw [zup_s]; exact c2⟩
            · exact Or.inr (Or.inl ⟨c1, by rw [zup_s]; exact c2, c3, c4, c5, c6, by rw [zup_n (by omega), zup_s]; exact c7, by rw [zup_n (by omega)]; exact c8⟩)
            · exact Or.inr (Or.inr (Or.inl ⟨c1, by rw [zup_s]; exact c2, c3, by rw [zup_n (by omega), zup_n (by omega)]; exact c4, by rw [zup_n (by omega)]; exact c5, c6, by rw [zup_n (by omega), zup_s]; exact c7, by rw [zup_n (by omega)]; exact c8⟩))
            · exact Or.inr (Or.inr (Or.inr (Or.inr ⟨c1, by rw [zup_s]; exact c2⟩)))
        cases eL : isL (b i) with
        | true =>
          rw [eL] at hcnt
          simp only [if_true] at hcnt ⊢
          by_cases g0 : gC_ l = 0
          · rw [if_pos g0, decide_eq_true g0, if_neg (show ¬ zb true = 0 by decide)]
            have hlet : wLet l := fun c hc => isL_iff.mp (lC_all g0 c hc)
            by_cases g7 : lC l ≤ 7
            · rw [if_pos g7, if_pos (show nI l.length ≤ 7 from nI_le (b := 7) (by omega) (by omega))]
              exact hbase 1 1 1 0 l e rfl (Or.inr (Or.inl ⟨rfl, rfl, ⟨hlet, by omega⟩, by rw [k3, cW_all g0], by rw [l5, mW_all hlet (by omega)], ⟨by omega, by omega, hlim⟩, rfl, l2⟩))
            · rw [if_neg g7, if_neg (show ¬ nI l.length ≤ 7 from nI_ge (a := 7) (by omega) (by omega))]
              exact hbase 0 4 4 0 [] 0 rfl (Or.inr (Or.inr (Or.inr ⟨rfl, rfl⟩)))
          · rw [if_neg g0, decide_eq_false g0, if_pos (show zb false = 0 by decide), if_neg (show ¬ lC l = 0 by omega)]
            exact hbase 0 4 4 0 [] 0 rfl (Or.inr (Or.inr (Or.inr ⟨rfl, rfl⟩)))
        | false =>
          rw [eL] at hcnt
          simp only [Bool.false_eq_true, if_false] at hcnt ⊢
          rw [if_neg (show ¬ gC_ l = 0 by omega)]
          by_cases g1 : lC l = 0
          · rw [if_pos g1, decide_eq_true g1, if_neg (show ¬ zb true = 0 by decide)]
            have hdig : ∀ c, c ∈ l → isG c = true := fun c hc => by
              have h1 := hal c hc
              rw [Bool.or_eq_true] at h1
              rcases h1 with h1 | h1
              · exact absurd h1 (lC_no g1 c hc)
              · exact h1
            by_cases g3 : gC_ l ≤ 3
            · rw [if_pos g3, if_pos (show nI l.length ≤ 3 from nI_le (b := 3) (by omega) (by omega))]
              have hgv := gv_lt hdig
              have h10 : 10 ^ l.length ≤ 10 ^ 3 := Nat.pow_le_pow_right (by omega) (by omega)
              exact hbase 2 2 2 (gv l) [] e rfl (Or.inr (Or.inr (Or.inl ⟨rfl, rfl, by omega, by rw [k2, cN_all g1 hdig], by rw [l4, mN_all hdig (by omega)], ⟨by omega, by omega, hlim⟩, rfl, l2⟩)))
            · rw [if_neg g3, if_neg (show ¬ nI l.length ≤ 3 from nI_ge (a := 3) (by omega) (by omega))]
              exact hbase 0 4 4 0 [] 0 rfl (Or.inr (Or.inr (Or.inr ⟨rfl, rfl⟩)))
          · rw [if_neg g1, decide_eq_false g1, if_pos (show zb false = 0 by decide)]
            exact hbase 0 4 4 0 [] 0 rfl (Or.inr (Or.inr (Or.inr ⟨rfl, rfl⟩)))
    · -- the end
      have hin' : i = n := by omega
      rw [if_neg (nI_nlt (by omega) (by omega)), if_neg hin]
      rw [if_neg (by decide)]
      refine ⟨_, _, _, _, 0, 0, [], n, 0, rfl, rfl, ⟨?_, ?_, ?_, ?_, ?_, ?_, ?_, ?_, by omega, Or.inl ⟨rfl, ?_⟩⟩, Or.inl hp, mG_up hF2 (by omega), fun _ _ => rfl⟩
      · rw [zup_n (by omega), zup_n (by omega)]; exact h2
      · rw [zup_n (by omega), zup_s]
      · rw [zup_n (by omega), zup_n (by omega)]; exact h8
      · rw [zup_n (by omega)]; exact q3
      · rw [zup_n (by omega)]; exact q5
      · rw [zup_s]; rfl
      · rw [zup_n (by omega), q12, hin']
      · rw [zup_n (by omega)]; exact q15
      · rw [zup_s]
