/-! ===== the pure part: loops, numbers, bits ===== -/
theorem zLP_cnt {σ ρ : Type} {body : σ → Option (σ ⊕ ρ)} {s : σ} {r : ρ} (st : Nat → σ) (N : Nat) (h0 : s = st 0) (hs : ∀ k, k < N → body (st k) = some (.inl (st (k + 1)))) (ho : body (st N) = some (.inr r)) : zLP body s = some r := by
  subst h0
  have h : ∀ m k, k + m = N → zLP body (st k) = some r := by
    intro m
    induction m with
    | zero => intro k hk; rw [show k = N by omega]; exact zLP_out ho
    | succ m ih => intro k hk; rw [zLP_go (hs k (by omega))]; exact ih (k + 1) (by omega)
  exact h N 0 (by omega)
theorem zLP_inv {σ ρ : Type} {body : σ → Option (σ ⊕ ρ)} {s : σ} (I : Nat → σ → Prop) (R : ρ → Prop) (N : Nat) (h0 : I 0 s)
    (hs : ∀ k t, k < N → I k t → (∃ t', body t = some (.inl t') ∧ I (k + 1) t') ∨ (∃ r, body t = some (.inr r) ∧ R r))
    (ho : ∀ t, I N t → ∃ r, body t = some (.inr r) ∧ R r) : ∃ r, zLP body s = some r ∧ R r := by
  have h : ∀ m k t, k + m = N → I k t → ∃ r, zLP body t = some r ∧ R r := by
    intro m
    induction m with
    | zero =>
      intro k t hk hI
      rw [show k = N by omega] at hI
      obtain ⟨r, h1, h2⟩ := ho t hI
      exact ⟨r, zLP_out h1, h2⟩
    | succ m ih =>
      intro k t hk hI
      rcases hs k t (by omega) hI with ⟨t', h1, h2⟩ | ⟨r, h1, h2⟩
      · rw [zLP_go h1]; exact ih (k + 1) t' (by omega) h2
      · exact ⟨r, zLP_out h1, h2⟩
  exact h N 0 s (by omega) h0
theorem zLP_pair {σ ρ τ υ : Type} {bx : σ → Option (σ ⊕ ρ)} {bm : τ → Option (τ ⊕ υ)} {s : σ} {t : τ} (I : Nat → σ → τ → Prop) (R : ρ → υ → Prop) (N : Nat) (h0 : I 0 s t)
    (hs : ∀ k s t, k < N → I k s t → (∃ s' t', bx s = some (.inl s') ∧ bm t = some (.inl t') ∧ I (k + 1) s' t') ∨ (∃ r u, bx s = some (.inr r) ∧ bm t = some (.inr u) ∧ R r u))
    (ho : ∀ s t, I N s t → ∃ r u, bx s = some (.inr r) ∧ bm t = some (.inr u) ∧ R r u) : ∃ r u, zLP bx s = some r ∧ zLP bm t = some u ∧ R r u := by
  have h : ∀ m k s t, k + m = N → I k s t → ∃ r u, zLP bx s = some r ∧ zLP bm t = some u ∧ R r u := by
    intro m
    induction m with
    | zero =>
      intro k s t hk hI
      rw [show k = N by omega] at hI
      obtain ⟨r, u, h1, h2, h3⟩ := ho s t hI
      exact ⟨r, u, zLP_out h1, zLP_out h2, h3⟩
    | succ m ih =>
      intro k s t hk hI
      rcases hs k s t (by omega) hI with ⟨s', t', h1, h2, h3⟩ | ⟨r, u, h1, h2, h3⟩
      · rw [zLP_go h1, zLP_go h2]; exact ih (k + 1) s' t' (by omega) h3
      · exact ⟨r, u, zLP_out h1, zLP_out h2, h3⟩
  exact h N 0 s t (by omega) h0
theorem zLP_use {σ ρ : Type} {body : σ → Option (σ ⊕ ρ)} {s : σ} {G : Prop} (I : Nat → σ → Prop) (R : ρ → Prop) (N : Nat) (h0 : I 0 s) (kk : ∀ r, zLP body s = some r → R r → G)
    (hs : ∀ k t, k < N → I k t → (∃ t', body t = some (.inl t') ∧ I (k + 1) t') ∨ (∃ r, body t = some (.inr r) ∧ R r))
    (ho : ∀ t, I N t → ∃ r, body t = some (.inr r) ∧ R r) : G := by
  obtain ⟨r, h1, h2⟩ := zLP_inv I R N h0 hs ho
  exact kk r h1 h2
theorem zLP_bcnt {σ ρ β : Type} {body : σ → Option (σ ⊕ ρ)} {s : σ} {r : ρ} {f : ρ → Option β} (st : Nat → σ) (N : Nat) (h0 : s = st 0) (hs : ∀ k, k < N → body (st k) = some (.inl (st (k + 1)))) (ho : body (st N) = some (.inr r)) : (zLP body s).bind f = f r := by
  rw [zLP_cnt st N h0 hs ho]; rfl
theorem zrd_n {α : Type} {f : Nat → α} {n k : Nat} (h : k < n) (hn : n < 2 ^ 31) : zrd f n (nI k) = some (f k) := by
  have hk : k < 2 ^ 31 := by omega
  unfold zrd zin
  rw [nI_clamp hk, decide_eq_true (nI_pos' hk), decide_eq_true h]; rfl
theorem zwr_n {α : Type} {f : Nat → α} {n k : Nat} {x : α} (h : k < n) (hn : n < 2 ^ 31) : zwr f n (nI k) x = some (zup f k x) := by
  have hk : k < 2 ^ 31 := by omega
  unfold zwr zin
  rw [nI_clamp hk, decide_eq_true (nI_pos' hk), decide_eq_true h]; rfl
theorem zup_s {α : Type} {f : Nat → α} {k : Nat} {x : α} : zup f k x k = x := by simp [zup]
theorem zup_n {α : Type} {f : Nat → α} {k j : Nat} {x : α} (h : j ≠ k) : zup f k x j = f j := by simp [zup, h]
theorem nI_mul (a b : Nat) : nI a * nI b = nI (a * b) := (Int32.ofNat_mul a b).symm
theorem nI_sub {a b : Nat} (h : b ≤ a) : nI a - nI b = nI (a - b) := (Int32.ofNat_sub a b h).symm
theorem zg3 {k : Nat} (h : k < 3) : ¬ (3 : Int32) ≤ nI k := nI_ge (b := 3) h (by omega)
theorem ze3 {k : Nat} (h : 3 ≤ k) (hk : k < 2 ^ 31) : (3 : Int32) ≤ nI k := nI_le (a := 3) h hk
theorem zg5 {k : Nat} (h : k < 5) : ¬ (5 : Int32) ≤ nI k := nI_ge (b := 5) h (by omega)
theorem ze5 {k : Nat} (h : 5 ≤ k) (hk : k < 2 ^ 31) : (5 : Int32) ≤ nI k := nI_le (a := 5) h hk
theorem zg6 {k : Nat} (h : k < 6) : ¬ (6 : Int32) ≤ nI k := nI_ge (b := 6) h (by omega)
theorem ze6 {k : Nat} (h : 6 ≤ k) (hk : k < 2 ^ 31) : (6 : Int32) ≤ nI k := nI_le (a := 6) h hk
theorem zg7 {k : Nat} (h : k < 7) : ¬ (7 : Int32) ≤ nI k := nI_ge (b := 7) h (by omega)
theorem ze7 {k : Nat} (h : 7 ≤ k) (hk : k < 2 ^ 31) : (7 : Int32) ≤ nI k := nI_le (a := 7) h hk
theorem zg8 {k : Nat} (h : k < 8) : ¬ (8 : Int32) ≤ nI k := nI_ge (b := 8) h (by omega)
theorem ze8 {k : Nat} (h : 8 ≤ k) (hk : k < 2 ^ 31) : (8 : Int32) ≤ nI k := nI_le (a := 8) h hk
theorem zg20 {k : Nat} (h : k < 20) : ¬ (20 : Int32) ≤ nI k := nI_ge (b := 20) h (by omega)
theorem ze20 {k : Nat} (h : 20 ≤ k) (hk : k < 2 ^ 31) : (20 : Int32) ≤ nI k := nI_le (a := 20) h hk
theorem zg22 {k : Nat} (h : k < 22) : ¬ (22 : Int32) ≤ nI k := nI_ge (b := 22) h (by omega)
theorem ze22 {k : Nat} (h : 22 ≤ k) (hk : k < 2 ^ 31) : (22 : Int32) ≤ nI k := nI_le (a := 22) h hk
theorem zg36 {k : Nat} (h : k < 36) : ¬ (36 : Int32) ≤ nI k := nI_ge (b := 36) h (by omega)
theorem ze36 {k : Nat} (h : 36 ≤ k) (hk : k < 2 ^ 31) : (36 : Int32) ≤ nI k := nI_le (a := 36) h hk
theorem zg40 {k : Nat} (h : k < 40) : ¬ (40 : Int32) ≤ nI k := nI_ge (b := 40) h (by omega)
theorem ze40 {k : Nat} (h : 40 ≤ k) (hk : k < 2 ^ 31) : (40 : Int32) ≤ nI k := nI_le (a := 40) h hk
theorem zg45 {k : Nat} (h : k < 45) : ¬ (45 : Int32) ≤ nI k := nI_ge (b := 45) h (by omega)
theorem ze45 {k : Nat} (h : 45 ≤ k) (hk : k < 2 ^ 31) : (45 : Int32) ≤ nI k := nI_le (a := 45) h hk
theorem zg48 {k : Nat} (h : k < 48) : ¬ (48 : Int32) ≤ nI k := nI_ge (b := 48) h (by omega)
theorem ze48 {k : Nat} (h : 48 ≤ k) (hk : k < 2 ^ 31) : (48 : Int32) ≤ nI k := nI_le (a := 48) h hk
theorem zg64 {k : Nat} (h : k < 64) : ¬ (64 : Int32) ≤ nI k := nI_ge (b := 64) h (by omega)
theorem ze64 {k : Nat} (h : 64 ≤ k) (hk : k < 2 ^ 31) : (64 : Int32) ≤ nI k := nI_le (a := 64) h hk
theorem zg89 {k : Nat} (h : k < 89) : ¬ (89 : Int32) ≤ nI k := nI_ge (b := 89) h (by omega)
theorem ze89 {k : Nat} (h : 89 ≤ k) (hk : k < 2 ^ 31) : (89 : Int32) ≤ nI k := nI_le (a := 89) h hk
theorem zg127 {k : Nat} (h : k < 127) : ¬ (127 : Int32) ≤ nI k := nI_ge (b := 127) h (by omega)
theorem ze127 {k : Nat} (h : 127 ≤ k) (hk : k < 2 ^ 31) : (127 : Int32) ≤ nI k := nI_le (a := 127) h hk
theorem zg397 {k : Nat} (h : k < 397) : ¬ (397 : Int32) ≤ nI k := nI_ge (b := 397) h (by omega)
theorem ze397 {k : Nat} (h : 397 ≤ k) (hk : k < 2 ^ 31) : (397 : Int32) ≤ nI k := nI_le (a := 397) h hk
theorem zg400 {k : Nat} (h : k < 400) : ¬ (400 : Int32) ≤ nI k := nI_ge (b := 400) h (by omega)
theorem ze400 {k : Nat} (h : 400 ≤ k) (hk : k < 2 ^ 31) : (400 : Int32) ≤ nI k := nI_le (a := 400) h hk
theorem zg448 {k : Nat} (h : k < 448) : ¬ (448 : Int32) ≤ nI k := nI_ge (b := 448) h (by omega)
theorem ze448 {k : Nat} (h : 448 ≤ k) (hk : k < 2 ^ 31) : (448 : Int32) ≤ nI k := nI_le (a := 448) h hk
theorem zg940 {k : Nat} (h : k < 940) : ¬ (940 : Int32) ≤ nI k := nI_ge (b := 940) h (by omega)
theorem ze940 {k : Nat} (h : 940 ≤ k) (hk : k < 2 ^ 31) : (940 : Int32) ≤ nI k := nI_le (a := 940) h hk
theorem z_or (a b : Nat) : nI a ||| nI b = nI (a ||| b) := by
  apply Int32.toBitVec_inj.1
  show BitVec.ofNat 32 a ||| BitVec.ofNat 32 b = BitVec.ofNat 32 (a ||| b)
  apply BitVec.eq_of_getLsbD_eq
  intro i hi
  simp [hi]
theorem z_and (a b : Nat) : nI a &&& nI b = nI (a &&& b) := by
  apply Int32.toBitVec_inj.1
  show BitVec.ofNat 32 a &&& BitVec.ofNat 32 b = BitVec.ofNat 32 (a &&& b)
  apply BitVec.eq_of_getLsbD_eq
  intro i hi
  simp [hi]
theorem z_xor (a b : Nat) : nI a ^^^ nI b = nI (a ^^^ b) := by
  apply Int32.toBitVec_inj.1
  show BitVec.ofNat 32 a ^^^ BitVec.ofNat 32 b = BitVec.ofNat 32 (a ^^^ b)
  apply BitVec.eq_of_getLsbD_eq
  intro i hi
  simp [hi]
theorem z_shA : ∀ k, k < 31 → (1 : Int32) <<< (nI k &&& 31) = nI (2 ^ k) := by decide +kernel
theorem z_sh {k : Nat} (h : k < 31) : (1 : Int32) <<< (nI k &&& 31) = nI (2 ^ k) := z_shA k h
theorem z_hbA : ∀ a, a < 256 → ∀ k, k < 8 → fX_hasBit (nI a) (nI k) = a.testBit k := by decide +kernel
theorem z_hb {a k : Nat} (h : a < 256) (hk : k < 8) : fX_hasBit (nI a) (nI k) = a.testBit k := z_hbA a h k hk
theorem z_boA : ∀ a, a < 256 → ∀ k, k < 8 → fM_bitOf (nI a) (nI k) = a.testBit k := by decide +kernel
theorem z_bo {a k : Nat} (h : a < 256) (hk : k < 8) : fM_bitOf (nI a) (nI k) = a.testBit k := z_boA a h k hk
theorem z_m1 : (-1 : Int32) = nI 4294967295 := by decide
theorem zdf_tb {a b k : Nat} (hk : k < 32) : (a &&& (b ^^^ 4294967295)).testBit k = (a.testBit k && !b.testBit k) := by
  have h : ∀ k, k < 32 → Nat.testBit 4294967295 k = true := by decide +kernel
  rw [Nat.testBit_and, Nat.testBit_xor, h k hk, Bool.xor_true]
theorem z_df {a b : Nat} : nI a &&& (nI b ^^^ (-1)) = nI (a &&& (b ^^^ 4294967295)) := by rw [z_m1, z_xor, z_and]
/-! sets of few things as bits -/
def zset (f : Nat → Bool) : Nat → Nat
  | 0 => 0
  | n + 1 => zset f n ||| (if f n then 2 ^ n else 0)
theorem zset_tb (f : Nat → Bool) (n k : Nat) : (zset f n).testBit k = (decide (k < n) && f k) := by
  induction n with
  | zero => simp [zset]
  | succ n ih =>
    rw [zset, Nat.testBit_or, ih]
    by_cases h : k = n
    · subst h
      cases hf : f k <;> simp [Nat.testBit_two_pow]
    · have e : decide (k < n + 1) = decide (k < n) := by
        apply decide_eq_decide.mpr; omega
      rw [e]
      cases hf : f n <;> simp [Nat.testBit_two_pow, Ne.symm h]
theorem zset_lt (f : Nat → Bool) (n : Nat) : zset f n < 2 ^ n := by
  apply Nat.lt_pow_two_of_testBit
  intro i hi
  rw [zset_tb, decide_eq_false (by omega), Bool.false_and]
theorem z_ext {a b n : Nat} (ha : a < 2 ^ n) (hb : b < 2 ^ n) (h : ∀ k, k < n → a.testBit k = b.testBit k) : a = b := by
  apply Nat.eq_of_testBit_eq
  intro i
  rcases Nat.lt_or_ge i n with hi | hi
  · exact h i hi
  · rw [Nat.testBit_lt_two_pow (Nat.lt_of_lt_of_le ha (Nat.pow_le_pow_right (by omega) hi)), Nat.testBit_lt_two_pow (Nat.lt_of_lt_of_le hb (Nat.pow_le_pow_right (by omega) hi))]
theorem zset_ext {f g : Nat → Bool} {n : Nat} (h : ∀ k, k < n → f k = g k) : zset f n = zset g n := by
  induction n with
  | zero => rfl
  | succ n ih => rw [zset, zset, ih (fun k hk => h k (by omega)), h n (by omega)]
theorem zset_more {f : Nat → Bool} {n m : Nat} (hm : n ≤ m) (h : ∀ k, n ≤ k → k < m → f k = false) : zset f m = zset f n := by
  induction m with
  | zero => rw [show n = 0 by omega]
  | succ m ih =>
    rcases Nat.lt_or_ge n (m + 1) with h1 | h1
    · rw [zset, ih (by omega) (fun k h2 h3 => h k h2 (by omega)), h m (by omega) (by omega)]; simp
    · rw [show n = m + 1 by omega]
def zpc (a : Nat) : Nat := (if a.testBit 0 then 1 else 0) + (if a.testBit 1 then 1 else 0) + (if a.testBit 2 then 1 else 0) + (if a.testBit 3 then 1 else 0) + (if a.testBit 4 then 1 else 0) + (if a.testBit 5 then 1 else 0) + (if a.testBit 6 then 1 else 0) + (if a.testBit 7 then 1 else 0)
theorem z_bcA : ∀ a, a < 256 → fJI_bitCount (nI a) = nI (zpc a) := by decide +kernel
theorem z_bc {a : Nat} (h : a < 256) : fJI_bitCount (nI a) = nI (zpc a) := z_bcA a h
theorem zpc_le (a : Nat) : zpc a ≤ 8 := by
  unfold zpc; repeat' split
  all_goals omega
theorem z_bsA : ∀ a, a < 256 → a ≠ 0 → (nI a &&& (nI a - 1)) = nI (a &&& (a - 1)) ∧ (a &&& (a - 1)) < a ∧ zpc (a &&& (a - 1)) + 1 = zpc a := by decide +kernel
theorem z_bits {a : Nat} (h : a < 256) : fM_bits (nI a) = some (nI (zpc a)) := by
  have H : ∀ m a n, a ≤ m → a < 256 → zLP (fun s : Int32 × Int32 => fM_bits_L4 s.1 s.2) (nI n, nI a) = some (nI (n + zpc a)) := by
    intro m
    induction m with
    | zero =>
      intro a n ha _
      have e : a = 0 := by omega
      subst e
      refine zLP_out ?_
      show fM_bits_L4 (nI n) (nI 0) = _
      unfold fM_bits_L4
      rw [if_pos (by decide)]
      rfl
    | succ m ih =>
      intro a n ha hb
      by_cases e : a = 0
      · subst e; exact ih 0 n (by omega) hb
      · obtain ⟨h1, h2, h3⟩ := z_bsA a hb e
        have hne : ¬ nI a = 0 := nI_ne0 (by omega) (by omega)
        have hb : fM_bits_L4 (nI n) (nI a) = some (.inl (nI (n + 1), nI (a &&& (a - 1)))) := by
          unfold fM_bits_L4 zlet
          rw [if_neg hne, nI_1, h1]
        rw [zLP_go (s' := (nI (n + 1), nI (a &&& (a - 1)))) hb, ih _ _ (by omega) (by omega)]
        rw [← h3]
        congr 2
        omega
  unfold fM_bits
  rw [show ((0 : Int32), nI a) = (nI 0, nI a) from rfl, H a a 0 (Nat.le_refl _) h]
  rw [Nat.zero_add]; rfl
