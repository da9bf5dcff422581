/-! loops, names, rows: what the printed functions are made of -/
def zlet {α β : Type} (e : α) (f : α → β) : β := f e
theorem zlet_at {α β : Type} {a e : α} {f : α → β} {r : β} (ea : a = e) (h : zlet e f = r) : f a = r := by subst ea; exact h
theorem zt_t {α : Type} {c : Prop} {ic : Decidable c} {a b r : α} (h : (@ite α c ic a b) = r) (hc : c) : a = r := by rw [if_pos hc] at h; exact h
theorem zt_f {α : Type} {c : Prop} {ic : Decidable c} {a b r : α} (h : (@ite α c ic a b) = r) (hc : ¬ c) : b = r := by rw [if_neg hc] at h; exact h
theorem zt_b {α β : Type} {x : Option α} {f : α → Option β} {r : β} (h : x.bind f = some r) : ∃ y, x = some y ∧ f y = some r := Option.bind_eq_some_iff.mp h
def zlp {σ ρ : Type} (body : σ → Option (σ ⊕ ρ)) : Nat → σ → Option ρ
  | 0, _ => none
  | n + 1, s => match body s with
    | none => none
    | some (.inl s') => zlp body n s'
    | some (.inr r) => some r
noncomputable def zLP {σ ρ : Type} (body : σ → Option (σ ⊕ ρ)) (s : σ) : Option ρ :=
  @dite _ (∃ r, ∃ n, zlp body n s = some r) (Classical.propDecidable _) (fun h => some (Classical.choose h)) (fun _ => none)
theorem zlp_mono {σ ρ : Type} {body : σ → Option (σ ⊕ ρ)} {r : ρ} : ∀ {n : Nat} {s : σ}, zlp body n s = some r → zlp body (n + 1) s = some r := by
  intro n
  induction n with
  | zero => intro s h; cases h
  | succ n ih =>
    intro s h
    unfold zlp at h ⊢
    split at h
    · cases h
    · exact ih h
    · exact h
theorem zlp_le {σ ρ : Type} {body : σ → Option (σ ⊕ ρ)} {r : ρ} {s : σ} {n m : Nat} (hm : n ≤ m) (h : zlp body n s = some r) : zlp body m s = some r := by
  induction hm with
  | refl => exact h
  | step _ ih => exact zlp_mono ih
theorem zLP_some {σ ρ : Type} {body : σ → Option (σ ⊕ ρ)} {s : σ} {r : ρ} (h : zLP body s = some r) : ∃ n, zlp body n s = some r := by
  unfold zLP at h
  split at h
  · next hx =>
    have e := Option.some.inj h
    rw [← e]
    exact Classical.choose_spec hx
  · cases h
theorem zLP_of {σ ρ : Type} {body : σ → Option (σ ⊕ ρ)} {s : σ} {r : ρ} {n : Nat} (h : zlp body n s = some r) : zLP body s = some r := by
  have hx : ∃ r, ∃ n, zlp body n s = some r := ⟨r, n, h⟩
  unfold zLP
  rw [dif_pos hx]
  obtain ⟨m, hm⟩ := Classical.choose_spec hx
  have h1 := zlp_le (Nat.le_max_left n m) h
  have h2 := zlp_le (Nat.le_max_right n m) hm
  rw [h1] at h2
  rw [Option.some.inj h2]
theorem zLP_eq {σ ρ : Type} (body : σ → Option (σ ⊕ ρ)) (s : σ) : zLP body s = (body s).bind (fun x => match x with | .inl s' => zLP body s' | .inr r => some r) := by
  cases hb : body s with
  | none =>
    cases h : zLP body s with
    | none => rfl
    | some r =>
      obtain ⟨n, hn⟩ := zLP_some h
      cases n with
      | zero => cases hn
      | succ n => simp [zlp, hb] at hn
  | some x =>
    cases x with
    | inr r =>
      have h1 : zlp body 1 s = some r := by simp [zlp, hb]
      exact zLP_of h1
    | inl s' =>
      show zLP body s = zLP body s'
      cases h : zLP body s with
      | none =>
        cases h' : zLP body s' with
        | none => rfl
        | some r =>
          obtain ⟨n, hn⟩ := zLP_some h'
          have h2 : zlp body (n + 1) s = some r := by simp [zlp, hb, hn]
          rw [zLP_of h2] at h; cases h
      | some r =>
        obtain ⟨n, hn⟩ := zLP_some h
        cases n with
        | zero => cases hn
        | succ n =>
          simp [zlp, hb] at hn
          exact (zLP_of hn).symm
theorem zLP_go {σ ρ : Type} {body : σ → Option (σ ⊕ ρ)} {s s' : σ} (h : body s = some (.inl s')) : zLP body s = zLP body s' := by rw [zLP_eq, h]; rfl
theorem zLP_out {σ ρ : Type} {body : σ → Option (σ ⊕ ρ)} {s : σ} {r : ρ} (h : body s = some (.inr r)) : zLP body s = some r := by rw [zLP_eq, h]; rfl
theorem zlp_step {σ ρ : Type} {body : σ → Option (σ ⊕ ρ)} {s : σ} {r : ρ} {n : Nat} (h : zlp body (n + 1) s = some r) : ∃ o, body s = some o ∧ (∀ s', o = .inl s' → zlp body n s' = some r) ∧ (∀ q, o = .inr q → q = r) := by
  unfold zlp at h
  split at h
  · cases h
  · next s' e => exact ⟨_, e, fun t ht => by cases ht; exact h, fun q hq => by cases hq⟩
  · next q e => exact ⟨_, e, fun t ht => (by cases ht), fun t ht => by cases ht; exact Option.some.inj h⟩
def zb (b : Bool) : Int32 := match b with
  | true => 1
  | false => 0
theorem zb_01 (b : Bool) : zb b = 0 ∨ zb b = 1 := by cases b <;> simp [zb]
theorem zb_0 {b : Bool} : zb b = 0 ↔ b = false := by cases b <;> simp [zb]
def zin (j : Int32) (n : Nat) : Bool := decide (0 ≤ j) && decide (j.toNatClampNeg < n)
theorem zin_in {j : Int32} {n : Nat} (h : zin j n = true) : vp_in j n := by
  simp only [zin, Bool.and_eq_true, decide_eq_true_eq] at h
  intro q
  rcases q with q | q
  · exact absurd h.1 (Int32.not_le.mpr q)
  · omega
def zrd {α : Type} (f : Nat → α) (n : Nat) (j : Int32) : Option α := if zin j n then some (f j.toNatClampNeg) else none
def zwr {α : Type} (f : Nat → α) (n : Nat) (j : Int32) (x : α) : Option (Nat → α) := if zin j n then some (fun k => if k = j.toNatClampNeg then x else f k) else none
theorem zrd_some {α : Type} {f : Nat → α} {n : Nat} {j : Int32} {v : α} (h : zrd f n j = some v) : vp_in j n ∧ f j.toNatClampNeg = v := by
  unfold zrd at h
  split at h
  · next hz => exact ⟨zin_in hz, Option.some.inj h⟩
  · cases h
theorem zwr_some {α : Type} {f g : Nat → α} {n : Nat} {j : Int32} {x : α} (h : zwr f n j x = some g) : vp_in j n ∧ (fun k => if k = j.toNatClampNeg then x else f k) = g := by
  unfold zwr at h
  split at h
  · next hz => exact ⟨zin_in hz, Option.some.inj h⟩
  · cases h
/-! memories in order -/
theorem zr_s {M : zM} {i : Nat} {f : Nat → Int32} : (zui M i f).1 i = f := zui_s
theorem zr_n {M : zM} {i j : Nat} {f g : Nat → Int32} (h : Nat.beq j i = false) (e : M.1 j = g) : (zui M i f).1 j = g := (zui_n (Nat.ne_of_beq_eq_false h)).trans e
theorem zr_l {M : zM} {i j : Nat} {f : Nat → Int64} {g : Nat → Int32} (e : M.1 j = g) : (zul M i f).1 j = g := e
theorem zq_s {M : zM} {i : Nat} {f : Nat → Int64} : (zul M i f).2 i = f := zul_s
theorem zq_n {M : zM} {i j : Nat} {f g : Nat → Int64} (h : Nat.beq j i = false) (e : M.2 j = g) : (zul M i f).2 j = g := (zul_n (Nat.ne_of_beq_eq_false h)).trans e
theorem zq_i {M : zM} {i j : Nat} {f : Nat → Int32} {g : Nat → Int64} (e : M.2 j = g) : (zui M i f).2 j = g := e
theorem zm_s {M : zM} {i : Nat} {f g : Nat → Int32} : zui (zui M i f) i g = zui M i g := by
  refine Prod.ext (funext fun j => ?_) rfl
  show (if j = i then g else if j = i then f else M.1 j) = if j = i then g else M.1 j
  split <;> rfl
theorem zm_n {M N : zM} {i j : Nat} {f g : Nat → Int32} (h : Nat.beq i j = false) (e : zui M i g = N) : zui (zui M j f) i g = zui N j f := by
  subst e
  have hn := Nat.ne_of_beq_eq_false h
  refine Prod.ext (funext fun k => ?_) rfl
  show (if k = i then g else if k = j then f else M.1 k) = if k = j then f else if k = i then g else M.1 k
  split
  · next h1 => subst h1; rw [if_neg hn]
  · rfl
theorem zm_li {M N : zM} {i j : Nat} {f : Nat → Int32} {g : Nat → Int64} (e : zul M i g = N) : zul (zui M j f) i g = zui N j f := by subst e; rfl
theorem zn_s {M : zM} {i : Nat} {f g : Nat → Int64} : zul (zul M i f) i g = zul M i g := by
  refine Prod.ext rfl (funext fun j => ?_)
  show (if j = i then g else if j = i then f else M.2 j) = if j = i then g else M.2 j
  split <;> rfl
theorem zn_n {M N : zM} {i j : Nat} {f g : Nat → Int64} (h : Nat.beq i j = false) (e : zul M i g = N) : zul (zul M j f) i g = zul N j f := by
  subst e
  have hn := Nat.ne_of_beq_eq_false h
  refine Prod.ext rfl (funext fun k => ?_)
  show (if k = i then g else if k = j then f else M.2 k) = if k = j then f else if k = i then g else M.2 k
  split
  · next h1 => subst h1; rw [if_neg hn]
  · rfl
theorem zself_i {M N : zM} {i : Nat} {g : Nat → Int32} (e : M.1 i = g) (h : zui M i g = N) : N = M := by
  subst h; subst e
  refine Prod.ext (funext fun k => ?_) rfl
  show (if k = i then M.1 i else M.1 k) = M.1 k
  split
  · next h => rw [h]
  · rfl
theorem zself_l {M N : zM} {i : Nat} {g : Nat → Int64} (e : M.2 i = g) (h : zul M i g = N) : N = M := by
  subst h; subst e
  refine Prod.ext rfl (funext fun k => ?_)
  show (if k = i then M.2 i else M.2 k) = M.2 k
  split
  · next h => rw [h]
  · rfl
section ZJ2
variable {Γ : zG} {d : Nat} {y : zY} {pc pc' : Nat} {L L' : List (Nat × Value)} {rest : List Value} {M N : zM} {Q : Option Value → zM → Prop}
theorem zj_mem (h : N = M) (k : zR Γ d y pc L rest N Q) : zR Γ d y pc L rest M Q := h ▸ k
theorem zj_topi {x : Int32} (k : ∀ a : Int32, a = x → zR Γ d y pc L (.int a :: rest) M Q) : zR Γ d y pc L (.int x :: rest) M Q := k x rfl
theorem zj_topl {x : Int64} (k : ∀ a : Int64, a = x → zR Γ d y pc L (.long a :: rest) M Q) : zR Γ d y pc L (.long x :: rest) M Q := k x rfl
theorem zj_eqi {x a : Int32} (h : a = x) (k : zR Γ d y pc L (.int a :: rest) M Q) : zR Γ d y pc L (.int x :: rest) M Q := h ▸ k
theorem zj_rdi {i n : Nat} {j v : Int32} {f : Nat → Int32} (hdg : decode y.2.1 pc = .ok (.iaload, 1)) (hp : pc + 1 = pc') (hsh : zSH[i]? = some (0, [n])) (hf : M.1 i = f) (hv : zrd f n j = some v) (k : zR Γ d y pc' L (.int v :: rest) M Q) : zR Γ d y pc L (.int j :: .ref (zad Γ i) :: rest) M Q := by
  obtain ⟨h1, h2⟩ := zrd_some hv
  subst hf; subst h2
  exact zj_iald hdg hp hsh h1 k
theorem zj_rdb {i n : Nat} {j v : Int32} {f : Nat → Int32} (hdg : decode y.2.1 pc = .ok (.baload, 1)) (hp : pc + 1 = pc') (hsh : zSH[i]? = some (2, [n])) (hf : M.1 i = f) (hv : zrd f n j = some v) (k : zR Γ d y pc' L (.int v :: rest) M Q) : zR Γ d y pc L (.int j :: .ref (zad Γ i) :: rest) M Q := by
  obtain ⟨h1, h2⟩ := zrd_some hv
  subst hf; subst h2
  exact zj_bald hdg hp hsh h1 k
theorem zj_rdz {i n : Nat} {j v : Int32} {f : Nat → Int32} (hdg : decode y.2.1 pc = .ok (.baload, 1)) (hp : pc + 1 = pc') (hsh : zSH[i]? = some (3, [n])) (hf : M.1 i = f) (hv : zrd f n j = some v) (k : zR Γ d y pc' L (.int v :: rest) M Q) : zR Γ d y pc L (.int j :: .ref (zad Γ i) :: rest) M Q := by
  obtain ⟨h1, h2⟩ := zrd_some hv
  subst hf; subst h2
  exact zj_zald hdg hp hsh h1 k
theorem zj_rdl {i n : Nat} {j : Int32} {v : Int64} {f : Nat → Int64} (hdg : decode y.2.1 pc = .ok (.laload, 1)) (hp : pc + 1 = pc') (hsh : zSH[i]? = some (1, [n])) (hf : M.2 i = f) (hv : zrd f n j = some v) (k : zR Γ d y pc' L (.long v :: rest) M Q) : zR Γ d y pc L (.int j :: .ref (zad Γ i) :: rest) M Q := by
  obtain ⟨h1, h2⟩ := zrd_some hv
  subst hf; subst h2
  exact zj_lald hdg hp hsh h1 k
theorem zj_wri {i n : Nat} {j x : Int32} {f g : Nat → Int32} (hdg : decode y.2.1 pc = .ok (.iastore, 1)) (hp : pc + 1 = pc') (hsh : zSH[i]? = some (0, [n])) (hf : M.1 i = f) (hw : zwr f n j x = some g) (hN : zui M i g = N) (k : zR Γ d y pc' L rest N Q) : zR Γ d y pc L (.int x :: .int j :: .ref (zad Γ i) :: rest) M Q := by
  obtain ⟨h1, h2⟩ := zwr_some hw
  subst hf; subst h2; subst hN
  exact zj_iast hdg hp hsh h1 k
theorem zj_wrb {i n : Nat} {j x : Int32} {f g : Nat → Int32} (hdg : decode y.2.1 pc = .ok (.bastore, 1)) (hp : pc + 1 = pc') (hsh : zSH[i]? = some (2, [n])) (hf : M.1 i = f) (hw : zwr f n j (vp_nar .byte x) = some g) (hN : zui M i g = N) (k : zR Γ d y pc' L rest N Q) : zR Γ d y pc L (.int x :: .int j :: .ref (zad Γ i) :: rest) M Q := by
  obtain ⟨h1, h2⟩ := zwr_some hw
  subst hf; subst h2; subst hN
  exact zj_bast hdg hp hsh h1 k
theorem zj_wrz {i n : Nat} {j x : Int32} {f g : Nat → Int32} (hdg : decode y.2.1 pc = .ok (.bastore, 1)) (hp : pc + 1 = pc') (hsh : zSH[i]? = some (3, [n])) (hf : M.1 i = f) (hw : zwr f n j (vp_nar .boolean x) = some g) (hN : zui M i g = N) (k : zR Γ d y pc' L rest N Q) : zR Γ d y pc L (.int x :: .int j :: .ref (zad Γ i) :: rest) M Q := by
  obtain ⟨h1, h2⟩ := zwr_some hw
  subst hf; subst h2; subst hN
  exact zj_zast hdg hp hsh h1 k
theorem zj_wrl {i n : Nat} {j : Int32} {x : Int64} {f g : Nat → Int64} (hdg : decode y.2.1 pc = .ok (.lastore, 1)) (hp : pc + 1 = pc') (hsh : zSH[i]? = some (1, [n])) (hf : M.2 i = f) (hw : zwr f n j x = some g) (hN : zul M i g = N) (k : zR Γ d y pc' L rest N Q) : zR Γ d y pc L (.long x :: .int j :: .ref (zad Γ i) :: rest) M Q := by
  obtain ⟨h1, h2⟩ := zwr_some hw
  subst hf; subst h2; subst hN
  exact zj_last hdg hp hsh h1 k
theorem zj_fI {idx i ci k0 : Nat} {fl : List Nat} {f : Nat → Int32} {v : Int32} (hdg : decode y.2.1 pc = .ok (.getfield idx, 3)) (hp : pc + 3 = pc') (hfl : zfld y.1.cls idx ci k0) (hsh : zSH[i]? = some (ci + 10, fl)) (hk : fl[k0]? = some 0) (hf : M.1 i = f) (hv : f k0 = v) (k : zR Γ d y pc' L (.int v :: rest) M Q) : zR Γ d y pc L (.ref (zad Γ i) :: rest) M Q := by
  subst hf; subst hv
  exact zj_getI hdg hp hfl hsh hk k
theorem zj_fL {idx i ci k0 : Nat} {fl : List Nat} {f : Nat → Int64} {v : Int64} (hdg : decode y.2.1 pc = .ok (.getfield idx, 3)) (hp : pc + 3 = pc') (hfl : zfld y.1.cls idx ci k0) (hsh : zSH[i]? = some (ci + 10, fl)) (hk : fl[k0]? = some 1) (hf : M.2 i = f) (hv : f k0 = v) (k : zR Γ d y pc' L (.long v :: rest) M Q) : zR Γ d y pc L (.ref (zad Γ i) :: rest) M Q := by
  subst hf; subst hv
  exact zj_getL hdg hp hfl hsh hk k
def zup {α : Type} (f : Nat → α) (k : Nat) (x : α) : Nat → α := fun j => if j = k then x else f j
theorem zj_pI {idx i ci k0 : Nat} {fl : List Nat} {f g : Nat → Int32} {v : Int32} (hdg : decode y.2.1 pc = .ok (.putfield idx, 3)) (hp : pc + 3 = pc') (hfl : zfldP y.1.cls idx ci k0 .int) (hsh : zSH[i]? = some (ci + 10, fl)) (hk : fl[k0]? = some 0) (hf : M.1 i = f) (hg : g = zup f k0 v) (hN : zui M i g = N) (k : zR Γ d y pc' L rest N Q) : zR Γ d y pc L (.int v :: .ref (zad Γ i) :: rest) M Q := by
  subst hf; subst hg; subst hN
  exact zj_putI hdg hp hfl hsh hk k
theorem zj_pZ {idx i ci k0 : Nat} {fl : List Nat} {f g : Nat → Int32} {v : Int32} (hdg : decode y.2.1 pc = .ok (.putfield idx, 3)) (hp : pc + 3 = pc') (hfl : zfldP y.1.cls idx ci k0 .boolean) (hsh : zSH[i]? = some (ci + 10, fl)) (hk : fl[k0]? = some 0) (hv : v = 0 ∨ v = 1) (hf : M.1 i = f) (hg : g = zup f k0 v) (hN : zui M i g = N) (k : zR Γ d y pc' L rest N Q) : zR Γ d y pc L (.int v :: .ref (zad Γ i) :: rest) M Q := by
  subst hf; subst hg; subst hN
  exact zj_putZ hdg hp hfl hsh hk hv k
theorem zj_pL {idx i ci k0 : Nat} {fl : List Nat} {f g : Nat → Int64} {v : Int64} (hdg : decode y.2.1 pc = .ok (.putfield idx, 3)) (hp : pc + 3 = pc') (hfl : zfldP y.1.cls idx ci k0 .long) (hsh : zSH[i]? = some (ci + 10, fl)) (hk : fl[k0]? = some 1) (hf : M.2 i = f) (hg : g = zup f k0 v) (hN : zul M i g = N) (k : zR Γ d y pc' L rest N Q) : zR Γ d y pc L (.long v :: .ref (zad Γ i) :: rest) M Q := by
  subst hf; subst hg; subst hN
  exact zj_putL hdg hp hfl hsh hk k
theorem zj_bif_eq {off : Int} {tgt : Nat} {b : Bool} (hdg : decode y.2.1 pc = .ok (.ifCond .eq off, 3)) (hp : pc + 3 = pc') (ht : (pc : Int) + off = (tgt : Int)) (kt : ¬ b = true → zR Γ d y tgt L rest M Q) (kf : b = true → zR Γ d y pc' L rest M Q) : zR Γ d y pc L (.int (zb b) :: rest) M Q :=
  zj_if_eq hdg hp ht (fun h => kt (by rw [zb_0.mp h]; exact Bool.false_ne_true)) (fun h => kf (by cases b with | true => rfl | false => exact absurd rfl h))
theorem zj_bif_ne {off : Int} {tgt : Nat} {b : Bool} (hdg : decode y.2.1 pc = .ok (.ifCond .ne off, 3)) (hp : pc + 3 = pc') (ht : (pc : Int) + off = (tgt : Int)) (kt : b = true → zR Γ d y tgt L rest M Q) (kf : ¬ b = true → zR Γ d y pc' L rest M Q) : zR Γ d y pc L (.int (zb b) :: rest) M Q :=
  zj_if_ne hdg hp ht (fun h => kt (by cases b with | true => rfl | false => exact absurd rfl h)) (fun h => kf (by rw [zb_0.mp h]; exact Bool.false_ne_true))
theorem zj_bret {b : Bool} (hdg : decode y.2.1 pc = .ok (.ireturn, 1)) (hr : y.2.2.2 = some .boolean) (q : Q (some (.int (zb b))) M) : zR Γ d y pc L [.int (zb b)] M Q := zj_zret hdg hr (zb_01 b) q
end ZJ2
def zcpi (f g : Nat → Int32) (sp dp n : Int32) (n0 n1 : Nat) : Option (Nat → Int32) := if decide (0 ≤ sp) && decide (0 ≤ dp) && decide (0 ≤ n) && decide (sp.toNatClampNeg + n.toNatClampNeg ≤ n0) && decide (dp.toNatClampNeg + n.toNatClampNeg ≤ n1) then some (va_cpy f g sp.toNatClampNeg dp.toNatClampNeg n.toNatClampNeg) else none
theorem zlet_ex {α β : Type} {e : α} {f : α → β} {r : β} (h : zlet e f = r) : ∃ g, g = e ∧ f g = r := ⟨e, rfl, h⟩
theorem zap1 {A β : Type} {J g : A → β} {a : A} {r : β} (e : J = g) (h : J a = r) : g a = r := e ▸ h
theorem zap2 {A B β : Type} {J g : A → B → β} {a : A} {b : B} {r : β} (e : J = g) (h : J a b = r) : g a b = r := e ▸ h
theorem zap3 {A B C β : Type} {J g : A → B → C → β} {a : A} {b : B} {c : C} {r : β} (e : J = g) (h : J a b c = r) : g a b c = r := e ▸ h
theorem zap4 {A B C D β : Type} {J g : A → B → C → D → β} {a : A} {b : B} {c : C} {d : D} {r : β} (e : J = g) (h : J a b c d = r) : g a b c d = r := e ▸ h
theorem zap5 {A B C D E β : Type} {J g : A → B → C → D → E → β} {a : A} {b : B} {c : C} {d : D} {x : E} {r : β} (e : J = g) (h : J a b c d x = r) : g a b c d x = r := e ▸ h
theorem zap6 {A B C D E F β : Type} {J g : A → B → C → D → E → F → β} {a : A} {b : B} {c : C} {d : D} {x : E} {y : F} {r : β} (e : J = g) (h : J a b c d x y = r) : g a b c d x y = r := e ▸ h
theorem zap7 {A B C D E F G β : Type} {J g : A → B → C → D → E → F → G → β} {a : A} {b : B} {c : C} {d : D} {x : E} {y : F} {z : G} {r : β} (e : J = g) (h : J a b c d x y z = r) : g a b c d x y z = r := e ▸ h
theorem zck {α : Type} {c : Prop} {ic : Decidable c} {a : Option α} {r : α} (h : (@ite (Option α) c ic a none) = some r) : c ∧ a = some r := by
  cases ic with
  | isTrue hc => exact ⟨hc, h⟩
  | isFalse hc => cases h
theorem zck' {α : Type} {c : Prop} {ic : Decidable c} {a : Option α} {r : α} (h : (@ite (Option α) c ic none a) = some r) : ¬ c ∧ a = some r := by
  cases ic with
  | isTrue hc => cases h
  | isFalse hc => exact ⟨hc, h⟩
def zsum {α β γ : Type} (r : α ⊕ β) (f : α → γ) (g : β → γ) : γ := match r with
  | .inl a => f a
  | .inr b => g b
theorem zsum_l {α β γ : Type} {a : α} {x : α ⊕ β} {f : α → γ} {g : β → γ} {r : γ} (h : zsum x f g = r) (e : x = .inl a) : f a = r := by subst e; exact h
theorem zsum_r {α β γ : Type} {b : β} {x : α ⊕ β} {f : α → γ} {g : β → γ} {r : γ} (h : zsum x f g = r) (e : x = .inr b) : g b = r := by subst e; exact h
theorem zrdK {α : Type} {f : Nat → α} {n k : Nat} {j : Int32} (hz : zin j n = true) (hk : j.toNatClampNeg = k) : zrd f n j = some (f k) := by
  unfold zrd; rw [if_pos hz, hk]
theorem zwrK {α : Type} {f g : Nat → α} {n k : Nat} {j : Int32} {x : α} (hz : zin j n = true) (hk : j.toNatClampNeg = k) (eg : g = zup f k x) : zwr f n j x = some g := by
  unfold zwr; rw [if_pos hz, hk, eg]; rfl
theorem zne {x v : Int32} {k : Int} (h : ¬ x = v) (hk : v.toInt = k) : x.toInt ≠ k := fun e => h (Int32.toInt_inj.mp (e.trans hk.symm))
section ZJ3
variable {Γ : zG} {d d' : Nat} {y z : zY} {pc pc' idx n i ci : Nat} {fl : List Nat} {L : List (Nat × Value)} {As rest st : List Value} {M N N0 : zM} {Q : Option Value → zM → Prop} {x : Value}
theorem zj_eqb {a b : Bool} (h : a = b) (k : zR Γ d y pc L (.int (zb a) :: rest) M Q) : zR Γ d y pc L (.int (zb b) :: rest) M Q := h ▸ k
theorem zj_V1 (hdg : decode y.2.1 pc = .ok (.invokevirtual idx, 3)) (hp : pc + 3 = pc') (hlk : Cond.methodLink y.1.cls idx z.1 ∈ zWS) (hz : zlkV z n) (hsh : zSH[i]? = some (ci + 10, fl)) (hcl : ∃ T N, zCL[ci]? = some (z.1.cls, T, N)) (hst : st = As.reverse ++ .ref (zad Γ i) :: rest) (hn : As.length = n) (hcat : (rest.map fun v => v.category).sum ≤ 8) (hd : d' + 1 ≤ d)
    (hK : zK Γ d' z (.ref (zad Γ i) :: As) M (fun v N => v = some x ∧ N = N0)) (hN : N = N0) (k : zR Γ d y pc' L (x :: rest) N Q) : zR Γ d y pc L st M Q :=
  zj_invV hdg hp hlk hz hsh hcl hst hn hcat hd hK (fun v N1 hq => by obtain ⟨rfl, e⟩ := hq; rw [e, ← hN]; exact k)
theorem zj_V0 (hdg : decode y.2.1 pc = .ok (.invokevirtual idx, 3)) (hp : pc + 3 = pc') (hlk : Cond.methodLink y.1.cls idx z.1 ∈ zWS) (hz : zlkV z n) (hsh : zSH[i]? = some (ci + 10, fl)) (hcl : ∃ T N, zCL[ci]? = some (z.1.cls, T, N)) (hst : st = As.reverse ++ .ref (zad Γ i) :: rest) (hn : As.length = n) (hcat : (rest.map fun v => v.category).sum ≤ 8) (hd : d' + 1 ≤ d)
    (hK : zK Γ d' z (.ref (zad Γ i) :: As) M (fun v N => v = none ∧ N = N0)) (hN : N = N0) (k : zR Γ d y pc' L rest N Q) : zR Γ d y pc L st M Q :=
  zj_invV hdg hp hlk hz hsh hcl hst hn hcat hd hK (fun v N1 hq => by obtain ⟨rfl, e⟩ := hq; rw [e, ← hN]; exact k)
theorem zj_S1 (hdg : decode y.2.1 pc = .ok (.invokestatic idx, 3)) (hp : pc + 3 = pc') (hlk : Cond.methodLink y.1.cls idx z.1 ∈ zWS) (hz : zlkS z n) (hst : st = As.reverse ++ rest) (hn : As.length = n) (hcat : (rest.map fun v => v.category).sum ≤ 8) (hd : d' + 1 ≤ d)
    (hK : zK Γ d' z As M (fun v N => v = some x ∧ N = N0)) (hN : N = N0) (k : zR Γ d y pc' L (x :: rest) N Q) : zR Γ d y pc L st M Q :=
  zj_invS hdg hp hlk hz hst hn hcat hd hK (fun v N1 hq => by obtain ⟨rfl, e⟩ := hq; rw [e, ← hN]; exact k)
theorem zj_S0 (hdg : decode y.2.1 pc = .ok (.invokestatic idx, 3)) (hp : pc + 3 = pc') (hlk : Cond.methodLink y.1.cls idx z.1 ∈ zWS) (hz : zlkS z n) (hst : st = As.reverse ++ rest) (hn : As.length = n) (hcat : (rest.map fun v => v.category).sum ≤ 8) (hd : d' + 1 ≤ d)
    (hK : zK Γ d' z As M (fun v N => v = none ∧ N = N0)) (hN : N = N0) (k : zR Γ d y pc' L rest N Q) : zR Γ d y pc L st M Q :=
  zj_invS hdg hp hlk hz hst hn hcat hd hK (fun v N1 hq => by obtain ⟨rfl, e⟩ := hq; rw [e, ← hN]; exact k)
theorem zj_N1 {host : String} (hdg : decode y.2.1 pc = .ok (.invokestatic idx, 3)) (hp : pc + 3 = pc') (hlk : (y.1.cls, idx, z.1, host) ∈ zNW) (hz : zlkS z n) (hst : st = As.reverse ++ rest) (hn : As.length = n) (hcat : (rest.map fun v => v.category).sum ≤ 8) (hd : d' + 1 ≤ d)
    (hK : zK Γ d' z As M (fun v N => v = some x ∧ N = N0)) (hN : N = N0) (k : zR Γ d y pc' L (x :: rest) N Q) : zR Γ d y pc L st M Q :=
  zj_invSN hdg hp hlk hz hst hn hcat hd hK (fun v N1 hq => by obtain ⟨rfl, e⟩ := hq; rw [e, ← hN]; exact k)
end ZJ3
theorem zch_i {X M1 N : zM} {p : Nat} {b : Nat → Int32} (e1 : X = M1) (e2 : zui M1 p b = N) : zui X p b = N := e1 ▸ e2
theorem zch_l {X M1 N : zM} {p : Nat} {b : Nat → Int64} (e1 : X = M1) (e2 : zul M1 p b = N) : zul X p b = N := e1 ▸ e2
section ZJ4
variable {Γ : zG} {d : Nat} {y : zY} {pc pc' : Nat} {L : List (Nat × Value)} {rest : List Value} {M N : zM} {Q : Option Value → zM → Prop}
theorem zj_cpI {idx i0 i1 n0 n1 k : Nat} {n : Int32} {f g h : Nat → Int32} (hdg : decode y.2.1 pc = .ok (.invokestatic idx, 3)) (hp : pc + 3 = pc') (hc : zcp y.1.cls idx) (hn : Cond.native arraycopyName ∈ zWS ∧ Cond.static arraycopyName ∈ zWS ∧ Cond.initialized "java/lang/System" ∈ zWS) (hsh0 : zSH[i0]? = some (0, [n0])) (hsh1 : zSH[i1]? = some (0, [n1])) (t0 : (0 : Int32).toNatClampNeg = 0) (_ : (0 : Int32).toNatClampNeg = 0) (tk : n.toNatClampNeg = k) (h0 : ¬ (0 : Int32) < 0) (h3 : ¬ n < 0) (h4 : k ≤ n0) (h5 : k ≤ n1) (hf : M.1 i0 = f) (hg : M.1 i1 = g) (eh : h = va_cpy f g 0 0 k) (hN : zui M i1 h = N) (hd : 1 ≤ d) (hcat : (rest.map fun v => v.category).sum ≤ 8) (kk : zR Γ d y pc' L rest N Q) : zR Γ d y pc L (.int n :: .int 0 :: .ref (zad Γ i1) :: .int 0 :: .ref (zad Γ i0) :: rest) M Q := by
  subst hf; subst hg; subst eh; subst hN
  refine zj_copyI hdg hp hc hn hsh0 hsh1 h0 h0 h3 (by rw [t0, tk]; omega) (by rw [t0, tk]; omega) hd hcat ?_
  rw [t0, tk]; exact kk
theorem zj_cpL {idx i0 i1 n0 n1 k : Nat} {n : Int32} {f g h : Nat → Int64} (hdg : decode y.2.1 pc = .ok (.invokestatic idx, 3)) (hp : pc + 3 = pc') (hc : zcp y.1.cls idx) (hn : Cond.native arraycopyName ∈ zWS ∧ Cond.static arraycopyName ∈ zWS ∧ Cond.initialized "java/lang/System" ∈ zWS) (hsh0 : zSH[i0]? = some (1, [n0])) (hsh1 : zSH[i1]? = some (1, [n1])) (t0 : (0 : Int32).toNatClampNeg = 0) (_ : (0 : Int32).toNatClampNeg = 0) (tk : n.toNatClampNeg = k) (h0 : ¬ (0 : Int32) < 0) (h3 : ¬ n < 0) (h4 : k ≤ n0) (h5 : k ≤ n1) (hf : M.2 i0 = f) (hg : M.2 i1 = g) (eh : h = va_cpy f g 0 0 k) (hN : zul M i1 h = N) (hd : 1 ≤ d) (hcat : (rest.map fun v => v.category).sum ≤ 8) (kk : zR Γ d y pc' L rest N Q) : zR Γ d y pc L (.int n :: .int 0 :: .ref (zad Γ i1) :: .int 0 :: .ref (zad Γ i0) :: rest) M Q := by
  subst hf; subst hg; subst eh; subst hN
  refine zj_copyL hdg hp hc hn hsh0 hsh1 h0 h0 h3 (by rw [t0, tk]; omega) (by rw [t0, tk]; omega) hd hcat ?_
  rw [t0, tk]; exact kk
end ZJ4
section ZJ5
variable {Γ : zG} {d : Nat} {y : zY} {pc pc' : Nat} {L : List (Nat × Value)} {rest : List Value} {M N : zM} {Q : Option Value → zM → Prop}
theorem zj_mmin {idx : Nat} {x z : Int32} (hdg : decode y.2.1 pc = .ok (.invokestatic idx, 3)) (hp : pc + 3 = pc') (hlk : Cond.methodLink y.1.cls idx Lib.Math.min.name ∈ zWS) (hw : Cond.static Lib.Math.min.name ∈ zWS ∧ Cond.initialized "java/lang/Math" ∈ zWS ∧ Cond.code Lib.Math.min.name Lib.Math.min.code 2 (some .int) ∈ zWS) (hd : 1 ≤ d) (hcat : (rest.map fun v => v.category).sum ≤ 8) (k : zR Γ d y pc' L (.int (if z < x then z else x) :: rest) M Q) : zR Γ d y pc L (.int z :: .int x :: rest) M Q := by
  subst hp
  intro p e s m args below meth c H locs ls C hW hl
  have hts := C.2.2.2.2.2.2.1
  exact va_mmin C.1 C.2.1 (C.2.2.1.trans hl.1.symm) C.2.2.2.2.2.1 (hts _ hlk) (hts _ hw.1) (hts _ hw.2.1) (hts _ hw.2.2) hd (by show _ ≤ 64 * d; omega) (Nat.zero_le _) (Nat.zero_le _) hdg (k p e s m args below meth c H locs ls C hW hl)
theorem zj_mmax {idx : Nat} {x z : Int32} (hdg : decode y.2.1 pc = .ok (.invokestatic idx, 3)) (hp : pc + 3 = pc') (hlk : Cond.methodLink y.1.cls idx Lib.Math.max.name ∈ zWS) (hw : Cond.static Lib.Math.max.name ∈ zWS ∧ Cond.initialized "java/lang/Math" ∈ zWS ∧ Cond.code Lib.Math.max.name Lib.Math.max.code 2 (some .int) ∈ zWS) (hd : 1 ≤ d) (hcat : (rest.map fun v => v.category).sum ≤ 8) (k : zR Γ d y pc' L (.int (if x < z then z else x) :: rest) M Q) : zR Γ d y pc L (.int z :: .int x :: rest) M Q := by
  subst hp
  intro p e s m args below meth c H locs ls C hW hl
  have hts := C.2.2.2.2.2.2.1
  exact va_mmax C.1 C.2.1 (C.2.2.1.trans hl.1.symm) C.2.2.2.2.2.1 (hts _ hlk) (hts _ hw.1) (hts _ hw.2.1) (hts _ hw.2.2) hd (by show _ ≤ 64 * d; omega) (Nat.zero_le _) (Nat.zero_le _) hdg (k p e s m args below meth c H locs ls C hW hl)
end ZJ5
theorem zb_dec {v : Int32} (h : v = 0 ∨ v = 1) : zb (decide (v = 1)) = v := by rcases h with rfl | rfl <;> decide
section ZJ6
variable {Γ : zG} {d : Nat} {y : zY} {pc pc' : Nat} {L : List (Nat × Value)} {rest : List Value} {M N : zM} {Q : Option Value → zM → Prop}
theorem zj_cret {v : Int32} (hdg : decode y.2.1 pc = .ok (.ireturn, 1)) (hr : y.2.2.2 = some .boolean) (hv : v = 0 ∨ v = 1) (q : Q (some (.int (zb (decide (v = 1))))) M) : zR Γ d y pc L [.int v] M Q := by
  rw [zb_dec hv] at q
  exact zj_zret hdg hr hv q
theorem zj_alen {i n : Nat} {v : Int32} (hdg : decode y.2.1 pc = .ok (.arraylength, 1)) (hp : pc + 1 = pc') (hsh : zSH[i]? = some (0, [n])) (hv : Int32.ofNat n = v) (k : zR Γ d y pc' L (.int v :: rest) M Q) : zR Γ d y pc L (.ref (zad Γ i) :: rest) M Q := by
  subst hp
  intro p e s m args below meth c H locs ls C hW hl
  exact va_alen C.1 C.2.1 C.2.2.2.2.2.2.2.1 hW.1 i 0 (zws_at hsh) rfl hv hdg (k p e s m args below meth c H locs ls C hW hl)
end ZJ6
