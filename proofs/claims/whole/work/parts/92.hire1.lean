/-! ===== the class's search ===== -/
section HT
variable {ok : Nat → Nat → Bool} {dd : Nat → Nat → Nat} {hq id_ : Nat → Bool} {rp far pl le lf : Nat → Int32}
abbrev hRec : Type := (Nat → Int32) → (Nat → Int32) → (Nat → Int32) → (Nat → Int32) → (Nat → Int32) → (Nat → Int32) → (Nat → Int32) → (Nat → Int32) → Int32 → Int32 → Int32 → Int32 → Option ((Nat → Int32) × (Nat → Int32) × (Nat → Int32))
def hTry (ok : Nat → Nat → Bool) (dd : Nat → Nat → Nat) (id_ : Nat → Bool) (rp far pl le lf : Nat → Int32) (F : hRec) (n : Nat) : Prop :=
  ∀ (set m pairs fr kb : Nat) (r0 tr ch : Nat → Int32), set < 64 → m < 64 → (∀ r, r < 6 → m.testBit r = (id_ r && !set.testBit r)) → pairs + n ≤ 6 → fr ≤ 7 * pairs → bBt kb r0 →
    ∃ r0' tr' ch', F r0 tr ch rp far pl le lf (nI (6 - n)) (nI m) (nI pairs) (nI fr) = some (r0', tr', ch') ∧ (∀ i, i < 6 - n → tr' i = tr i) ∧
      ((1000 * pairs - fr + hW ok dd n set < kb ∧ bBt kb r0' ∧ ∀ i, i < 6 → ch' i = ch i) ∨ (kb ≤ 1000 * pairs - fr + hW ok dd n set ∧ bBt (1000 * pairs - fr + hW ok dd n set + 1) r0' ∧ ∀ i, i < 6 → ch' i = if i < 6 - n then tr i else hG ok dd n set i))
/-- the loop over whom p could hire -/
def hLoop (ok : Nat → Nat → Bool) (dd : Nat → Nat → Nat) (n set V kb k : Nat) (tr ch : Nat → Int32) (r0' tr' ch' : Nat → Int32) : Prop :=
  (∀ i, i < 5 - n → tr' i = tr i) ∧ ((((hMF (hV ok dd n set) (hO ok n set) k).1 = 0 ∨ V + (hMF (hV ok dd n set) (hO ok n set) k).1 < kb) ∧ bBt kb r0' ∧ ∀ i, i < 6 → ch' i = ch i) ∨ ((hMF (hV ok dd n set) (hO ok n set) k).1 ≠ 0 ∧ kb ≤ V + (hMF (hV ok dd n set) (hO ok n set) k).1 ∧ bBt (V + (hMF (hV ok dd n set) (hO ok n set) k).1 + 1) r0' ∧ ∀ i, i < 6 → ch' i = if i < 5 - n then tr i else if i = 5 - n then nI (hMF (hV ok dd n set) (hO ok n set) k).2 else hG ok dd n (set ||| 2 ^ (hMF (hV ok dd n set) (hO ok n set) k).2) i))
theorem x_tryL {F : hRec} {n : Nat} (hn : n ≤ 5) (Q : hAsk ok dd hq id_ rp far pl le lf) (T : hTry ok dd id_ rp far pl le lf F n) {set m pairs fr kb : Nat} {r0 tr ch : Nat → Int32} (hset : set < 64) (hm : m < 64) (hmb : ∀ r, r < 6 → m.testBit r = (id_ r && !set.testBit r)) (hp : pairs + (n + 1) ≤ 6) (hfr : fr ≤ 7 * pairs) (hb : bBt kb r0) (hhq : hq (5 - n) = true) :
    ∃ q, zLP (fun s : (Nat → Int32) × (Nat → Int32) × (Nat → Int32) × Int32 => fPr_tryFrom_L34 F rp far pl le lf (nI (5 - n)) (nI m) (nI pairs) (nI fr) s.1 s.2.1 s.2.2.1 s.2.2.2) (r0, tr, ch, 0) = some q ∧ hLoop ok dd n set (1000 * pairs - fr) kb 6 tr ch q.1 q.2.1 q.2.2 := by
  refine zLP_inv (fun k t => t.2.2.2 = nI k ∧ hLoop ok dd n set (1000 * pairs - fr) kb k tr ch t.1 t.2.1 t.2.2.1) _ 6 ⟨rfl, fun _ _ => rfl, Or.inl ⟨Or.inl rfl, hb, fun _ _ => rfl⟩⟩ ?_ ?_
  · rintro k ⟨t1, t2, t3, t4⟩ hk ⟨e1, e2, e3⟩
    dsimp only at e1 e2 e3
    left
    show ∃ t', fPr_tryFrom_L34 F rp far pl le lf (nI (5 - n)) (nI m) (nI pairs) (nI fr) t1 t2 t3 t4 = some (.inl t') ∧ _
    unfold fPr_tryFrom_L34
    rw [zlet_e, e1, if_neg (zg6 hk), z_hb (by omega) (by omega), hmb k hk]
    dsimp only
    -- nobody at k
    have skip : hO ok n set k = false → ∃ t' : (Nat → Int32) × (Nat → Int32) × (Nat → Int32) × Int32, zlet (nI k + 1) (fun (x26 : Int32) => (some (.inl (t1, t2, t3, x26)) : Option (((Nat → Int32) × (Nat → Int32) × (Nat → Int32) × Int32) ⊕ ((Nat → Int32) × (Nat → Int32) × (Nat → Int32))))) = some (.inl t') ∧ t'.2.2.2 = nI (k + 1) ∧ hLoop ok dd n set (1000 * pairs - fr) kb (k + 1) tr ch t'.1 t'.2.1 t'.2.2.1 := fun ho => by
      have E : hMF (hV ok dd n set) (hO ok n set) (k + 1) = hMF (hV ok dd n set) (hO ok n set) k := by
        rw [hMF, if_neg (fun q => by rw [ho] at q; simp at q)]
      refine ⟨(t1, t2, t3, nI (k + 1)), by rw [zlet_e, nI_1], rfl, ?_⟩
      unfold hLoop
      rw [E]
      exact ⟨e2, e3⟩
    by_cases c1 : (id_ k && !set.testBit k) = true
    · rw [if_pos c1]
      rw [Bool.and_eq_true] at c1
      obtain ⟨y1, y2, z1, z2, z3⟩ := Q.2.1 (5 - n) k (by omega) hk hhq c1.1
      rw [z1, z2, Option.bind_some, Option.bind_some, z3, Option.bind_some]
      by_cases c2 : ok (5 - n) k = true
      · have hd := (Q.2.2 _ _ c2).2.2
        have ho : hO ok n set k = true := by unfold hO; rw [c2, c1.2]; rfl
        rw [if_pos c2, if_neg (nI_nm1 (by omega)), zwr_n (by omega) (by omega), Option.bind_some]
        have hm' : ∀ r, r < 6 → (m &&& (2 ^ k ^^^ 4294967295)).testBit r = (id_ r && !(set ||| 2 ^ k).testBit r) := fun r hr => by
          rw [zdf_tb (by omega), hmb r hr, Nat.testBit_or]
          cases id_ r <;> cases set.testBit r <;> cases (2 ^ k).testBit r <;> rfl
        have hVe : 1000 * (pairs + 1) - (fr + dd (5 - n) k) + hW ok dd n (set ||| 2 ^ k) = 1000 * pairs - fr + hV ok dd n set k := by
          unfold hV; omega
        -- the state before the call
        obtain ⟨kb1, hb1, hst⟩ : ∃ kb1, bBt kb1 t1 ∧ ((((hMF (hV ok dd n set) (hO ok n set) k).1 = 0 ∨ 1000 * pairs - fr + (hMF (hV ok dd n set) (hO ok n set) k).1 < kb) ∧ kb1 = kb ∧ ∀ i, i < 6 → t3 i = ch i) ∨ ((hMF (hV ok dd n set) (hO ok n set) k).1 ≠ 0 ∧ kb ≤ 1000 * pairs - fr + (hMF (hV ok dd n set) (hO ok n set) k).1 ∧ kb1 = 1000 * pairs - fr + (hMF (hV ok dd n set) (hO ok n set) k).1 + 1 ∧ ∀ i, i < 6 → t3 i = if i < 5 - n then tr i else if i = 5 - n then nI (hMF (hV ok dd n set) (hO ok n set) k).2 else hG ok dd n (set ||| 2 ^ (hMF (hV ok dd n set) (hO ok n set) k).2) i)) := by
          rcases e3 with ⟨a1, a2, a3⟩ | ⟨a1, a2, a3, a4⟩
          · exact ⟨kb, a2, Or.inl ⟨a1, rfl, a3⟩⟩
          · exact ⟨_, a3, Or.inr ⟨a1, a2, rfl, a4⟩⟩
        obtain ⟨r0', tr', ch', f1, f2, f3⟩ := T (set ||| 2 ^ k) (m &&& (2 ^ k ^^^ 4294967295)) (pairs + 1) (fr + dd (5 - n) k) kb1 t1 (zup t2 (5 - n) (nI k)) t3 (or_lt64 hset hk) (Nat.lt_of_le_of_lt Nat.and_le_left hm) hm' (by omega) (by omega) hb1
        rw [hVe] at f3
        rw [z_sh (by omega), z_df, nI_1, nI_1, nI_add, show 5 - n + 1 = 6 - n by omega, f1, Option.bind_some, zlet_e, nI_1]
        refine ⟨(r0', tr', ch', nI (k + 1)), rfl, rfl, fun i hi => ?_, ?_⟩
        · show tr' i = tr i
          rw [f2 i (by omega), zup_n (by omega)]; exact e2 i hi
        · show _ ∨ _
          by_cases w : (hMF (hV ok dd n set) (hO ok n set) k).1 < hV ok dd n set k
          · have E : hMF (hV ok dd n set) (hO ok n set) (k + 1) = (hV ok dd n set k, k) := by rw [hMF, if_pos ⟨ho, w⟩]
            rw [E]
            dsimp only
            rcases f3 with ⟨g1, g2, g3⟩ | ⟨g1, g2, g3⟩
            · left
              rcases hst with ⟨b1, b2, b3⟩ | ⟨b1, b2, b3, b4⟩
              · exact ⟨Or.inr (by omega), b2 ▸ g2, fun i hi => (g3 i hi).trans (b3 i hi)⟩
              · omega
            · right
              refine ⟨by omega, ?_, g2, fun i hi => ?_⟩
              · rcases hst with ⟨b1, b2, b3⟩ | ⟨b1, b2, b3, b4⟩ <;> omega
              · rw [g3 i hi]
                by_cases i1 : i < 5 - n
                · rw [if_pos (by omega), if_pos i1, zup_n (by omega)]; exact e2 i i1
                · rw [if_neg i1]
                  by_cases i2 : i = 5 - n
                  · rw [if_pos (by omega), if_pos i2, i2, zup_s]
                  · rw [if_neg (by omega), if_neg i2]
          · have E : hMF (hV ok dd n set) (hO ok n set) (k + 1) = hMF (hV ok dd n set) (hO ok n set) k := by rw [hMF, if_neg (fun q => w q.2)]
            rw [E]
            have hpos : 0 < hV ok dd n set k := by unfold hV; omega
            rcases hst with ⟨b1, b2, b3⟩ | ⟨b1, b2, b3, b4⟩
            · left
              rcases f3 with ⟨g1, g2, g3⟩ | ⟨g1, g2, g3⟩
              · exact ⟨b1, b2 ▸ g2, fun i hi => (g3 i hi).trans (b3 i hi)⟩
              · omega
            · right
              rcases f3 with ⟨g1, g2, g3⟩ | ⟨g1, g2, g3⟩
              · exact ⟨b1, b2, b3 ▸ g2, fun i hi => (g3 i hi).trans (b4 i hi)⟩
              · omega
      · rw [if_neg c2, if_pos rfl]
        exact skip (by unfold hO; rw [Bool.eq_false_iff.mpr c2, Bool.false_and])
    · rw [if_neg c1, if_pos rfl]
      refine skip ?_
      unfold hO
      cases c3 : ok (5 - n) k with
      | false => rfl
      | true =>
        have := (Q.2.2 _ _ c3).2.1
        rw [this, Bool.true_and] at c1
        rw [Bool.true_and]; exact Bool.eq_false_iff.mpr c1
  · rintro ⟨t1, t2, t3, t4⟩ ⟨e1, e2⟩
    dsimp only at e1 e2
    refine ⟨(t1, t2, t3), ?_, e2⟩
    show fPr_tryFrom_L34 F rp far pl le lf (nI (5 - n)) (nI m) (nI pairs) (nI fr) t1 t2 t3 t4 = _
    unfold fPr_tryFrom_L34
    rw [e1, if_pos (by decide)]
end HT
