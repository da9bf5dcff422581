/-! ===== said, call against call ===== -/
theorem c_said {C P : Nat} {A : aD} {rp f pl bu le di wa lf ly pr sn pa ot nu hd r s tr : Nat → Int32} {cd : List aI} (hC : C ≤ 8) (hP : P ≤ 6) (hr : rp 6 = nI P) (hs2 : s 2 = nI P) (hV : dV C P A) (h : dX P A f pl bu le di wa lf ly pr) (hs : sD P A s) (a1 : Int32)
    (hq : (sn 10 = 0 ∧ s 216 = 0) ∨ (qX cd sn pa ot nu ∧ qM cd s ∧ qI cd)) :
    ∃ X Y, fX_said rp pl bu le lf sn pa ot nu hd a1 = some X ∧ fM_said r s tr a1 = some Y ∧ X.1 = Y.1 ∧ Y.2.1 = zup r 0 0 := by
  rcases hq with ⟨q1, q2⟩ | ⟨⟨q1, q2, q3⟩, ⟨m1, m2⟩, ⟨i1, i2, i3, i4⟩⟩
  · refine ⟨(-1, hd), (-1, zup r 0 0, tr), ?_, ?_, rfl, rfl⟩
    · unfold fX_said fSn_isThere
      rw [q1, if_pos (Or.inl rfl), Option.bind_some, if_neg (by decide)]
    · unfold fM_said
      simp only [zlet]
      rw [q2, if_pos rfl]
  · have hl0 : cd.length ≠ 0 := fun e => by
      have := dpC_le cd; omega
    have hth : fSn_isThere sn = some true := by unfold fSn_isThere; rw [q1, if_pos (Or.inr rfl)]; rfl
    have hm0 : ¬ s 216 = 0 := by rw [m1]; exact nI_ne0 (by omega) (by omega)
    by_cases ha : (-1 : Int32) ≤ a1
    · obtain ⟨hd', e1, e2⟩ := x_eval (hd0 := hd) hC hP hr hV h i1 q2 cd (Nat.le_refl _) i3 i4 q3
      have hlen := evF_len (A := A) i3 i4
      rw [i2] at hlen
      obtain ⟨g, hg⟩ := List.length_eq_one_iff.mp hlen
      rw [hg] at e1 e2
      have hwho : fSn_whoFits sn pa ot nu hd rp pl bu le lf = some (nI (zset g P), hd') := by
        unfold fSn_whoFits fPl_persons
        simp only [zlet]
        rw [hr, z_sh (by omega), nI_p1 (show 1 ≤ 2 ^ P from Nat.pos_of_ne_zero (by simp))]
        have hout : zLP (eBX sn pa ot nu rp pl bu le lf (nI (2 ^ P - 1))) (hd', nI [g].length, nI cd.length) = some (hd', nI [g].length) := by
          refine zLP_out ?_
          show fSn_whoFits_L15 sn pa ot nu rp pl bu le lf (nI (2 ^ P - 1)) hd' (nI [g].length) (nI cd.length) = _
          unfold fSn_whoFits_L15
          rw [q2, if_pos (nI_le (Nat.le_refl _) (by omega))]
        have := e1.trans hout
        have this' : zLP (fun s : (Nat → Int32) × Int32 × Int32 => fSn_whoFits_L15 sn pa ot nu rp pl bu le lf (nI (2 ^ P - 1)) s.1 s.2.1 s.2.2) (hd, 0, 0) = some (hd', nI [g].length) := this
        rw [this', Option.bind_some]
        show (if nI [g].length ≤ 0 then _ else some (hd' 0, hd')) = _
        rw [if_neg (show ¬ nI [g].length ≤ 0 by show ¬ nI 1 ≤ 0; decide), show hd' 0 = nI (zset g P) from e2.1]
      have hsaid : ∀ (tr : Nat → Int32) (q : Nat), q < P → ∃ tr', fM_isSaid s tr (nI q) = some (g q, tr') := by
        intro tr q hq
        obtain ⟨t', d1, d2⟩ := m_eval (tr0 := tr) hC hP hs2 hV hs hq i1 m1 cd (Nat.le_refl _) i3 i4 m2
        rw [hg] at d1 d2
        have hout : zLP (eBM s (nI q)) (t', nI [g].length, nI cd.length) = some t' := by
          refine zLP_out ?_
          show fM_isSaid_L4 s (nI q) t' (nI [g].length) (nI cd.length) = _
          unfold fM_isSaid_L4
          rw [m1, if_pos (nI_le (Nat.le_refl _) (by omega))]
        have this' : zLP (fun t : (Nat → Int32) × Int32 × Int32 => fM_isSaid_L4 s (nI q) t.1 t.2.1 t.2.2) (tr, 0, 0) = some t' := d1.trans hout
        unfold fM_isSaid
        rw [this', Option.bind_some, show t' 0 = zb (g q) from d2.1]
        cases g q
        · exact ⟨t', rfl⟩
        · exact ⟨t', rfl⟩
      -- the reference's way through the persons
      have hmk : ∀ fu i n (tr : Nat → Int32), fu + i = P → n ≤ i → ∃ tr', zLP (fun t : (Nat → Int32) × Int32 × Int32 => fM_said_L27 s a1 (zup r 0 0) t.1 t.2.1 t.2.2) (tr, nI n, nI i) = some (if a1 = -1 then nI (n + (zsm (fun q => if g q then 1 else 0) P - zsm (fun q => if g q then 1 else 0) i)) else sd g a1 fu i n, zup r 0 0, tr') := by
        intro fu
        induction fu with
        | zero =>
          intro i n tr hi hn
          have hb : fM_said_L27 s a1 (zup r 0 0) tr (nI n) (nI i) = some (.inr (if a1 = -1 then nI n else -1, zup r 0 0, tr)) := by
            unfold fM_said_L27
            rw [hs2, if_pos (nI_le (by omega) (by omega))]
          refine ⟨tr, (zLP_out hb).trans ?_⟩
          rw [show i = P by omega, Nat.sub_self, Nat.add_zero]; rfl
        | succ fu ih =>
          intro i n tr hi hn
          obtain ⟨tr1, t1⟩ := hsaid tr i (by omega)
          have hzs : zsm (fun q => if g q then 1 else 0) (i + 1) = zsm (fun q => if g q then 1 else 0) i + (if g i then 1 else 0) := rfl
          have hmono : zsm (fun q => if g q then 1 else 0) (i + 1) ≤ zsm (fun q => if g q then 1 else 0) P := by
            have : ∀ m, i + 1 + m ≤ P → zsm (fun q => if g q then 1 else 0) (i + 1) ≤ zsm (fun q => if g q then 1 else 0) (i + 1 + m) := by
              intro m
              induction m with
              | zero => intro _; exact Nat.le_refl _
              | succ m ihm => intro hm; have := ihm (by omega); exact Nat.le_trans this (Nat.le_add_right _ _)
            have := this (P - (i + 1)) (by omega)
            rw [show i + 1 + (P - (i + 1)) = P by omega] at this
            exact this
          cases eg : g i with
          | true =>
            rw [eg] at hzs t1
            by_cases ea : nI n = a1
            · have hb : fM_said_L27 s a1 (zup r 0 0) tr (nI n) (nI i) = some (.inr (nI i, zup r 0 0, tr1)) := by
                unfold fM_said_L27
                rw [hs2, if_neg (nI_ge (by omega) (by omega)), t1, Option.bind_some, if_pos rfl, if_pos ea]
              refine ⟨tr1, (zLP_out hb).trans ?_⟩
              rw [if_neg (fun h => nI_nm1 (n := n) (by omega) (ea.trans h)), sd, if_pos eg, if_pos ea]
            · have hb : fM_said_L27 s a1 (zup r 0 0) tr (nI n) (nI i) = some (.inl (tr1, nI (n + 1), nI (i + 1))) := by
                unfold fM_said_L27
                rw [hs2, if_neg (nI_ge (by omega) (by omega)), t1, Option.bind_some, if_pos rfl, if_neg ea]
                simp only [zlet, nI_1]
              obtain ⟨tr', k1⟩ := ih (i + 1) (n + 1) tr1 (by omega) (by omega)
              refine ⟨tr', (zLP_go hb).trans (k1.trans ?_)⟩
              rw [sd, if_pos eg, if_neg ea, hzs, if_pos rfl]
              rw [hzs, if_pos rfl] at hmono
              by_cases e : a1 = -1
              · rw [if_pos e, if_pos e]; congr 3; omega
              · rw [if_neg e, if_neg e]
          | false =>
            rw [eg] at hzs t1
            have hb : fM_said_L27 s a1 (zup r 0 0) tr (nI n) (nI i) = some (.inl (tr1, nI n, nI (i + 1))) := by
              unfold fM_said_L27
              rw [hs2, if_neg (nI_ge (by omega) (by omega)), t1, Option.bind_some, if_neg (show ¬ (false, tr1).1 = true from (by decide : ¬ false = true))]
              simp only [zlet, nI_1]
            obtain ⟨tr', k1⟩ := ih (i + 1) n tr1 (by omega) (by omega)
            refine ⟨tr', (zLP_go hb).trans (k1.trans ?_)⟩
            rw [sd, if_neg (show ¬ g i = true by rw [eg]; decide), hzs, if_neg (show ¬ false = true by decide), Nat.add_zero]
      obtain ⟨tr', hM⟩ := hmk P 0 0 tr (by omega) (Nat.le_refl _)
      have hme : fM_said r s tr a1 = some (if a1 = -1 then nI (0 + (zsm (fun q => if g q then 1 else 0) P - zsm (fun q => if g q then 1 else 0) 0)) else sd g a1 P 0 0, zup r 0 0, tr') := by
        unfold fM_said
        simp only [zlet]
        rw [if_neg hm0, if_pos ha]
        exact hM
      by_cases e : a1 = -1
      · refine ⟨(nI (zpc (zset g P)), hd'), _, ?_, hme, ?_, rfl⟩
        · unfold fX_said
          rw [hth, Option.bind_some, if_pos rfl, if_pos ha, hwho, Option.bind_some]
          simp only [zlet]
          have hlt : zset g P < 256 := Nat.lt_of_lt_of_le (zset_lt g P) (Nat.le_trans (Nat.pow_le_pow_right (by omega) hP) (by decide : 2 ^ 6 ≤ 256))
          rw [if_pos e, z_bc hlt]
        · show nI (zpc (zset g P)) = if a1 = -1 then _ else _
          rw [if_pos e, zpc_P hP, Nat.zero_add]; rfl
      · -- the class's way through the persons
        have hlt : zset g P < 256 := Nat.lt_of_lt_of_le (zset_lt g P) (Nat.le_trans (Nat.pow_le_pow_right (by omega) hP) (by decide : 2 ^ 6 ≤ 256))
        have hxe : ∀ fu i n, fu + i = 6 → P ≤ i → zLP (fun t : Int32 × Int32 => fX_said_L48 a1 (nI (zset g P), hd') (nI (zset g P)) t.1 t.2) (nI n, nI i) = some (-1, hd') := by
          intro fu
          induction fu with
          | zero =>
            intro i n hi hPi
            refine zLP_out ?_
            show fX_said_L48 a1 (nI (zset g P), hd') (nI (zset g P)) (nI n) (nI i) = _
            unfold fX_said_L48
            rw [if_pos (ze6 (by omega) (by omega))]
          | succ fu ih =>
            intro i n hi hPi
            have hb : fX_said_L48 a1 (nI (zset g P), hd') (nI (zset g P)) (nI n) (nI i) = some (.inl (nI n, nI (i + 1))) := by
              unfold fX_said_L48
              rw [if_neg (zg6 (by omega)), z_hb hlt (by omega), zset_tb, decide_eq_false (by omega), Bool.false_and, if_neg (by decide)]
              simp only [zlet, nI_1]
            exact (zLP_go hb).trans (ih (i + 1) n (by omega) (by omega))
        have hxk : ∀ fu i n, fu + i = P → zLP (fun t : Int32 × Int32 => fX_said_L48 a1 (nI (zset g P), hd') (nI (zset g P)) t.1 t.2) (nI n, nI i) = some (sd g a1 fu i n, hd') := by
          intro fu
          induction fu with
          | zero => intro i n hi; exact hxe (6 - i) i n (by omega) (by omega)
          | succ fu ih =>
            intro i n hi
            rw [sd]
            have htb : (zset g P).testBit i = g i := by rw [zset_tb, decide_eq_true (by omega), Bool.true_and]
            cases eg : g i with
            | true =>
              rw [if_pos rfl]
              by_cases ea : nI n = a1
              · rw [if_pos ea]
                refine zLP_out ?_
                show fX_said_L48 a1 (nI (zset g P), hd') (nI (zset g P)) (nI n) (nI i) = _
                unfold fX_said_L48
                rw [if_neg (zg6 (by omega)), z_hb hlt (by omega), htb, eg, if_pos rfl, if_pos ea]
              · rw [if_neg ea]
                have hb : fX_said_L48 a1 (nI (zset g P), hd') (nI (zset g P)) (nI n) (nI i) = some (.inl (nI (n + 1), nI (i + 1))) := by
                  unfold fX_said_L48
                  rw [if_neg (zg6 (by omega)), z_hb hlt (by omega), htb, eg, if_pos rfl, if_neg ea]
                  simp only [zlet, nI_1]
                exact (zLP_go hb).trans (ih (i + 1) (n + 1) (by omega))
            | false =>
              rw [if_neg (by decide)]
              have hb : fX_said_L48 a1 (nI (zset g P), hd') (nI (zset g P)) (nI n) (nI i) = some (.inl (nI n, nI (i + 1))) := by
                unfold fX_said_L48
                rw [if_neg (zg6 (by omega)), z_hb hlt (by omega), htb, eg, if_neg (by decide)]
                simp only [zlet, nI_1]
              exact (zLP_go hb).trans (ih (i + 1) n (by omega))
        refine ⟨(sd g a1 P 0 0, hd'), _, ?_, hme, ?_, rfl⟩
        · unfold fX_said
          rw [hth, Option.bind_some, if_pos rfl, if_pos ha, hwho, Option.bind_some]
          simp only [zlet]
          rw [if_neg e]
          exact hxk P 0 0 (by omega)
        · show sd g a1 P 0 0 = if a1 = -1 then _ else _
          rw [if_neg e]
    · refine ⟨(-1, hd), (-1, zup r 0 0, tr), ?_, ?_, rfl, rfl⟩
      · unfold fX_said
        rw [hth, Option.bind_some, if_pos rfl, if_neg ha]
      · unfold fM_said
        simp only [zlet]
        rw [if_neg hm0, if_neg ha]
