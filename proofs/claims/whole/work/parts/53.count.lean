/-! count -/
theorem l_cnt58 (F : Nat) (u : St) : ∀ (d i k : Nat), i + d = 12 → d < k → l_X12_count_58 F k (nI (cn (fun x => !decide (u.1 52 x = -1)) i)) (nI i) u = some (nI (cn (fun x => !decide (u.1 52 x = -1)) 12), nI 12, u)
  | d, i, 0, hd, hk => absurd hk (by omega)
  | d, i, k + 1, hd, hk => by
    show b_X12_count_58 F (l_X12_count_58 F k) _ _ u = _
    unfold b_X12_count_58
    rw [show (12 : Int32) = nI 12 from rfl]
    cases d with
    | zero =>
      have : i = 12 := by omega
      subst this
      rw [if_pos (nI_le (by omega) (by omega))]
    | succ d =>
      have ih := l_cnt58 F u d (i + 1) k (by omega) (by omega)
      rw [if_neg (nI_ge (show i < 12 by omega) (by decide)), nI_clamp (by omega), if_neg (gin (show i < 12 by omega) (by decide)), nI_1, nI_1]
      by_cases h : u.1 52 i = -1
      · rw [if_pos h, Int32.add_zero]
        rw [show cn (fun x => !decide (u.1 52 x = -1)) (i + 1) = cn (fun x => !decide (u.1 52 x = -1)) i by simp [cn, h]] at ih
        exact ih
      · rw [if_neg h]
        rw [show cn (fun x => !decide (u.1 52 x = -1)) (i + 1) = cn (fun x => !decide (u.1 52 x = -1)) i + 1 by simp [cn, h]] at ih
        exact ih
theorem l_cnt92 (F : Nat) (u : St) (hw : WfM u) : ∀ (d i k : Nat), i + d = 12 → d < k → l_X12_count_92 F k (nI (sm (tmF u) i)) (nI i) u = some (nI (sm (tmF u) 12), nI 12, u)
  | d, i, 0, hd, hk => absurd hk (by omega)
  | d, i, k + 1, hd, hk => by
    show b_X12_count_92 F (l_X12_count_92 F k) _ _ u = _
    unfold b_X12_count_92
    rw [show (12 : Int32) = nI 12 from rfl]
    cases d with
    | zero =>
      have : i = 12 := by omega
      subst this
      rw [if_pos (nI_le (by omega) (by omega))]
    | succ d =>
      have ih := l_cnt92 F u hw d (i + 1) k (by omega) (by omega)
      have hg : ¬ (nI i < 0 ∨ 12 ≤ i) := gin (show i < 12 by omega) (by decide)
      rw [if_neg (nI_ge (show i < 12 by omega) (by decide)), nI_clamp (by omega), if_neg hg, nI_1]
      by_cases h : u.1 52 i = -1
      · rw [if_pos h, Int32.add_zero]
        rw [show sm (tmF u) (i + 1) = sm (tmF u) i by simp [sm, tmF, h]] at ih
        exact ih
      · rw [if_neg h, if_neg hg]
        rcases hw i (by omega) with q | ⟨n, q1, q2⟩
        · exact absurd q h
        · have e : nI (sm (tmF u) i) + u.1 52 i = nI (sm (tmF u) (i + 1)) := by
            have : tmF u i = n := by unfold tmF; rw [if_neg h, q2, nI_clamp (by omega)]
            rw [q2]
            show _ = nI (sm (tmF u) i + tmF u i)
            rw [this, nI_add]
          rw [e]
          exact ih
/-- promise 28 -/
theorem op_count (F : Nat) (hF : 5000 ≤ F) {u : St} {n m : Nat} (h : CirI u) (hC : CntI u) (hTp : TpI u) (hN : NtB u n m) (x : Int32) : ∃ r u1 u2, f_X11_count F x u = some (r, u1) ∧ f_X12_count F x u1 = some (r, u2) ∧ CirI u2 ∧ Kp u u2 := by
  have hT := h.1.1
  have w0 : ∀ r, r ≠ 50 → (wr u 50 0 0).1 r = u.1 r := fun r hr => wr_ne _ hr
  by_cases x0 : x = 0
  · subst x0
    have k := l_cnt58 F (wr u 50 0 0) 12 0 F (by omega) (by omega)
    rw [show nI 0 = 0 from rfl, show nI (cn _ 0) = 0 from rfl] at k
    refine ⟨nI (cn (fun x => !decide (u.1 52 x = -1)) 12), u, wr u 50 0 0, ?_, ?_, h.w0.1, h.w0.2.1⟩
    · unfold f_X11_count
      rw [if_pos rfl]
      unfold f_X0_equations
      rw [if_pos (show (u.1 4 2).toNatClampNeg = 7 ∨ (u.1 4 2).toNatClampNeg = 46 from hT)]
      rw [show f_X1_signals F (u.1 4 2).toNatClampNeg u = some (u.1 (txt u) 4, u) from rfl, Option.bind_some]
      dsimp only
      rw [p_bc, Option.bind_some]
      dsimp only
      rw [Option.bind_some, bc_eq h.1.2.2.2.1]
      obtain ⟨T, t1, t2, t3⟩ := h.1.2.2.1
      rw [cb_cn, cn_congr 12 (fun i hi => (t3 i hi).1)]
    · unfold f_X12_count
      rw [if_pos rfl]
      rw [k, Option.bind_some, w0 52 (by decide)]
  by_cases x1 : x = 1
  · subst x1
    have e : tmF (wr u 50 0 0) = tmF u := by unfold tmF; rw [w0 52 (by decide)]
    have k := l_cnt92 F (wr u 50 0 0) h.w0.1.1.2.1 12 0 F (by omega) (by omega)
    rw [show nI 0 = 0 from rfl, show nI (sm _ 0) = 0 from rfl, e] at k
    refine ⟨nI (sm (tmF u) 12), u, wr u 50 0 0, ?_, ?_, h.w0.1, h.w0.2.1⟩
    · unfold f_X11_count
      rw [if_neg (by decide), if_pos rfl]
      unfold f_X0_terms
      rw [if_pos (show (u.1 4 2).toNatClampNeg = 7 ∨ (u.1 4 2).toNatClampNeg = 46 from hT)]
      rw [show f_X1_terms F (u.1 4 2).toNatClampNeg u = some (u.1 (txt u) 3, u) from rfl, Option.bind_some]
      dsimp only
      rw [Option.bind_some, hC]
    · unfold f_X12_count
      rw [if_neg (by decide), if_pos rfl]
      rw [k, Option.bind_some]
  by_cases x2 : x = 2
  · subst x2
    obtain ⟨u1, a1, a2, a3, a4, a5, a6, a7, a8⟩ := p_ren F hF h
    obtain ⟨u3, c1, c2, c3, c4, c5, c6, c7, c8, c9, c10⟩ := p_hzRen F hF a2 a5 (by rw [a4]; exact a6)
    have hk3 : Kp u u3 := (Kp.ren a8).tr (Kp.of c10 (by decide) (fun k _ => by rw [c10.2 50 (by decide)]))
    have n3 := c2.w0
    have hpb3 : pbF (wr u3 50 0 0) = pbF u3 := by unfold pbF; rw [wr_ne _ (by decide)]
    obtain ⟨u4, g1, g2, g3⟩ := p_mhz F hF n3.1 (-1) 0
    refine ⟨u3.1 16 3, u3, u4, ?_, ?_, g1, (hk3.tr n3.2.1).tr g2⟩
    · unfold f_X11_count
      rw [if_neg (by decide), if_neg (by decide), if_pos rfl]
      rw [a1, Option.bind_some, c1, Option.bind_some]
      rfl
    · unfold f_X12_count
      rw [if_neg (by decide), if_neg (by decide), if_pos rfl]
      rw [aF_eq n3.2.2.1, n3.2.2.2, hpb3, c3, c4, c5] at g3
      have hl := h.gl.len
      rcases g3 with ⟨j, t, e, q1, q2, q3, q4⟩ | ⟨q1, q2⟩
      · exfalso
        rw [a4] at q1
        have hj := (List.getElem?_eq_some_iff.mp q1).1
        have b1 := cum_le (aF u1) (pbF u1) (LL u1) j
        have b2 := cn_le (hzQ (aF u1) (pbF u1) e.1) t
        exact nI_ne_m1 (by omega) q3.2
      · rw [q2, Option.bind_some, if_neg (by decide), c8]
  by_cases x3 : x = 3
  · subst x3
    obtain ⟨u1, a1, a2, a3, a4, a5, a6, a7, a8⟩ := p_ren F hF h
    have n3 := a2.w0
    obtain ⟨u4, b1, b2, b3⟩ := p_mstopOf F hF n3.1 (-1)
    rw [aF_eq n3.2.2.1, n3.2.2.2, a3, a4] at b3
    refine ⟨u1.1 11 6, u1, u4, ?_, ?_, b1, ((Kp.ren a8).tr n3.2.1).tr b2⟩
    · unfold f_X11_count
      rw [if_neg (by decide), if_neg (by decide), if_neg (by decide), if_pos rfl]
      rw [a1, Option.bind_some]
      rfl
    · unfold f_X12_count
      rw [if_neg (by decide), if_neg (by decide), if_neg (by decide), if_pos rfl]
      rcases b3 with ⟨c, n, q1, q2, q3, q4⟩ | ⟨q1, q2⟩
      · exact absurd q1.symm (nI_ne_m1 (by omega))
      · rw [q2, Option.bind_some, if_neg (by decide), a7.1]
  by_cases x4 : x = 4
  · subst x4
    refine ⟨u.1 22 4, u, wr u 50 0 0, rfl, ?_, h.w0.1, h.w0.2.1⟩
    unfold f_X12_count
    rw [if_neg (by decide), if_neg (by decide), if_neg (by decide), if_neg (by decide), if_pos rfl]
    rw [wr_nek _ (by decide), hN.2.2.1, hN.2.2.2.1]
  by_cases x5 : x = 5
  · subst x5
    refine ⟨u.1 22 5, u, wr u 50 0 0, rfl, ?_, h.w0.1, h.w0.2.1⟩
    unfold f_X12_count
    rw [if_neg (by decide), if_neg (by decide), if_neg (by decide), if_neg (by decide), if_neg (by decide), if_pos rfl]
    rw [wr_nek _ (by decide), hN.2.2.2.2.1, hN.2.2.2.2.2.1]
  by_cases x6 : x = 6
  · subst x6
    obtain ⟨l, l1, l2, l3, l4⟩ := hTp
    refine ⟨u.1 1 1, u, wr u 50 0 0, rfl, ?_, h.w0.1, h.w0.2.1⟩
    unfold f_X12_count
    rw [if_neg (by decide), if_neg (by decide), if_neg (by decide), if_neg (by decide), if_neg (by decide), if_neg (by decide), if_pos rfl]
    rw [wr_nek _ (by decide), l3.1, l4.1]
  by_cases x7 : x = 7
  · subst x7
    obtain ⟨r, r1, r2, r3⟩ := h.2.1
    refine ⟨u.1 4 3, u, wr u 50 0 0, rfl, ?_, h.w0.1, h.w0.2.1⟩
    unfold f_X12_count
    rw [if_neg (by decide), if_neg (by decide), if_neg (by decide), if_neg (by decide), if_neg (by decide), if_neg (by decide), if_neg (by decide), if_pos rfl]
    rw [wr_nek _ (by decide), r2, r3]
  refine ⟨-1, u, wr u 50 0 0, ?_, ?_, h.w0.1, h.w0.2.1⟩
  · unfold f_X11_count
    rw [if_neg x0, if_neg x1, if_neg x2, if_neg x3, if_neg x4, if_neg x5, if_neg x6, if_neg x7]
  · unfold f_X12_count
    rw [if_neg x0, if_neg x1, if_neg x2, if_neg x3, if_neg x4, if_neg x5, if_neg x6, if_neg x7]
