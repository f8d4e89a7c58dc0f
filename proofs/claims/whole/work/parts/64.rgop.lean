/-! turn and helps, both sides -/
theorem l_gcdL (F : Nat) (x : Int32) (u : St) : ∀ (k a b : Nat), b < k → a < 2 ^ 31 → b < 2 ^ 31 → ∃ z, l_X12_turn_47 F x k (lN a) (lN b) u = some (lN (Nat.gcd a b), z, u)
  | 0, a, b, hk, ha, hb => absurd hk (by omega)
  | k + 1, a, b, hk, ha, hb => by
    show ∃ z, b_X12_turn_47 F x (l_X12_turn_47 F x k) _ _ u = _
    unfold b_X12_turn_47
    rcases Nat.eq_zero_or_pos b with z | z
    · subst z
      rw [if_pos ((lg_cmp_eq (lN 0) 0).mpr rfl), Nat.gcd_zero_right]
      exact ⟨_, rfl⟩
    · have hne : ¬ lN b = 0 := fun w => by
        have := (lN_eq hb (b := 0) (by decide)).mp w
        omega
      rw [if_neg (fun w => hne ((lg_cmp_eq _ _).mp w)), if_neg hne, pk_lRem (by omega) z (by omega), gcd_st a b]
      have := Nat.mod_lt a z
      exact l_gcdL F x u k b (a % b) (by omega) hb (by omega)
theorem k_turn (F : Nat) (hF : 5000 ≤ F) {u : St} {n m : Nat} {sr tg tk dl : Nat → Nat} (h : MN u n m sr tg tk dl) (x : Int32) : ∃ r u2, f_X12_turn F x u = some (r, u2) ∧ FG (wr u 50 0 0) u2 ∧ ((∀ j, j ≤ 1 → x ≠ nI j) → r = -1) ∧ ∀ j, j ≤ 1 → x = nI j → ((ddR n m sr tg tk ∨ noR n m sr tg) → r = -1) ∧ (¬ ddR n m sr tg tk → ¬ noR n m sr tg → ∃ q : Nat × Nat, Bst n m sr tg tk dl q ∧ r = if j = 0 then lN (q.1 / Nat.gcd q.1 q.2) else lN (q.2 / Nat.gcd q.1 q.2)) := by
  have h0 : MN (wr u 50 0 0) n m sr tg tk dl := by
    unfold MN
    rw [wr_nek _ (show (24 : Nat) ≠ 0 by decide), wr_nek _ (show (25 : Nat) ≠ 0 by decide), wr_ne _ (show (66 : Nat) ≠ 50 by decide), wr_ne _ (show (67 : Nat) ≠ 50 by decide), wr_ne _ (show (68 : Nat) ≠ 50 by decide), wr_ne _ (show (69 : Nat) ≠ 50 by decide)]
    exact h
  obtain ⟨v, v1, v2, v3, v4, v5⟩ := k_goR F (by omega) h0
  unfold f_X12_turn
  rw [v1, Option.bind_some]
  rcases le_ix x (n := 1) (by decide) with ⟨j, hj, rfl⟩ | hx
  · have ki : f_X12_isIn F (nI j) 0 1 v = some (1, v) := isIn_in F (lo := 0) (hi := 1) (Nat.zero_le _) hj (by decide) v
    rw [ki, Option.bind_some]
    dsimp only
    rw [if_neg (by decide)]
    have hjj : ∀ i, i ≤ 1 → nI j = nI i → j = i := fun i hi e => nI_inj (by omega) (by omega) e
    rcases v3 with ⟨z1, z2⟩ | ⟨z1, z2⟩
    · rw [z1, if_pos rfl]
      by_cases hn : noR n m sr tg
      · rw [if_pos (v4.mpr hn)]
        exact ⟨-1, v, rfl, v2, fun _ => rfl, fun i hi e => ⟨fun _ => rfl, fun _ q => absurd hn q⟩⟩
      · rw [if_neg (fun q => hn (v4.mp q))]
        obtain ⟨q, q1, q2, q3, q4, q5⟩ := v5 z2 hn
        obtain ⟨y, hy⟩ := l_gcdL F (nI j) v F q.1 q.2 (by omega) (by omega) (by omega)
        have hg : 0 < Nat.gcd q.1 q.2 := Nat.gcd_pos_of_pos_right _ q1.1
        have hg2 : Nat.gcd q.1 q.2 ≤ q.2 := Nat.le_of_dvd q1.1 (Nat.gcd_dvd_right _ _)
        have hne : ¬ lN (Nat.gcd q.1 q.2) = 0 := fun w => by
          have := (lN_eq (show Nat.gcd q.1 q.2 < 2 ^ 31 by omega) (b := 0) (by decide)).mp w
          omega
        rw [q2, q3, hy, Option.bind_some]
        dsimp only
        rw [q2, q3, if_neg hne, if_neg hne, pk_lDiv (by omega) hg (by omega), pk_lDiv (by omega) hg (by omega)]
        by_cases hj0 : j = 0
        · subst hj0
          rw [if_pos (show nI 0 = 0 from rfl)]
          refine ⟨_, v, rfl, v2, fun w => absurd rfl (w 0 (by decide)), fun i hi e => ⟨fun w => ?_, fun _ _ => ⟨q, q1, ?_⟩⟩⟩
          · rcases w with w | w
            · exact absurd w z2
            · exact absurd w hn
          · rw [← hjj i hi e]; rfl
        · rw [if_neg (show ¬ nI j = 0 from fun e => hj0 (hjj 0 (by decide) e))]
          refine ⟨_, v, rfl, v2, fun w => absurd rfl (w j hj), fun i hi e => ⟨fun w => ?_, fun _ _ => ⟨q, q1, ?_⟩⟩⟩
          · rcases w with w | w
            · exact absurd w z2
            · exact absurd w hn
          · rw [← hjj i hi e, if_neg hj0]
    · rw [z1, if_neg (by decide)]
      exact ⟨-1, v, rfl, v2, fun _ => rfl, fun i hi e => ⟨fun _ => rfl, fun q _ => absurd z2 q⟩⟩
  · have ki : f_X12_isIn F x 0 1 v = some (0, v) := isIn_out F (hi := 1) (by decide) hx v
    rw [ki, Option.bind_some]
    dsimp only
    rw [if_pos rfl]
    exact ⟨-1, v, rfl, v2, fun _ => rfl, fun i hi e => absurd e (hx i hi)⟩
theorem MN.up {u : St} {n m : Nat} {sr tg tk dl : Nat → Nat} (h : MN u n m sr tg tk dl) (h9 : ∀ e, e < m → tk e ≤ 9) {j : Nat} (hj : j < m) : MN (wr u 69 j (nI (tk j + 1))) n m sr tg (tkq tk (nI j)) dl := by
  obtain ⟨h1, h2, h3, h4, h5, h6⟩ := h
  refine ⟨h1, h2, by rw [wr_ne _ (by decide)]; exact h3, by rw [wr_ne _ (by decide)]; exact h4, fun e he => ?_, fun i hi => by rw [wr_ne _ (by decide)]; exact h6 i hi⟩
  obtain ⟨a1, a2, a3, a4, a5, a6⟩ := h5 e he
  rw [wr_ne _ (show (67 : Nat) ≠ 69 by decide), wr_ne _ (show (68 : Nat) ≠ 69 by decide)]
  refine ⟨a1, a2, ?_, a4, a5, tkq_le (h9 e he)⟩
  unfold tkq
  by_cases q : e = j
  · subst q
    rw [wr_eq, if_pos rfl]
  · rw [wr_nek _ q, if_neg (fun z => q (nI_inj (by omega) (by omega) z))]
    exact a3
theorem l_helpM (F : Nat) (hF : 5000 ≤ F) {n m : Nat} {sr tg tk dl : Nat → Nat} (h9 : ∀ e, e < m → tk e ≤ 9) (hd : ¬ ddR n m sr tg tk) (hr : ¬ noR n m sr tg) : ∀ (c j k : Nat) (x : Int32) (p q : Nat) (u : St) (a b : Nat), j + c = m → c < k → MN u n m sr tg tk dl → HS n m sr tg tk dl j x a b → a * q = p * b → 0 < q → p ≤ 2000 → q ≤ 2000 → ∃ (x' : Int32) (p' q' : Int64) (u' : St) (a' b' : Nat), l_X12_helps_41 F k x (lN p) (lN q) (nI j) u = some (x', p', q', nI m, u') ∧ FG u u' ∧ HS n m sr tg tk dl m x' a' b'
  | c, j, 0, x, p, q, u, a, b, hc, hk, hN, hH, e1, e2, e3, e4 => absurd hk (by omega)
  | c, j, k + 1, x, p, q, u, a, b, hc, hk, hN, hH, e1, e2, e3, e4 => by
    obtain ⟨h1, h2, h3, h4, h5, h6⟩ := id hN
    show ∃ (x' : Int32) (p' q' : Int64) (u' : St) (a' b' : Nat), b_X12_helps_41 F (l_X12_helps_41 F k) x (lN p) (lN q) (nI j) u = _ ∧ _
    unfold b_X12_helps_41
    rw [h4]
    cases c with
    | zero =>
      have : j = m := by omega
      subst this
      rw [if_pos (nI_le (by omega) (by omega))]
      exact ⟨x, _, _, u, a, b, rfl, FG.rf u, hH⟩
    | succ c =>
      have hjm : j < m := by omega
      have hg : ¬ (nI j < 0 ∨ 20 ≤ j) := gin (show j < 20 by omega) (by decide)
      obtain ⟨a1, a2, a3, a4, a5, a6⟩ := h5 j hjm
      rw [if_neg (nI_ge hjm (by omega)), nI_clamp (by omega), if_neg hg, if_neg hg, a3, nI_1, nI_1]
      obtain ⟨v, v1, v2, v3, v4, v5⟩ := k_goR F (by omega) (hN.up h9 hjm)
      rw [v1, Option.bind_some, if_neg hg, if_neg hg]
      have ndq : ¬ ddR n m sr tg (tkq tk (nI j)) := fun ⟨r, r1, r2⟩ => by
        have := ddq hd (nI j) r r1
        omega
      obtain ⟨q1, Q1, Q2, Q3, Q4, Q5⟩ := v5 ndq hr
      have ev : v.1 69 = (wr u 69 j (nI (tk j + 1))).1 69 := v2.1 69 (by decide)
      have ev2 : v.1 69 j - 1 = nI (tk j) := by rw [ev, wr_eq, nI_pred]
      rw [ev2]
      have fg : FG u (wr v 69 j (nI (tk j))) := by
        refine ⟨fun z hz => ?_, fun k k1 k2 => ?_⟩
        · by_cases z9 : z = 69
          · subst z9
            funext i
            by_cases zi : i = j
            · subst zi
              rw [wr_eq, a3]
            · rw [wr_nek _ zi, ev, wr_nek _ zi]
          · rw [wr_ne _ z9, v2.1 z hz, wr_ne _ z9]
        · rw [wr_ne _ (by decide), v2.2 k k1 k2, wr_ne _ (by decide)]
      have hN2 := hN.fg fg
      have L1 := Bst.low (X := q1.1) (Y := q1.2) Q1
      have R1 := L1.bst Q1
      have hb := HS.pos j x a b hH
      have w28 : (wr v 69 j (nI (tk j))).2 50 28 = lN q1.1 := Q2
      have w29 : (wr v 69 j (nI (tk j))).2 50 29 = lN q1.2 := Q3
      rw [w28, w29, lN_mul, lN_mul]
      have m1 : q1.1 * q ≤ 2000 * 2000 := Nat.mul_le_mul Q4 e4
      have m2 : p * q1.2 ≤ 2000 * 2000 := Nat.mul_le_mul e3 Q5
      have hfr := frac_lt hb e2 L1.1 Q1.1 e1 R1
      generalize q1.1 / Nat.gcd q1.1 q1.2 = a1' at L1 R1 hfr
      generalize q1.2 / Nat.gcd q1.1 q1.2 = b1' at L1 R1 hfr
      by_cases hcmp : q1.1 * q < p * q1.2
      · rw [if_pos ((lg_cmp_lt _ _).mpr ((lN_lt (by omega) (by omega)).mpr hcmp))]
        obtain ⟨x', p', q', w, a', b', w1, w2, w3⟩ := l_helpM F hF h9 hd hr c (j + 1) k (nI j) q1.1 q1.2 (wr v 69 j (nI (tk j))) a1' b1' (by omega) (by omega) hN2 ⟨x, a, b, a1', b1', hH, L1, Or.inl ⟨hfr.mp hcmp, rfl, rfl, rfl⟩⟩ R1 Q1.1 Q4 Q5
        exact ⟨x', p', q', w, a', b', w1, fg.tr w2, w3⟩
      · rw [if_neg (fun z => hcmp ((lN_lt (by omega) (by omega)).mp ((lg_cmp_lt _ _).mp z)))]
        obtain ⟨x', p', q', w, a', b', w1, w2, w3⟩ := l_helpM F hF h9 hd hr c (j + 1) k x p q (wr v 69 j (nI (tk j))) a b (by omega) (by omega) hN2 ⟨x, a, b, a1', b1', hH, L1, Or.inr ⟨fun z => hcmp (hfr.mpr z), rfl, rfl, rfl⟩⟩ e1 e2 e3 e4
        exact ⟨x', p', q', w, a', b', w1, fg.tr w2, w3⟩
theorem k_help (F : Nat) (hF : 5000 ≤ F) {u : St} {n m : Nat} {sr tg tk dl : Nat → Nat} (h : MN u n m sr tg tk dl) (h9 : ∀ e, e < m → tk e ≤ 9) : ∃ r u2, f_X12_helps F u = some (r, u2) ∧ FG (wr u 50 0 0) u2 ∧ ((r = -1 ∧ (ddR n m sr tg tk ∨ noR n m sr tg)) ∨ (¬ ddR n m sr tg tk ∧ ¬ noR n m sr tg ∧ ∃ a b, HS n m sr tg tk dl m r a b)) := by
  have h0 : MN (wr u 50 0 0) n m sr tg tk dl := by
    unfold MN
    rw [wr_nek _ (show (24 : Nat) ≠ 0 by decide), wr_nek _ (show (25 : Nat) ≠ 0 by decide), wr_ne _ (show (66 : Nat) ≠ 50 by decide), wr_ne _ (show (67 : Nat) ≠ 50 by decide), wr_ne _ (show (68 : Nat) ≠ 50 by decide), wr_ne _ (show (69 : Nat) ≠ 50 by decide)]
    exact h
  have hm20 := h.2.1
  obtain ⟨v, v1, v2, v3, v4, v5⟩ := k_goR F (by omega) h0
  unfold f_X12_helps
  rw [v1, Option.bind_some]
  rcases v3 with ⟨z1, z2⟩ | ⟨z1, z2⟩
  · rw [z1, if_pos rfl]
    by_cases hn : noR n m sr tg
    · rw [if_pos (v4.mpr hn)]
      exact ⟨-1, v, rfl, v2, Or.inl ⟨rfl, Or.inr hn⟩⟩
    · rw [if_neg (fun q => hn (v4.mp q))]
      obtain ⟨q, q1, q2, q3, q4, q5⟩ := v5 z2 hn
      have L1 := Bst.low (X := q.1) (Y := q.2) q1
      obtain ⟨x', p', q', w, a', b', w1, w2, w3⟩ := l_helpM F hF h9 z2 hn m 0 F (-1) q.1 q.2 v _ _ (by omega) (by omega) (h0.fg v2) ⟨rfl, L1⟩ (L1.bst q1) q1.1 q4 q5
      rw [q2, q3]
      have w1 : l_X12_helps_41 F F (-1) (lN q.1) (lN q.2) 0 v = _ := w1
      rw [w1, Option.bind_some]
      exact ⟨x', w, rfl, v2.tr w2, Or.inr ⟨z2, hn, a', b', w3⟩⟩
  · rw [z1, if_neg (by decide)]
    exact ⟨-1, v, rfl, v2, Or.inl ⟨rfl, Or.inl z2⟩⟩
/-- what a call about rings leaves -/
def RT (u v : St) : Prop := (∀ q, q ∉ [27, 28, 29, 30, 31, 32, 50] → v.1 q = u.1 q) ∧ ∀ k, k ≠ 0 → k ≠ 26 → k ≠ 27 → v.1 50 k = u.1 50 k
theorem RT.rk {u v : St} (h : RT u v) : RK u v := ⟨fun q hq => h.1 q (fun z => hq (by simp at z; simp [RP]; omega)), h.2⟩
theorem RT.of {u v w : St} (h : Fr TP u v) (g : FG (wr v 50 0 0) w) : RT u w := by
  refine ⟨fun q hq => ?_, fun k k0 k1 k2 => ?_⟩
  · have hq50 : q ≠ 50 := fun e => hq (by rw [e]; decide)
    rw [g.1 q hq50, wr_ne _ hq50, h.2 q (fun z => hq (by simp [TP] at z; simp; omega))]
  · rw [g.2 k k1 k2, wr_nek _ k0, h.2 50 (by decide)]
def NtT (u : St) (n m : Nat) : Prop := NtB u n m ∧ TnI u n m (srN u) (tgN u) (tkN u) (dlN u)
theorem TnI.cg {u v : St} {n m : Nat} {sr tg tk dl : Nat → Nat} (h : TnI u n m sr tg tk dl) (e1 : v.1 27 = u.1 27) (e2 : v.1 28 = u.1 28) : TnI v n m sr tg tk dl := by
  unfold TnI HpK
  rw [e1, e2]
  exact h
theorem nf_eq {u v : St} (h : RK u v) : srN v = srN u ∧ tgN v = tgN u ∧ tkN v = tkN u ∧ dlN v = dlN u := by
  unfold srN tgN tkN dlN
  rw [h.1 23 (by decide), h.1 24 (by decide), h.1 25 (by decide), h.1 26 (by decide)]
  exact ⟨rfl, rfl, rfl, rfl⟩
theorem Fr.rk {u v : St} (h : Fr TP u v) : RK u v := ⟨fun q hq => h.2 q (fun z => hq (by simp [TP] at z; simp [RP]; omega)), fun k _ _ _ => by rw [h.2 50 (by decide)]⟩
theorem MN.of {u : St} {n m : Nat} (h : NtB u n m) {v : St} (f : RK u v) : MN v n m (srN u) (tgN u) (tkN u) (dlN u) := by
  have := (h.rk f).mn
  obtain ⟨e1, e2, e3, e4⟩ := nf_eq f
  rw [e1, e2, e3, e4] at this
  exact this
theorem NtT.of {u v w : St} {n m : Nat} (h : NtB u n m) (f : Fr TP u v) (t : TnI v n m (srN u) (tgN u) (tkN u) (dlN u)) (g : FG (wr v 50 0 0) w) : NtT w n m ∧ RT u w := by
  have r := RT.of f g
  refine ⟨⟨h.rk r.rk, ?_⟩, r⟩
  obtain ⟨e1, e2, e3, e4⟩ := nf_eq r.rk
  rw [e1, e2, e3, e4]
  exact t.cg (by rw [g.1 27 (by decide), wr_ne _ (by decide)]) (by rw [g.1 28 (by decide), wr_ne _ (by decide)])
/-- promise 24 -/
theorem op_dead2 (F : Nat) (hF : 100 ≤ F) {u : St} {n m : Nat} (h : NtT u n m) : ∃ r u1 u2, f_X11_dead F u = some (r, u1) ∧ f_X12_dead F u1 = some (r, u2) ∧ NtT u2 n m ∧ RT u u2 := by
  obtain ⟨r, u2, g1, g2, g3⟩ := op_dead F hF h.1
  exact ⟨r, u, u2, g1, g2, NtT.of h.1 (Fr.rf _ u) h.2 g3⟩
/-- promise 25 -/
theorem op_turn (F : Nat) (hF : 200000 ≤ F) {u : St} {n m : Nat} (h : NtT u n m) (x : Int32) : ∃ r u1 u2, f_X11_turn F x u = some (r, u1) ∧ f_X12_turn F x u1 = some (r, u2) ∧ NtT u2 n m ∧ RT u u2 := by
  have hh := h.1.1
  rcases le_ix x (n := 1) (by decide) with ⟨j, hj, rfl⟩ | hx
  · obtain ⟨v, v1, v2, v3, v4⟩ := p_renT F hF h.1.sn h.2
    obtain ⟨r, w, w1, w2, _, w4⟩ := k_turn F (by omega) (MN.of h.1 v2.rk) (nI j)
    obtain ⟨w5, w6⟩ := w4 j hj rfl
    have key : f_X11_turn F (nI j) u = some (r, v) := by
      unfold f_X11_turn
      rw [if_neg (nI_pos (by omega)), if_pos (show nI j ≤ (1 : Int32) from nI_le hj (by decide)), v1, Option.bind_some]
      rcases v3 with ⟨t1, _⟩ | ⟨t, ⟨t1, t2, t3⟩ | ⟨t1, t2, t3, ⟨a, b, t4, t5, t6, t7, t8⟩, t9⟩⟩
      · rw [v4] at t1
        exact absurd t1 (by decide)
      · rw [w5 t2]
        unfold f_X9_numerator f_X9_denominator
        rw [if_pos t1]
        by_cases q : nI j = 0
        · rw [if_pos q]; rfl
        · rw [if_neg q, if_pos t1]; rfl
      · obtain ⟨q, q1, q2⟩ := w6 t2 t3
        obtain ⟨l1, l2⟩ := low_eq t6.1 q1.1 t6.2.1 (t6.bst q1)
        rw [← l1, ← l2] at q2
        rw [q2]
        unfold f_X9_numerator f_X9_denominator
        have ht : ¬ v.1 27 7 = 0 := by rw [t1]; decide
        rw [if_neg ht, if_neg ht]
        by_cases q0 : j = 0
        · subst q0
          rw [if_pos (show nI 0 = 0 from rfl), if_pos rfl, show f_X5_top F 28 v = some (v.1 28 0, v) from rfl, Option.bind_some, Option.bind_some, t4]
          dsimp only
          rw [nI_l (by omega)]
        · rw [if_neg (show ¬ nI j = 0 from fun e => q0 (nI_inj (b := 0) (by omega) (by decide) e)), if_neg q0, show f_X5_bottom F 28 v = some (v.1 28 1, v) from rfl, Option.bind_some, Option.bind_some, t5]
          dsimp only
          rw [nI_l (by omega)]
    obtain ⟨k1, k2⟩ := NtT.of h.1 v2 v3 w2
    exact ⟨r, v, w, key, w1, k1, k2⟩
  · obtain ⟨r, w, w1, w2, w3, _⟩ := k_turn F (by omega) (MN.of h.1 (RK.rf u)) x
    have hr := w3 hx
    subst hr
    refine ⟨-1, u, w, ?_, w1, NtT.of h.1 (Fr.rf _ u) h.2 w2⟩
    unfold f_X11_turn
    rcases out_cl (by decide) hx with q | ⟨q1, q2⟩
    · rw [if_pos q]
    · rw [if_neg q1, if_neg]
      intro z
      have z1 := Int32.le_iff_toInt_le.mp z
      have z2 := Int32.lt_iff_toInt_lt.mp q2
      have z3 : (nI 1).toInt = (1 : Int32).toInt := rfl
      omega
/-- promise 27 -/
theorem op_helps (F : Nat) (hF : 200000 ≤ F) {u : St} {n m : Nat} (h : NtT u n m) : ∃ r u1 u2, f_X11_helps F u = some (r, u1) ∧ f_X12_helps F u1 = some (r, u2) ∧ NtT u2 n m ∧ RT u u2 := by
  obtain ⟨v, v1, v2, v3, v4⟩ := p_renT F hF h.1.sn h.2
  obtain ⟨x, w, w1, w2, w3, w4⟩ := p_help F hF (h.1.sn.tp v2) v3 v4
  have f2 := v2.tr w2
  obtain ⟨r, z, z1, z2, z3⟩ := k_help F (by omega) (MN.of h.1 f2.rk) (fun e he => (h.1.sn.2.2.2.2.1 e he).2.2.2.2.2)
  have hxr : x = r := by
    rcases w4 with ⟨a1, a2⟩ | ⟨a1, a2, a, b, a3⟩
    · rcases z3 with ⟨b1, b2⟩ | ⟨b1, b2, _⟩
      · rw [a1, b1]
      · rcases a2 with q | q
        · exact absurd q b1
        · exact absurd q b2
    · rcases z3 with ⟨b1, b2⟩ | ⟨b1, b2, c, d, b3⟩
      · rcases b2 with q | q
        · exact absurd q a1
        · exact absurd q a2
      · exact (HS.uniq m x r a b c d a3 b3).1
  subst hxr
  obtain ⟨k1, k2⟩ := NtT.of h.1 f2 w3 z2
  refine ⟨x, w, z, ?_, z1, k1, k2⟩
  unfold f_X11_helps
  rw [v1, Option.bind_some, w1]
  rfl
