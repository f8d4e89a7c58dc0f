/-! the system's reader, equation by equation -/
theorem trmS_len (l : List Nat) (x : Nat) : ∀ (d p : Nat) (E : EL), (trmS l x d p E).2.2.length ≤ E.length + d
  | 0, p, E => Nat.le_refl _
  | d + 1, p, E => by
    unfold trmS
    by_cases h1 : ltr l p = none
    · rw [if_pos h1]; simp
    · rw [if_neg h1]
      by_cases h2 : ltr l (litS l 8 p 0 0).1 = none
      · rw [if_pos h2]
        by_cases h3 : bvN l (litS l 8 p 0 0).1 = 43
        · rw [if_pos h3]
          have := trmS_len l x d (pbk l ((litS l 8 p 0 0).1 + 1)) (E ++ [(x, (litS l 8 p 0 0).2)])
          rw [List.length_append, List.length_singleton] at this
          omega
        · rw [if_neg h3]; simp
      · rw [if_neg h2]; simp
theorem eqS_len (l : List Nat) (p : Nat) (E : EL) (sg : Int32) : (eqS l p E sg).2.2.1.length ≤ E.length + 12 := by
  unfold eqS
  cases ltr l p with
  | none => simp
  | some x =>
    simp only
    by_cases h1 : bt sg x = true
    · rw [if_pos h1]; simp
    · rw [if_neg h1]
      by_cases h2 : bvN l (pbk l (p + 1)) = 61
      · rw [if_pos h2]
        by_cases h3 : bvN l (pbk l (pbk l (p + 1) + 1)) = 48
        · rw [if_pos h3]; simp
        · rw [if_neg h3]
          by_cases h4 : bvN l (pbk l (pbk l (p + 1) + 1)) = 49
          · rw [if_pos h4]; simp
          · rw [if_neg h4]
            exact trmS_len l x 12 _ E
      · rw [if_neg h2]; simp
theorem FrE.f3 {q : Nat} {u v : St} (h : Fr [3] u v) : FrE q u v := h.mono (by simp)
theorem c_addEq (F : Nat) {q : Nat} (hq : IsE q) {l : List Nat} {p : Nat} {E : EL} {sg : Int32} {u : St} (hR : RD l p u) (hE : EC q E sg u) (x : Nat) : f_X1_addEquation F q (nI x) u = some (wr u q 4 (sg ||| bitI x)) ∧ RD l p (wr u q 4 (sg ||| bitI x)) ∧ EC q E (sg ||| bitI x) (wr u q 4 (sg ||| bitI x)) ∧ FrE q u (wr u q 4 (sg ||| bitI x)) := by
  have f : Fr [q, q + 1, q + 2, q + 3] u (wr u q 4 (sg ||| bitI x)) := (Fr.rf _ u).w (by simp)
  refine ⟨?_, hR.fe hq f, ⟨by rw [wr_nek _ (by decide)]; exact hE.1, wr_eq _, fun i y o z hi => ?_⟩, f.mono (by intro r hr; simp at hr ⊢; omega)⟩
  · unfold f_X1_addEquation
    rw [hE.2.1]
    rfl
  · rw [wr_ne _ (by omega), wr_ne _ (by omega), wr_ne _ (by omega)]
    exact hE.2.2 i y o z hi
theorem c_addC (F : Nat) {q : Nat} (hq : IsE q) {l : List Nat} {p : Nat} {E : EL} {sg : Int32} {u : St} (hR : RD l p u) (hE : EC q E sg u) (hl : E.length < 144) (x : Nat) (b : Bool) : ∃ u', f_X1_addConstant F q (nI x) (b2i b) u = some u' ∧ RD l p u' ∧ EC q (E ++ [(x, b2i (!b), b2i (!b))]) sg u' ∧ FrE q u u' := by
  unfold f_X1_addConstant
  cases b with
  | false =>
    obtain ⟨u', g1, g2, g3⟩ := c_addTerm F hE hl x 1 1
    rw [if_pos (by simp [b2i]), g1]
    exact ⟨u', rfl, hR.fe hq g3, g2, g3.mono (by intro r hr; simp at hr ⊢; omega)⟩
  | true =>
    obtain ⟨u', g1, g2, g3⟩ := c_addTerm F hE hl x 0 0
    rw [if_neg (by simp [b2i]), g1]
    exact ⟨u', rfl, hR.fe hq g3, g2, g3.mono (by intro r hr; simp at hr ⊢; omega)⟩
theorem c_has (F : Nat) {q : Nat} {E : EL} {sg : Int32} {u : St} (hE : EC q E sg u) {x : Nat} (hx : x < 12) : f_X1_has F q (nI x) u = some (b2i (bt sg x), u) := by
  unfold f_X1_has
  rw [hE.2.1, p_isIn F _ (by omega)]
  simp only [Option.bind_some]
  rw [if_pos (by cases bt sg x <;> simp [b2i])]
theorem c_eq (F : Nat) (hF : 1000 ≤ F) {q : Nat} (hq : IsE q) {l : List Nat} {p : Nat} {E : EL} {sg : Int32} {u : St} (hR : RD l p u) (hE : EC q E sg u) (hl : E.length + 12 ≤ 144) : ∃ u', f_X6_readEquation F q u = some (b2i (eqS l p E sg).1, u') ∧ RD l (eqS l p E sg).2.1 u' ∧ EC q (eqS l p E sg).2.2.1 (eqS l p E sg).2.2.2 u' ∧ FrE q u u' := by
  unfold f_X6_readEquation
  rw [c_sig F hR]
  rw [Option.bind_some]
  try dsimp only
  unfold eqS
  cases hj : ltr l p with
  | none =>
    rw [show onI none = -1 from rfl, if_pos rfl]
    exact ⟨u, rfl, hR, hE, Fr.rf _ _⟩
  | some x =>
    obtain ⟨hx, hp⟩ := ltr_lt hj
    simp only
    rw [show onI (some x) = nI x from rfl, if_neg (nI_ne_m1 (by omega)), c_has F hE hx]
    rw [Option.bind_some]
    try dsimp only
    by_cases h1 : bt sg x = true
    · rw [if_pos h1, h1, if_neg (by simp [b2i])]
      exact ⟨u, rfl, hR, hE, Fr.rf _ _⟩
    · rw [if_neg h1, Bool.eq_false_iff.mpr h1, if_pos (by simp [b2i])]
      obtain ⟨s1, s2⟩ := c_step F hF hR hp
      have f1 : Fr [3] u (wr u 3 1 (nI (pbk l (p + 1)))) := (Fr.rf _ u).w (by decide)
      rw [s1]
      rw [Option.bind_some]
      try dsimp only
      generalize wr u 3 1 (nI (pbk l (p + 1))) = u1 at s2 f1
      rw [c_isOn F s2]
      rw [Option.bind_some]
      try dsimp only
      by_cases h2 : bvN l (pbk l (p + 1)) = 61
      · rw [if_pos h2, if_neg (by simp [h2, b2i])]
        obtain ⟨t1, t2⟩ := c_step F hF s2 (bvN_lt (by decide) h2)
        have f2 : Fr [3] u1 (wr u1 3 1 (nI (pbk l (pbk l (p + 1) + 1)))) := (Fr.rf _ u1).w (by decide)
        rw [t1]
        rw [Option.bind_some]
        try dsimp only
        generalize wr u1 3 1 (nI (pbk l (pbk l (p + 1) + 1))) = u2 at t2 f2
        obtain ⟨a1, a2, a3, a4⟩ := c_addEq F hq t2 ((hE.f3 hq f1).f3 hq f2) x
        rw [a1]
        rw [Option.bind_some]
        try dsimp only
        generalize wr u2 q 4 (sg ||| bitI x) = u3 at a2 a3 a4
        have f3 : FrE q u u3 := ((FrE.f3 f1).tr (FrE.f3 f2)).tr a4
        rw [c_isOn F a2]
        rw [Option.bind_some]
        try dsimp only
        -- a constant
        have cst : ∀ b : Bool, bvN l (pbk l (pbk l (p + 1) + 1)) ≠ -1 → decide (bvN l (pbk l (pbk l (p + 1) + 1)) = 49) = b → ∃ u', (Option.bind (f_X6_isOn F (49 : Int32) u3) (fun w26 => (Option.bind (f_X1_addConstant F q (nI x) w26.1 w26.2) (fun u27 => (Option.bind (f_X6_step F u27) (fun u29 => some ((1 : Int32), u29))))))) = some (b2i true, u') ∧ RD l (pbk l (pbk l (pbk l (p + 1) + 1) + 1)) u' ∧ EC q (E ++ [(x, b2i (!b), b2i (!b))]) (sg ||| bitI x) u' ∧ FrE q u u' := by
          intro b hb hd
          rw [c_isOn F a2, hd]
          rw [Option.bind_some]
          try dsimp only
          obtain ⟨u4, b1, b2, b3, b4⟩ := c_addC F hq a2 a3 (by omega) x b
          rw [b1]
          rw [Option.bind_some]
          try dsimp only
          obtain ⟨e1, e2⟩ := c_step F hF b2 (bvN_lt hb rfl)
          rw [e1]
          rw [Option.bind_some]
          try dsimp only
          have f5 : Fr [3] u4 (wr u4 3 1 (nI (pbk l (pbk l (pbk l (p + 1) + 1) + 1)))) := (Fr.rf _ u4).w (by decide)
          exact ⟨_, rfl, e2, b3.f3 hq f5, (f3.tr b4).tr (FrE.f3 f5)⟩
        by_cases h3 : bvN l (pbk l (pbk l (p + 1) + 1)) = 48
        · rw [if_pos h3, if_neg (by simp [h3, b2i])]
          exact cst false (by rw [h3]; decide) (by rw [h3]; decide)
        · rw [if_neg h3, if_pos (by simp [h3, b2i]), c_isOn F a2]
          rw [Option.bind_some]
          try dsimp only
          by_cases h4 : bvN l (pbk l (pbk l (p + 1) + 1)) = 49
          · rw [if_pos h4, if_neg (by simp [h4, b2i])]
            exact cst true (by rw [h4]; decide) (by rw [h4]; decide)
          · rw [if_neg h4, if_pos (by simp [h4, b2i])]
            obtain ⟨w, u4, k1, k2, k3, k4, k5⟩ := l_cterms F hF hq x (sg := sg ||| bitI x) 12 0 F _ E u3 (by omega) (by omega) a2 a3 hl
            rw [show nI 0 = 0 from rfl] at k1
            have hrt : f_X6_readTerms F (nI x) q u3 = some (b2i (trmS l x 12 (pbk l (pbk l (p + 1) + 1)) E).1, u4) := by
              unfold f_X6_readTerms
              rw [k1]
              rw [Option.bind_some]
              try dsimp only
              rw [k2]
            rw [hrt]
            rw [Option.bind_some]
            try dsimp only
            rw [if_pos (by cases (trmS l x 12 (pbk l (pbk l (p + 1) + 1)) E).1 <;> simp [b2i])]
            exact ⟨u4, rfl, k3, k4, f3.tr k5⟩
      · rw [if_neg h2, if_pos (by simp [h2, b2i])]
        exact ⟨u1, rfl, s2, hE.f3 hq f1, FrE.f3 f1⟩
theorem c_atEnd (F : Nat) {l : List Nat} {p : Nat} {u : St} (h : RD l p u) : f_X6_isAtEnd F u = some (b2i (decide (l.length ≤ p)), u) := by
  obtain ⟨h1, h2, h3, h4, h5⟩ := h
  unfold f_X6_isAtEnd
  rw [show f_X7_size F u = some (u.1 1 1, u) from rfl]
  simp only [Option.bind_some]
  rw [h4, h3.1]
  by_cases q : l.length ≤ p
  · rw [if_neg (nI_nlt q (by omega))]; simp [q, b2i]
  · rw [if_pos (nI_lt (by omega) (by omega))]; simp [q, b2i]
def ftI (o : Option Nat) : Int32 := match o with
  | some p => nI p
  | none => -1
theorem l_cread (F : Nat) (hF : 1000 ≤ F) {q : Nat} (hq : IsE q) {l : List Nat} : ∀ (d i k p : Nat) (E : EL) (sg : Int32) (u : St), i + d = 12 → d < k → RD l p u → EC q E sg u → E.length ≤ 12 * i → ∃ w u', l_X6_read_27 F q k (nI i) u = some w ∧ Sum.elim (fun r => some r) (fun v31 => some ((v31.2.1 3 1), v31.2)) w = some (ftI (rdS l d p E sg).1, u') ∧ EC q (rdS l d p E sg).2.1 (rdS l d p E sg).2.2 u' ∧ FrE q u u'
  | d, i, 0, _, _, _, _, _, hk, _, _, _ => absurd hk (by omega)
  | d, i, k + 1, p, E, sg, u, hd, hk, hR, hE, hl => by
    show ∃ w u', b_X6_read_27 F q (l_X6_read_27 F q k) _ u = _ ∧ _
    unfold b_X6_read_27
    rw [show (12 : Int32) = nI 12 from rfl]
    cases d with
    | zero =>
      rw [if_pos (nI_le (by omega) (by omega))]
      refine ⟨_, u, rfl, ?_, hE, Fr.rf _ _⟩
      show some (u.1 3 1, u) = _
      rw [hR.2.2.2.1]
      rfl
    | succ d =>
      rw [if_neg (nI_ge (show i < 12 by omega) (by decide))]
      obtain ⟨u1, g1, g2, g3, g4⟩ := c_eq F hF hq hR hE (by omega)
      have hlen := eqS_len l p E sg
      rw [g1]
      simp only [Option.bind_some]
      unfold rdS
      cases hb : (eqS l p E sg).1 with
      | false =>
        rw [if_pos (by simp [b2i]), if_pos rfl]
        refine ⟨_, u1, rfl, ?_, g3, g4⟩
        show some (u1.1 3 1, u1) = _
        rw [g2.2.2.2.1]
        rfl
      | true =>
        rw [if_neg (by simp [b2i]), if_neg (by decide), c_atEnd F g2]
        simp only [Option.bind_some]
        by_cases he : l.length ≤ (eqS l p E sg).2.1
        · rw [if_pos he, if_neg (by simp [he, b2i])]
          exact ⟨_, u1, rfl, rfl, g3, g4⟩
        · rw [if_neg he, if_pos (by simp [he, b2i]), c_isOn F g2]
          simp only [Option.bind_some]
          by_cases hs : bvN l (eqS l p E sg).2.1 = 59
          · rw [if_pos hs, if_neg (by simp [hs, b2i])]
            obtain ⟨s1, s2⟩ := c_step F hF g2 (by omega)
            have f1 : Fr [3] u1 (wr u1 3 1 (nI (pbk l ((eqS l p E sg).2.1 + 1)))) := (Fr.rf _ u1).w (by decide)
            rw [s1]
            simp only [Option.bind_some, nI_1]
            obtain ⟨w, u2, k1, k2, k3, k4⟩ := l_cread F hF hq d (i + 1) k _ _ _ _ (by omega) (by omega) s2 (g3.f3 hq f1) (by omega)
            exact ⟨w, u2, k1, k2, k3, (g4.tr (FrE.f3 f1)).tr k4⟩
          · rw [if_neg hs, if_pos (by simp [hs, b2i])]
            refine ⟨_, u1, rfl, ?_, g3, g4⟩
            show some (u1.1 3 1, u1) = _
            rw [g2.2.2.2.1]
            rfl
/-- the system's read -/
theorem c_read (F : Nat) (hF : 1000 ≤ F) {q : Nat} (hq : IsE q) {l : List Nat} {u : St} (hl : l.length ≤ 300) (hb : ∀ b ∈ l, b < 256) (hT : TC l u) : ∃ u', f_X6_read F q u = some (ftI (rdA l).1, u') ∧ EC q (rdA l).2.1 (rdA l).2.2 u' ∧ FrE q u u' := by
  unfold f_X6_read
  rw [show f_X1_removeAll F q u = some (wr (wr u q 3 0) q 4 0) from rfl]
  simp only [Option.bind_some]
  have f0 : Fr [q, q + 1, q + 2, q + 3] u (wr (wr u q 3 0) q 4 0) := ((Fr.rf _ u).w (by simp)).w (by simp)
  have T0 : TC l (wr (wr u q 3 0) q 4 0) := by
    have e : ∀ r, r = 1 ∨ r = 2 → (wr (wr u q 3 0) q 4 0).1 r = u.1 r := fun r hr => f0.2 r (by
      simp only [List.mem_cons, List.not_mem_nil, or_false]
      rcases hq with q | q <;> omega)
    exact hT.fr (by rw [e 1 (by omega)]) (e 2 (by omega))
  have E0 : EC q [] 0 (wr (wr u q 3 0) q 4 0) := ⟨by rw [wr_nek _ (by decide), wr_eq]; rfl, wr_eq _, fun i x o z hi => by simp at hi⟩
  generalize wr (wr u q 3 0) q 4 0 = u0 at f0 T0 E0
  have hpb : f_X7_pastBlanks F 0 u0 = some (nI (pbk l 0), u0) := by
    unfold f_X7_pastBlanks
    rw [show (0 : Int32) = nI 0 from rfl, l_past F hl hb T0 _ 0 F rfl (by omega) (by omega)]
    rfl
  rw [hpb]
  simp only [Option.bind_some]
  have f1 : Fr [3] u0 (wr u0 3 1 (nI (pbk l 0))) := (Fr.rf _ u0).w (by decide)
  have R1 : RD l (pbk l 0) (wr u0 3 1 (nI (pbk l 0))) := ⟨hl, hb, T0.fr (by rw [f1.2 1 (by decide)]) (f1.2 2 (by decide)), wr_eq _, pbk_le (by omega)⟩
  have E1 := E0.f3 hq f1
  have ff : FrE q u (wr u0 3 1 (nI (pbk l 0))) := Fr.tr (f0.mono (by intro r hr; simp at hr ⊢; omega)) (FrE.f3 f1)
  generalize wr u0 3 1 (nI (pbk l 0)) = u1 at R1 E1 ff
  rw [c_atEnd F R1]
  simp only [Option.bind_some]
  unfold rdA
  by_cases he : l.length ≤ pbk l 0
  · rw [if_pos he, if_neg (by simp [he, b2i])]
    exact ⟨u1, rfl, E1, ff⟩
  · rw [if_neg he, if_pos (by simp [he, b2i])]
    obtain ⟨w, u2, k1, k2, k3, k4⟩ := l_cread F hF hq 12 0 F _ [] 0 u1 (by omega) (by omega) R1 E1 (by simp)
    rw [show nI 0 = 0 from rfl] at k1
    rw [k1]
    simp only [Option.bind_some]
    exact ⟨u2, k2, k3, ff.tr k4⟩
