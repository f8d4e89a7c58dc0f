/-! the model's reader: terms, equations, the text -/
def FN (u v : St) : Prop := Fr [50, 55, 56, 57] u v ∧ ∀ k, k ≠ 12 → v.1 50 k = u.1 50 k
theorem FN.rf (u : St) : FN u u := ⟨Fr.rf _ _, fun _ _ => rfl⟩
theorem FN.tr {u v w : St} (h : FN u v) (g : FN v w) : FN u w := ⟨h.1.tr g.1, fun k hk => (g.2 k hk).trans (h.2 k hk)⟩
theorem FA.fn {u v : St} (h : FA u v) : FN u v := ⟨h.1.mono (by simp), h.2⟩
theorem FT.fn {c : Nat} {u v : St} (h : FT c u v) : FN u v := ⟨h.1.mono (by intro r hr; simp at hr ⊢; omega), h.2.1⟩
theorem FN.w {u v : St} (h : FN u v) {p k : Nat} {x : Int32} (hp : p ∈ [55, 56, 57]) : FN u (wr v p k x) := ⟨h.1.w (by simp at hp ⊢; omega), fun k hk => by rw [wr_ne _ (by simp at hp; omega)]; exact h.2 k hk⟩
theorem MS.fn {l : List Nat} {q r : Nat} {u v : St} (h : MS l q u) (hf : FN u v) (h3 : v.1 50 12 = nI r) (hr : r ≤ l.length) : MS l r v := ⟨h.1, h.2.1, h.2.2.1.fr (hf.2 2 (by decide)) (hf.1.2 51 (by decide)), h3, hr⟩
def own (E : EL) (x : Nat) : List (Int32 × Int32) := (E.filter (fun e => e.1 == x)).map (fun e => e.2)
theorem own_same (E : EL) (x : Nat) (p : Int32 × Int32) : own (E ++ [(x, p)]) x = own E x ++ [p] := by
  unfold own
  rw [List.filter_append, List.map_append]
  simp
theorem own_other (E : EL) {x y : Nat} (h : x ≠ y) (p : Int32 × Int32) : own (E ++ [(x, p)]) y = own E y := by
  unfold own
  rw [List.filter_append, List.map_append]
  simp [h]
def MR (E : EL) (sg : Int32) (u : St) : Prop := ∀ x, x < 12 → (bt sg x = false → u.1 55 x = -1 ∧ own E x = []) ∧ (bt sg x = true → u.1 55 x = nI (own E x).length ∧ (own E x).length ≤ 12 ∧ ∀ t o z, (own E x)[t]? = some (o, z) → u.1 56 (12 * x + t) = o ∧ u.1 57 (12 * x + t) = z)
theorem MR.fa {E : EL} {sg : Int32} {u v : St} (h : MR E sg u) (hf : FA u v) : MR E sg v := by
  unfold MR
  rw [hf.1.2 55 (by decide), hf.1.2 56 (by decide), hf.1.2 57 (by decide)]
  exact h
theorem k_term (F : Nat) (hF : 1000 ≤ F) {l : List Nat} {q : Nat} {u : St} {E : EL} {sg : Int32} {x : Nat} (hx : x < 12) (hM : MS l q u) (hR : MR E sg u) (hs : bt sg x = true) : ∃ r u', f_X12_term F (nI x) u = some (r, u') ∧ FN u u' ∧ (if ltr l (pbk l q) = none ∨ (own E x).length = 12 then r = 0 ∧ MS l (pbk l q) u' else r = b2i (decide (ltr l (litS l 8 (pbk l q) 0 0).1 = none)) ∧ MS l (litS l 8 (pbk l q) 0 0).1 u' ∧ MR (E ++ [(x, (litS l 8 (pbk l q) 0 0).2)]) sg u') := by
  unfold f_X12_term
  obtain ⟨u1, g1, g2, g3⟩ := k_look F hF hM
  rw [g1, Option.bind_some]
  try dsimp only
  rw [k_let F hM.b256, Option.bind_some]
  try dsimp only
  by_cases hj : ltr l (pbk l q) = none
  · rw [if_pos (by simp [hj, b2i])]
    exact ⟨_, u1, rfl, g2.fn, by rw [if_pos (Or.inl hj)]; exact ⟨rfl, g3⟩⟩
  · rw [if_neg (by simp [hj, b2i]), nI_clamp (by omega), if_neg (gin hx (by decide))]
    obtain ⟨e1, e2, e3⟩ := (hR x hx).2 hs
    rw [g2.1.2 55 (by decide), e1]
    by_cases hn : (own E x).length = 12
    · rw [if_pos (by rw [hn]; rfl)]
      exact ⟨_, u1, rfl, g2.fn, by rw [if_pos (Or.inr hn)]; exact ⟨rfl, g3⟩⟩
    · have hn2 : ¬ nI (own E x).length = 12 := fun z => hn (nI_inj (b := 12) (by omega) (by decide) z)
      rw [if_neg hn2, if_neg (gin hx (by decide)), nI_12x hx (by omega), nI_clamp (by omega)]
      have hc : 12 * x + (own E x).length < 144 := by omega
      rw [if_neg (gin hc (by decide)), if_neg (gin hc (by decide)), if_neg (gin hx (by decide)), if_neg (gin hx (by decide)), wr_ne _ (show (55 : Nat) ≠ 57 by decide), wr_ne _ (show (55 : Nat) ≠ 56 by decide), g2.1.2 55 (by decide), e1, nI_1]
      generalize hcc : 12 * x + (own E x).length = c at hc ⊢
      have f2 : FN u1 (wr (wr (wr u1 56 c 0) 57 c 0) 55 x (nI ((own E x).length + 1))) := (((FN.rf u1).w (by decide)).w (by decide)).w (by decide)
      have M2 : MS l (pbk l q) (wr (wr (wr u1 56 c 0) 57 c 0) 55 x (nI ((own E x).length + 1))) := g3.fn f2 (by rw [wr_ne _ (by decide), wr_ne _ (by decide), wr_ne _ (by decide)]; exact g3.2.2.2.1) g3.2.2.2.2
      have z56 : (wr (wr (wr u1 56 c 0) 57 c 0) 55 x (nI ((own E x).length + 1))).1 56 c = 0 := by rw [wr_ne _ (by decide), wr_ne _ (by decide), wr_eq]
      have z57 : (wr (wr (wr u1 56 c 0) 57 c 0) 55 x (nI ((own E x).length + 1))).1 57 c = 0 := by rw [wr_ne _ (by decide), wr_eq]
      have k56 : ∀ k, k ≠ c → (wr (wr (wr u1 56 c 0) 57 c 0) 55 x (nI ((own E x).length + 1))).1 56 k = u.1 56 k := fun k hk => by rw [wr_ne _ (by decide), wr_ne _ (by decide), wr_nek _ hk, g2.1.2 56 (by decide)]
      have k57 : ∀ k, k ≠ c → (wr (wr (wr u1 56 c 0) 57 c 0) 55 x (nI ((own E x).length + 1))).1 57 k = u.1 57 k := fun k hk => by rw [wr_ne _ (by decide), wr_nek _ hk, wr_ne _ (by decide), g2.1.2 57 (by decide)]
      have k55 : ∀ k, k ≠ x → (wr (wr (wr u1 56 c 0) 57 c 0) 55 x (nI ((own E x).length + 1))).1 55 k = u.1 55 k := fun k hk => by rw [wr_nek _ hk, wr_ne _ (by decide), wr_ne _ (by decide), g2.1.2 55 (by decide)]
      have k55x : (wr (wr (wr u1 56 c 0) 57 c 0) 55 x (nI ((own E x).length + 1))).1 55 x = nI ((own E x).length + 1) := wr_eq _
      generalize wr (wr (wr u1 56 c 0) 57 c 0) 55 x (nI ((own E x).length + 1)) = u2 at f2 M2 z56 z57 k56 k57 k55 k55x ⊢
      obtain ⟨w, u3, m1, m2, m3, m4, m5, m6⟩ := l_mterm F hF hc 8 0 F (pbk l q) u2 (by omega) (by omega) M2
      rw [z56, z57, pbk_pk] at m2 m3 m4 m5
      rw [show nI 0 = 0 from rfl] at m1
      rw [m1, Option.bind_some, m2]
      refine ⟨_, u3, rfl, (g2.fn.tr f2).tr m6.fn, ?_⟩
      rw [if_neg (not_or.mpr ⟨hj, hn⟩)]
      refine ⟨rfl, m3, fun y hy => ?_⟩
      have e55 : u3.1 55 = u2.1 55 := m6.1.2 55 (by decide)
      by_cases hxy : x = y
      · subst hxy
        refine ⟨fun z => absurd (z.symm.trans hs) (by decide), fun _ => ?_⟩
        rw [own_same, List.length_append, List.length_singleton, e55, k55x]
        refine ⟨rfl, by omega, fun t o z ht => ?_⟩
        by_cases htl : t < (own E x).length
        · rw [List.getElem?_append_left htl] at ht
          rw [m6.2.2.1 _ (by omega), m6.2.2.2 _ (by omega), k56 _ (by omega), k57 _ (by omega)]
          exact e3 t o z ht
        · have : t = (own E x).length := by
            have := (List.getElem?_eq_some_iff.mp ht).1
            rw [List.length_append, List.length_singleton] at this
            omega
          subst this
          rw [List.getElem?_append_right (by omega), Nat.sub_self] at ht
          have ht2 : (litS l 8 (pbk l q) 0 0).2 = (o, z) := Option.some.inj ht
          rw [hcc, m4, m5, ht2]
          exact ⟨rfl, rfl⟩
      · rw [own_other _ hxy, e55, k55 y (fun z => hxy z.symm)]
        refine ⟨(hR y hy).1, fun hb => ?_⟩
        obtain ⟨i1, i2, i3⟩ := (hR y hy).2 hb
        refine ⟨i1, i2, fun t o z ht => ?_⟩
        have htl := (List.getElem?_eq_some_iff.mp ht).1
        rw [m6.2.2.1 _ (by omega), m6.2.2.2 _ (by omega), k56 _ (by omega), k57 _ (by omega)]
        exact i3 t o z ht
theorem litS_nb {l : List Nat} : ∀ (d p : Nat) (o z : Int32), pbk l p = p → pbk l (litS l d p o z).1 = (litS l d p o z).1
  | 0, p, o, z, h => h
  | d + 1, p, o, z, h => by
    unfold litS
    cases hj : ltr l p with
    | none => exact h
    | some j =>
      simp only
      by_cases q : bvN l (pbk l (p + 1)) = 39
      · rw [if_pos q]
        exact litS_nb d _ _ _ (pbk_pk _ _)
      · rw [if_neg q]
        exact litS_nb d _ _ _ (pbk_pk _ _)
theorem trmS_nb {l : List Nat} (x : Nat) : ∀ (d p : Nat) (E : EL), pbk l p = p → pbk l (trmS l x d p E).2.1 = (trmS l x d p E).2.1
  | 0, p, E, h => h
  | d + 1, p, E, h => by
    unfold trmS
    by_cases h1 : ltr l p = none
    · rw [if_pos h1]; exact h
    · rw [if_neg h1]
      by_cases h2 : ltr l (litS l 8 p 0 0).1 = none
      · rw [if_pos h2]
        by_cases h3 : bvN l (litS l 8 p 0 0).1 = 43
        · rw [if_pos h3]; exact trmS_nb x d _ _ (pbk_pk _ _)
        · rw [if_neg h3]; exact litS_nb 8 p 0 0 h
      · rw [if_neg h2]; exact litS_nb 8 p 0 0 h
theorem k_terms (F : Nat) (hF : 1000 ≤ F) {l : List Nat} {sg : Int32} {x : Nat} (hx : x < 12) (hs : bt sg x = true) : ∀ (d k q : Nat) (E : EL) (u : St), (own E x).length + d = 12 → d < k → MS l q u → MR E sg u → ∃ u', (Option.bind (f_X12_term F (nI x) u) (fun w35 => (if w35.1 = 0 then some ((0 : Int32), w35.2) else (Option.bind (l_X12_equation_156 F (nI x) k w35.2) (fun w46 => Sum.elim (fun r => some r) (fun v48 => some ((0 : Int32), v48)) w46))))) = some (b2i (trmS l x d (pbk l q) E).1, u') ∧ MS l (trmS l x d (pbk l q) E).2.1 u' ∧ FN u u' ∧ ((trmS l x d (pbk l q) E).1 = true → MR (trmS l x d (pbk l q) E).2.2 sg u')
  | d, 0, q, E, u, hd, hk, hM, hR => absurd hk (by omega)
  | d, k + 1, q, E, u, hd, hk, hM, hR => by
    obtain ⟨r, u1, g1, g2, g3⟩ := k_term F hF hx hM hR hs
    rw [g1, Option.bind_some]
    try dsimp only
    cases d with
    | zero =>
      rw [if_pos (Or.inr (by omega))] at g3
      rw [if_pos g3.1]
      exact ⟨u1, rfl, g3.2, g2, fun z => Bool.noConfusion z⟩
    | succ d =>
      unfold trmS
      by_cases hj : ltr l (pbk l q) = none
      · rw [if_pos (Or.inl hj)] at g3
        rw [if_pos g3.1, if_pos hj]
        exact ⟨u1, rfl, g3.2, g2, fun z => Bool.noConfusion z⟩
      · rw [if_neg (not_or.mpr ⟨hj, by omega⟩)] at g3
        obtain ⟨r1, r2, r3⟩ := g3
        rw [if_neg hj, r1]
        by_cases hn : ltr l (litS l 8 (pbk l q) 0 0).1 = none
        · rw [if_pos hn, if_neg (by simp [hn, b2i])]
          show ∃ u', (Option.bind (b_X12_equation_156 F (nI x) (l_X12_equation_156 F (nI x) k) u1) _) = _ ∧ _
          unfold b_X12_equation_156
          obtain ⟨u2, k1, k2, k3⟩ := k_look F hF r2
          have hnb := litS_nb 8 (pbk l q) 0 0 (pbk_pk l q)
          rw [hnb] at k1 k3
          rw [k1, Option.bind_some]
          try dsimp only
          by_cases hpl : bvN l (litS l 8 (pbk l q) 0 0).1 = 43
          · rw [if_pos hpl, if_pos hpl, k3.2.2.2.1, nI_1]
            have hlt := bvN_lt (by decide) hpl
            have f3 := FA.at' u2 (nI ((litS l 8 (pbk l q) 0 0).1 + 1))
            have M3 := k3.mv f3 (wr_eq _) (show (litS l 8 (pbk l q) 0 0).1 + 1 ≤ l.length by omega)
            obtain ⟨u4, m1, m2, m3, m4⟩ := k_terms F hF hx hs d k _ (E ++ [(x, (litS l 8 (pbk l q) 0 0).2)]) _ (by rw [own_same, List.length_append, List.length_singleton]; omega) (by omega) M3 ((r3.fa k2).fa f3)
            refine ⟨u4, ?_, m2, (g2.tr (k2.fn.tr f3.fn)).tr m3, m4⟩
            rw [← m1]
            cases f_X12_term F (nI x) (wr u2 50 12 (nI ((litS l 8 (pbk l q) 0 0).1 + 1))) with
            | none => rfl
            | some w =>
              rw [Option.bind_some, Option.bind_some]
              by_cases hw : w.1 = 0
              · rw [if_pos hw, if_pos hw]; rfl
              · rw [if_neg hw, if_neg hw]
          · rw [if_neg hpl, if_neg hpl]
            exact ⟨u2, rfl, k3, g2.tr k2.fn, fun _ => r3.fa k2⟩
        · rw [if_neg hn, if_pos (by simp [hn, b2i])]
          exact ⟨u1, rfl, r2, g2, fun z => Bool.noConfusion z⟩
