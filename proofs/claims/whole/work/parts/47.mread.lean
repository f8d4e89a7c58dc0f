/-! the model's reader -/
def MS (l : List Nat) (q : Nat) (u : St) : Prop := l.length ≤ 300 ∧ (∀ b ∈ l, 1 ≤ b ∧ b < 256) ∧ TM l u ∧ u.1 50 12 = nI q ∧ q ≤ l.length
/-- only the model's place in the text has changed -/
def FA (u v : St) : Prop := Fr [50] u v ∧ ∀ k, k ≠ 12 → v.1 50 k = u.1 50 k
theorem FA.rf (u : St) : FA u u := ⟨Fr.rf _ _, fun _ _ => rfl⟩
theorem FA.tr {u v w : St} (h : FA u v) (g : FA v w) : FA u w := ⟨h.1.tr g.1, fun k hk => (g.2 k hk).trans (h.2 k hk)⟩
theorem FA.at' (u : St) (x : Int32) : FA u (wr u 50 12 x) := ⟨(Fr.rf _ u).w (by decide), fun k hk => wr_nek _ hk⟩
theorem MS.mv {l : List Nat} {p q : Nat} {u v : St} (h : MS l p u) (hf : FA u v) (h3 : v.1 50 12 = nI q) (hq : q ≤ l.length) : MS l q v := ⟨h.1, h.2.1, h.2.2.1.fr (hf.2 2 (by decide)) (hf.1.2 51 (by decide)), h3, hq⟩
theorem by8 : (List.range 256).all (fun b => decide ((nI b).toInt8.toInt32 &&& 255 = nI b) && (decide ((nI b).toInt8.toInt32 = 32) == decide (b = 32)) && (!decide (b < 128) || decide ((nI b).toInt8.toInt32 = nI b))) = true := by decide +kernel
theorem by8' {b : Nat} (h : b < 256) : (nI b).toInt8.toInt32 &&& 255 = nI b ∧ ((nI b).toInt8.toInt32 = 32 ↔ b = 32) ∧ (b < 128 → (nI b).toInt8.toInt32 = nI b) := by
  have := List.all_eq_true.mp by8 b (List.mem_range.mpr h)
  simp only [Bool.and_eq_true, decide_eq_true_eq, beq_iff_eq, Bool.or_eq_true, Bool.not_eq_true', decide_eq_false_iff_not, decide_eq_decide] at this
  exact ⟨this.1.1, this.1.2, fun q => this.2.resolve_left (fun z => z q)⟩
theorem l_look (F : Nat) {l : List Nat} : ∀ (d q k : Nat) (u : St), l.length - q = d → d < k → MS l q u → ∃ u', l_X12_look_0 F k u = some u' ∧ FA u u' ∧ u'.1 50 12 = nI (pbD l d q)
  | d, q, 0, _, _, hk, _ => absurd hk (by omega)
  | d, q, k + 1, u, hd, hk, hM => by
    obtain ⟨h1, h2, h3, h4, h5⟩ := id hM
    show ∃ u', b_X12_look_0 F (l_X12_look_0 F k) u = _ ∧ _
    unfold b_X12_look_0
    rw [h3.1, h4]
    cases d with
    | zero =>
      rw [if_pos (nI_le (by omega) (by omega))]
      exact ⟨u, rfl, FA.rf u, h4⟩
    | succ d =>
      obtain ⟨b, hb⟩ : ∃ b, l[q]? = some b := ⟨_, List.getElem?_eq_getElem (show q < l.length by omega)⟩
      have hb2 := h2 b (List.mem_of_getElem? hb)
      rw [if_neg (nI_ge (by omega) (by omega)), nI_clamp (by omega), if_neg (gin (show q < 300 by omega) (by decide)), h3.2 q b hb, nI_1]
      unfold pbD
      by_cases hc : b = 32
      · rw [if_pos ((by8' hb2.2).2.1.mpr hc), if_pos (by rw [hb, hc])]
        obtain ⟨u', g1, g2, g3⟩ := l_look F d (q + 1) k (wr u 50 12 (nI (q + 1))) (by omega) (by omega) (hM.mv (FA.at' u _) (wr_eq _) (by omega))
        exact ⟨u', g1, (FA.at' u _).tr g2, g3⟩
      · rw [if_neg (fun z => hc ((by8' hb2.2).2.1.mp z)), if_neg (by rw [hb]; simpa using hc)]
        exact ⟨u, rfl, FA.rf u, h4⟩
theorem k_look (F : Nat) (hF : 1000 ≤ F) {l : List Nat} {q : Nat} {u : St} (hM : MS l q u) : ∃ u', f_X12_look F u = some (bvN l (pbk l q), u') ∧ FA u u' ∧ MS l (pbk l q) u' := by
  obtain ⟨h1, h2, h3, h4, h5⟩ := id hM
  obtain ⟨u', g1, g2, g3⟩ := l_look F (l.length - q) q F u rfl (by omega) hM
  have hp := pbk_le h5
  have M2 : MS l (pbk l q) u' := hM.mv g2 g3 hp
  refine ⟨u', ?_, g2, M2⟩
  unfold f_X12_look
  rw [g1, Option.bind_some, M2.2.2.1.1, M2.2.2.2.1]
  by_cases q2 : l.length ≤ pbk l q
  · rw [if_pos (nI_le q2 (by omega)), bvN_out q2]
  · obtain ⟨b, hb⟩ : ∃ b, l[pbk l q]? = some b := ⟨_, List.getElem?_eq_getElem (show pbk l q < l.length by omega)⟩
    have hb2 := h2 b (List.mem_of_getElem? hb)
    rw [if_neg (nI_ge (by omega) (by omega)), nI_clamp (by omega), if_neg (gin (show pbk l q < 300 by omega) (by decide)), M2.2.2.1.2 _ b hb, (by8' hb2.2).1, bvN_in hb]
theorem k_let (F : Nat) {l : List Nat} {p : Nat} (hb : ∀ b ∈ l, b < 256) (u : St) : f_X12_isLetter F (bvN l p) u = some (b2i (decide (ltr l p ≠ none)), u) := by
  unfold f_X12_isLetter bvN ltr
  cases h : l[p]? with
  | none => rw [if_pos (by decide)]; rfl
  | some b =>
    have hb2 := hb b (List.mem_of_getElem? h)
    simp only
    rw [show (97 : Int32) = nI 97 from rfl, show (109 : Int32) = nI 109 from rfl]
    by_cases h1 : b < 97
    · have e : ¬ (97 ≤ b ∧ b < 109) := by omega
      rw [if_pos (nI_lt h1 (by decide))]
      simp [e, b2i]
    · rw [if_neg (nI_nlt (by omega) (by omega))]
      by_cases h2 : 109 ≤ b
      · have e : ¬ (97 ≤ b ∧ b < 109) := by omega
        rw [if_pos (nI_le h2 (by omega))]
        simp [e, b2i]
      · have e : 97 ≤ b ∧ b < 109 := by omega
        rw [if_neg (nI_ge (by omega) (by decide))]
        simp [e, b2i]
theorem ltr_b {l : List Nat} {p j : Nat} (h : ltr l p = some j) : l[p]? = some (j + 97) ∧ bvN l p = nI (j + 97) := by
  unfold ltr at h
  cases hb : l[p]? with
  | none => rw [hb] at h; cases h
  | some b =>
    rw [hb] at h
    simp only at h
    by_cases q : 97 ≤ b ∧ b < 109
    · rw [if_pos q] at h
      cases h
      have e : b - 97 + 97 = b := by omega
      exact ⟨by rw [e], by rw [bvN_in hb, e]⟩
    · rw [if_neg q] at h; cases h
theorem MS.b256 {l : List Nat} {q : Nat} {u : St} (h : MS l q u) : ∀ b ∈ l, b < 256 := fun b hb => (h.2.1 b hb).2
/-- the model's reader writes a term's two sets -/
def FT (c : Nat) (u v : St) : Prop := Fr [50, 56, 57] u v ∧ (∀ k, k ≠ 12 → v.1 50 k = u.1 50 k) ∧ (∀ k, k ≠ c → v.1 56 k = u.1 56 k) ∧ ∀ k, k ≠ c → v.1 57 k = u.1 57 k
theorem FA.ft {c : Nat} {u v : St} (h : FA u v) : FT c u v := ⟨h.1.mono (by simp), h.2, fun k _ => by rw [h.1.2 56 (by decide)], fun k _ => by rw [h.1.2 57 (by decide)]⟩
theorem FT.tr {c : Nat} {u v w : St} (h : FT c u v) (g : FT c v w) : FT c u w := ⟨h.1.tr g.1, fun k hk => (g.2.1 k hk).trans (h.2.1 k hk), fun k hk => (g.2.2.1 k hk).trans (h.2.2.1 k hk), fun k hk => (g.2.2.2 k hk).trans (h.2.2.2 k hk)⟩
theorem MS.ft {l : List Nat} {q r c : Nat} {u v : St} (h : MS l q u) (hf : FT c u v) (h3 : v.1 50 12 = nI r) (hr : r ≤ l.length) : MS l r v := ⟨h.1, h.2.1, h.2.2.1.fr (hf.2.1 2 (by decide)) (hf.1.2 51 (by decide)), h3, hr⟩
theorem l_mterm (F : Nat) (hF : 1000 ≤ F) {l : List Nat} {c : Nat} (hc : c < 144) : ∀ (d i k q : Nat) (u : St), i + d = 8 → d < k → MS l q u → ∃ w u', l_X12_term_61 F (nI c) k (nI i) u = some w ∧ Sum.elim (fun r => some r) (fun v37 => some ((1 : Int32), v37.2)) w = some (b2i (decide (ltr l (litS l d (pbk l q) (u.1 56 c) (u.1 57 c)).1 = none)), u') ∧ MS l (litS l d (pbk l q) (u.1 56 c) (u.1 57 c)).1 u' ∧ u'.1 56 c = (litS l d (pbk l q) (u.1 56 c) (u.1 57 c)).2.1 ∧ u'.1 57 c = (litS l d (pbk l q) (u.1 56 c) (u.1 57 c)).2.2 ∧ FT c u u'
  | d, i, 0, _, _, _, hk, _ => absurd hk (by omega)
  | d, i, k + 1, q, u, hd, hk, hM => by
    show ∃ w u', b_X12_term_61 F (nI c) (l_X12_term_61 F (nI c) k) _ u = _ ∧ _
    unfold b_X12_term_61
    obtain ⟨u1, g1, g2, g3⟩ := k_look F hF hM
    have e56 : u1.1 56 = u.1 56 := g2.1.2 56 (by decide)
    have e57 : u1.1 57 = u.1 57 := g2.1.2 57 (by decide)
    rw [g1, Option.bind_some]
    try dsimp only
    rw [k_let F hM.b256, Option.bind_some]
    try dsimp only
    have hple := g3.2.2.2.2
    have hl300 := hM.1
    cases hj : ltr l (pbk l q) with
    | none =>
      have hlit : litS l d (pbk l q) (u.1 56 c) (u.1 57 c) = (pbk l q, u.1 56 c, u.1 57 c) := by
        cases d with
        | zero => rfl
        | succ d => unfold litS; rw [hj]
      rw [if_pos (by simp [b2i]), hlit]
      exact ⟨_, u1, rfl, by simp [hj, b2i], g3, by rw [e56], by rw [e57], g2.ft⟩
    | some j =>
      obtain ⟨hj12, hp⟩ := ltr_lt hj
      obtain ⟨hb1, hb2⟩ := ltr_b hj
      rw [if_neg (by simp [b2i])]
      cases d with
      | zero =>
        rw [if_pos (show nI i = 8 by rw [show i = 8 by omega]; rfl)]
        exact ⟨_, u1, rfl, by simp [litS, hj, b2i], g3, by rw [e56]; rfl, by rw [e57]; rfl, g2.ft⟩
      | succ d =>
        rw [if_neg (show ¬ nI i = 8 from fun z => by have := nI_inj (b := 8) (by omega) (by decide) z; omega), g3.2.2.2.1, nI_clamp (by omega), if_neg (gin (show pbk l q < 300 by omega) (by decide)), nI_1, nI_1]
        have M2 : MS l (pbk l q + 1) (wr u1 50 12 (nI (pbk l q + 1))) := g3.mv (FA.at' _ _) (wr_eq _) (by omega)
        obtain ⟨u2, k1, k2, k3⟩ := k_look F hF M2
        have f12 : FA u u2 := g2.tr ((FA.at' u1 _).tr k2)
        have hbit : (1 : Int32) <<< ((u1.1 51 (pbk l q) - (97 : Int32)) &&& 31) = bitI j := by
          unfold bitI
          rw [g3.2.2.1.2 _ _ hb1, (by8' (b := j + 97) (by omega)).2.2 (by omega), show (97 : Int32) = nI 97 from rfl, pk_sub (by omega), show j + 97 - 97 = j by omega]
        rw [k1, Option.bind_some]
        try dsimp only
        rw [hbit, nI_clamp (by omega)]
        have h256 : u2.1 56 = u.1 56 := f12.1.2 56 (by decide)
        have h257 : u2.1 57 = u.1 57 := f12.1.2 57 (by decide)
        by_cases hq : bvN l (pbk l (pbk l q + 1)) = 39
        · have hlit : litS l (d + 1) (pbk l q) (u.1 56 c) (u.1 57 c) = litS l d (pbk l (pbk l (pbk l q + 1) + 1)) (u.1 56 c) (u.1 57 c ||| bitI j) := by
            conv => lhs; unfold litS
            rw [hj]
            simp only
            rw [if_pos hq]
          rw [hlit, if_pos hq, if_neg (gin hc (by decide)), if_neg (gin hc (by decide))]
          have hlt := bvN_lt (by decide) hq
          rw [k3.2.2.2.1, nI_1, wr_ne _ (show (57 : Nat) ≠ 50 by decide), h257]
          have fz : FT c u2 (wr (wr u2 50 12 (nI (pbk l (pbk l q + 1) + 1))) 57 c (u.1 57 c ||| bitI j)) := ⟨((Fr.rf _ u2).w (by decide)).w (by decide), fun k hk => by rw [wr_ne _ (by decide), wr_nek _ hk], fun k _ => by rw [wr_ne _ (by decide), wr_ne _ (by decide)], fun k hk => by rw [wr_nek _ hk, wr_ne _ (by decide)]⟩
          have M4 := k3.ft fz (r := pbk l (pbk l q + 1) + 1) (by rw [wr_ne _ (by decide), wr_eq]) (by omega)
          obtain ⟨w, u3, m1, m2, m3, m4, m5, m6⟩ := l_mterm F hF hc d (i + 1) k _ _ (by omega) (by omega) M4
          rw [wr_eq, wr_ne _ (show (56 : Nat) ≠ 57 by decide), wr_ne _ (show (56 : Nat) ≠ 50 by decide), h256] at m2 m3 m4 m5
          exact ⟨w, u3, m1, m2, m3, m4, m5, (f12.ft.tr fz).tr m6⟩
        · have hlit : litS l (d + 1) (pbk l q) (u.1 56 c) (u.1 57 c) = litS l d (pbk l (pbk l q + 1)) (u.1 56 c ||| bitI j) (u.1 57 c) := by
            conv => lhs; unfold litS
            rw [hj]
            simp only
            rw [if_neg hq]
          rw [hlit, if_neg hq, if_neg (gin hc (by decide)), if_neg (gin hc (by decide)), h256]
          have fz : FT c u2 (wr u2 56 c (u.1 56 c ||| bitI j)) := ⟨(Fr.rf _ u2).w (by decide), fun k _ => by rw [wr_ne _ (by decide)], fun k hk => wr_nek _ hk, fun k _ => by rw [wr_ne _ (by decide)]⟩
          have M4 := k3.ft fz (r := pbk l (pbk l q + 1)) (by rw [wr_ne _ (by decide)]; exact k3.2.2.2.1) k3.2.2.2.2
          obtain ⟨w, u3, m1, m2, m3, m4, m5, m6⟩ := l_mterm F hF hc d (i + 1) k _ _ (by omega) (by omega) M4
          rw [wr_eq, wr_ne _ (show (57 : Nat) ≠ 56 by decide), h257, pbk_pk] at m2 m3 m4 m5
          exact ⟨w, u3, m1, m2, m3, m4, m5, (f12.ft.tr fz).tr m6⟩
