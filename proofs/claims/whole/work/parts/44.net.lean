/-! the net of nodes and arcs, as both sides hold it -/
def ArK (u : St) (n j : Nat) : Prop := ∃ a b t, a < n ∧ b < n ∧ t ≤ 9 ∧ u.1 24 j = nI a ∧ u.1 67 j = nI a ∧ u.1 25 j = nI b ∧ u.1 68 j = nI b ∧ u.1 26 j = nI t ∧ u.1 69 j = nI t
def NdK (u : St) (i : Nat) : Prop := ∃ d, d ≤ 100 ∧ u.1 23 i = nI d ∧ u.1 66 i = nI d
def NtB (u : St) (n m : Nat) : Prop := n ≤ 10 ∧ m ≤ 20 ∧ u.1 22 4 = nI n ∧ u.1 50 24 = nI n ∧ u.1 22 5 = nI m ∧ u.1 50 25 = nI m ∧ (∀ i, i < n → NdK u i) ∧ ∀ j, j < m → ArK u n j
/-- what a change of the net leaves -/
def NtF (u v : St) : Prop := Fr [22, 23, 24, 25, 26, 27, 33, 50, 66, 67, 68, 69] u v ∧ v.1 27 6 = 0 ∧ v.1 27 8 = 0 ∧ v.1 33 5 = 0 ∧ (∀ k, k ≠ 6 → k ≠ 8 → v.1 27 k = u.1 27 k) ∧ (∀ k, k ≠ 5 → v.1 33 k = u.1 33 k) ∧ ∀ k, k ≠ 0 → k ≠ 24 → k ≠ 25 → v.1 50 k = u.1 50 k
def fgR (u : St) : St := wr (wr (wr u 27 6 0) 27 8 0) 33 5 0
theorem p_fgR (F : Nat) (u : St) : f_X11_forgetRings F u = some (fgR u) := rfl
theorem fgR_o (u : St) {q : Nat} (h1 : q ≠ 27) (h2 : q ≠ 33) : (fgR u).1 q = u.1 q := by
  unfold fgR
  rw [wr_ne _ h2, wr_ne _ h1, wr_ne _ h1]
theorem NtF.of {u w v : St} (hw : v = fgR w) (hf : Fr [22, 23, 24, 25, 26] u w) {x : St} (hx : Fr [50, 66, 67, 68, 69] v x) (hk : ∀ k, k ≠ 0 → k ≠ 24 → k ≠ 25 → x.1 50 k = v.1 50 k) : NtF u x := by
  subst hw
  have e27 : ∀ k, x.1 27 k = (fgR w).1 27 k := fun k => by rw [hx.2 27 (by decide)]
  have e33 : ∀ k, x.1 33 k = (fgR w).1 33 k := fun k => by rw [hx.2 33 (by decide)]
  refine ⟨?_, ?_, ?_, ?_, fun k h6 h8 => ?_, fun k h5 => ?_, fun k a b c => ?_⟩
  · refine (hf.mono (by intro q hq; simp at hq ⊢; omega)).tr ?_
    refine Fr.tr (v := fgR w) ?_ (hx.mono (by intro q hq; simp at hq ⊢; omega))
    unfold fgR
    exact (((Fr.rf _ w).w (by decide)).w (by decide)).w (by decide)
  · rw [e27]; unfold fgR; rw [wr_ne _ (by decide), wr_nek _ (by decide), wr_eq]
  · rw [e27]; unfold fgR; rw [wr_ne _ (by decide), wr_eq]
  · rw [e33]; unfold fgR; rw [wr_eq]
  · rw [e27]; unfold fgR; rw [wr_ne _ (by decide), wr_nek _ h8, wr_nek _ h6, hf.2 27 (by decide)]
  · rw [e33]; unfold fgR; rw [wr_nek _ h5, wr_ne _ (by decide), wr_ne _ (by decide), hf.2 33 (by decide)]
  · rw [hk k a b c, fgR_o _ (by decide) (by decide), hf.2 50 (by decide)]
theorem NtB.no {u w x : St} {n m : Nat} (h : NtB u n m) (hw : w = fgR u) (hx : x = wr w 50 0 0) : NtB x n m ∧ NtF u x := by
  subst hw
  subst hx
  have fx : Fr [50, 66, 67, 68, 69] (fgR u) (wr (fgR u) 50 0 0) := (Fr.rf _ _).w (by decide)
  refine ⟨?_, NtF.of rfl (Fr.rf _ u) fx (fun k h0 _ _ => wr_nek _ h0)⟩
  have e : ∀ q, q ≠ 50 → q ≠ 27 → q ≠ 33 → (wr (fgR u) 50 0 0).1 q = u.1 q := fun q h1 h2 h3 => by rw [wr_ne _ h1, fgR_o _ h2 h3]
  have e50 : ∀ k, k ≠ 0 → (wr (fgR u) 50 0 0).1 50 k = u.1 50 k := fun k h0 => by rw [wr_nek _ h0, fgR_o _ (by decide) (by decide)]
  obtain ⟨h1, h2, h3, h4, h5, h6, h7, h8⟩ := h
  refine ⟨h1, h2, by rw [e 22 (by decide) (by decide) (by decide)]; exact h3, by rw [e50 24 (by decide)]; exact h4, by rw [e 22 (by decide) (by decide) (by decide)]; exact h5, by rw [e50 25 (by decide)]; exact h6, fun i hi => ?_, fun j hj => ?_⟩
  · unfold NdK
    rw [e 23 (by decide) (by decide) (by decide), e 66 (by decide) (by decide) (by decide)]
    exact h7 i hi
  · unfold ArK
    rw [e 24 (by decide) (by decide) (by decide), e 25 (by decide) (by decide) (by decide), e 26 (by decide) (by decide) (by decide), e 67 (by decide) (by decide) (by decide), e 68 (by decide) (by decide) (by decide), e 69 (by decide) (by decide) (by decide)]
    exact h8 j hj
theorem isIn_in (F : Nat) {n : Nat} {lo hi : Nat} (h1 : lo ≤ n) (h2 : n ≤ hi) (hh : hi < 2 ^ 31) (u : St) : f_X12_isIn F (nI n) (nI lo) (nI hi) u = some (1, u) := by
  unfold f_X12_isIn
  rw [if_neg (nI_nlt h1 (by omega)), if_neg (nI_nlt h2 (by omega))]
theorem isIn_out (F : Nat) {x : Int32} {hi : Nat} (hh : hi < 2 ^ 30) (h : ∀ n, n ≤ hi → x ≠ nI n) (u : St) : f_X12_isIn F x 0 (nI hi) u = some (0, u) := by
  unfold f_X12_isIn
  rcases wl_ix x with q | ⟨j, hj, rfl⟩
  · rw [if_pos q]
  · rw [if_neg (nI_pos hj)]
    by_cases hl : j ≤ hi
    · exact absurd rfl (h j hl)
    · rw [if_pos (nI_lt (by omega) hj)]
theorem le_ix (x : Int32) {n : Nat} (hn : n < 2 ^ 30) : (∃ j : Nat, j ≤ n ∧ x = nI j) ∨ ∀ j, j ≤ n → x ≠ nI j := by
  by_cases h : ∃ j : Nat, j ≤ n ∧ x = nI j
  · exact Or.inl h
  · exact Or.inr (fun j hj e => h ⟨j, hj, e⟩)
theorem out_cl {x : Int32} {n : Nat} (hn : n < 2 ^ 30) (h : ∀ j, j ≤ n → x ≠ nI j) : x < 0 ∨ (¬ x < 0 ∧ nI n < x) := by
  rcases wl_ix x with q | ⟨j, hj, rfl⟩
  · exact Or.inl q
  · refine Or.inr ⟨nI_pos hj, nI_lt ?_ hj⟩
    rcases Nat.lt_or_ge n j with z | z
    · exact z
    · exact absurd rfl (h j z)
/-- promise 20 -/
theorem op_node (F : Nat) {u : St} {n m : Nat} (h : NtB u n m) (x : Int32) : ∃ r u1 u2 n', f_X11_node F x u = some (r, u1) ∧ f_X12_node F x u1 = some (r, u2) ∧ NtB u2 n' m ∧ NtF u u2 := by
  obtain ⟨h1, h2, h3, h4, h5, h6, h7, h8⟩ := id h
  unfold f_X11_node f_X12_node f_X4_addNode
  rw [h3, show (10 : Int32) = nI 10 from rfl, show (100 : Int32) = nI 100 from rfl]
  have e24 : ∀ v : St, v.1 50 = u.1 50 → (wr v 50 0 0).1 50 24 = nI n := fun v hv => by rw [wr_nek _ (by decide), hv, h4]
  have bad : f_X12_node F x (fgR u) = some (-1, wr (fgR u) 50 0 0) → ∃ r u1 u2 n', (Option.bind (some ((-1 : Int32), u)) (fun w4 => (Option.bind (f_X11_forgetRings F w4.2) (fun u5 => some (w4.1, u5))))) = some (r, u1) ∧ f_X12_node F x u1 = some (r, u2) ∧ NtB u2 n' m ∧ NtF u u2 := fun hm => ⟨-1, fgR u, wr (fgR u) 50 0 0, n, rfl, hm, h.no rfl rfl⟩
  have fo : (fgR u).1 50 = u.1 50 := fgR_o _ (by decide) (by decide)
  by_cases hn : n = 10
  · rw [if_pos (nI_le (by omega) (by omega))]
    refine bad ?_
    unfold f_X12_node
    rw [e24 _ fo, if_pos (by rw [hn]; rfl)]
  · rw [if_neg (nI_ge (show n < 10 by omega) (by decide))]
    have hne : ¬ nI n = (10 : Int32) := fun q => hn (nI_inj (by omega) (by decide) q)
    rcases le_ix x (n := 100) (by decide) with ⟨d, hd, rfl⟩ | hx
    · rw [if_neg (nI_pos (by omega)), if_pos (nI_le hd (by decide)), nI_clamp (by omega), if_neg (gin (show n < 10 by omega) (by decide)), wr_ne _ (show (22 : Nat) ≠ 23 by decide), h3, wr_eq, nI_1, nI_pred]
      simp only [Option.bind_some]
      rw [p_fgR]
      simp only [Option.bind_some]
      generalize hw : wr (wr u 23 n (nI d)) 22 4 (nI (n + 1)) = w
      have fw : Fr [22, 23, 24, 25, 26] u w := by rw [← hw]; exact ((Fr.rf _ u).w (by decide)).w (by decide)
      have f50 : (fgR w).1 50 = u.1 50 := by rw [fgR_o _ (by decide) (by decide), fw.2 50 (by decide)]
      refine ⟨nI n, fgR w, wr (wr (wr (fgR w) 50 0 0) 66 n (nI d)) 50 24 (nI (n + 1)), n + 1, rfl, ?_, ⟨by omega, h2, ?_, ?_, ?_, ?_, ?_, ?_⟩, ?_⟩
      · rw [e24 _ f50, if_neg (show ¬ nI n = nI 10 from hne), show (0 : Int32) = nI 0 from rfl, isIn_in F (Nat.zero_le d) hd (by decide)]
        simp only [Option.bind_some]
        rw [if_neg (by decide), show nI 0 = (0 : Int32) from rfl, e24 _ f50, nI_clamp (by omega), if_neg (gin (show n < 10 by omega) (by decide)), wr_ne _ (show (50 : Nat) ≠ 66 by decide), e24 _ f50, wr_eq, nI_1, nI_pred]
      · rw [wr_ne _ (by decide), wr_ne _ (by decide), wr_ne _ (by decide), fgR_o _ (by decide) (by decide), ← hw, wr_eq]
      · rw [wr_eq]
      · rw [wr_ne _ (by decide), wr_ne _ (by decide), wr_ne _ (by decide), fgR_o _ (by decide) (by decide), ← hw, wr_nek _ (by decide), wr_ne _ (by decide)]
        exact h5
      · rw [wr_nek _ (by decide), wr_ne _ (by decide), wr_nek _ (by decide), f50]
        exact h6
      · intro i hi
        unfold NdK
        rw [wr_ne _ (show (23 : Nat) ≠ 50 by decide), wr_ne _ (show (23 : Nat) ≠ 66 by decide), wr_ne _ (show (23 : Nat) ≠ 50 by decide), wr_ne _ (show (66 : Nat) ≠ 50 by decide), fgR_o _ (by decide) (by decide), ← hw, wr_ne _ (show (23 : Nat) ≠ 22 by decide)]
        by_cases hin : i = n
        · subst hin
          rw [wr_eq, wr_eq]
          exact ⟨d, hd, rfl, rfl⟩
        · rw [wr_nek _ hin, wr_nek _ hin, wr_ne _ (show (66 : Nat) ≠ 50 by decide), fgR_o _ (by decide) (by decide), wr_ne _ (by decide), wr_ne _ (by decide)]
          exact h7 i (by omega)
      · intro j hj
        obtain ⟨a, b, t, q1, q2, q3⟩ := h8 j hj
        have ee : ∀ q, q ≠ 50 → q ≠ 66 → q ≠ 27 → q ≠ 33 → q ≠ 22 → q ≠ 23 → (wr (wr (wr (fgR w) 50 0 0) 66 n (nI d)) 50 24 (nI (n + 1))).1 q = u.1 q := fun q z1 z2 z3 z4 z5 z6 => by
          rw [wr_ne _ z1, wr_ne _ z2, wr_ne _ z1, fgR_o _ z3 z4, ← hw, wr_ne _ z5, wr_ne _ z6]
        refine ⟨a, b, t, by omega, by omega, ?_⟩
        rw [ee 24 (by decide) (by decide) (by decide) (by decide) (by decide) (by decide), ee 25 (by decide) (by decide) (by decide) (by decide) (by decide) (by decide), ee 26 (by decide) (by decide) (by decide) (by decide) (by decide) (by decide), ee 67 (by decide) (by decide) (by decide) (by decide) (by decide) (by decide), ee 68 (by decide) (by decide) (by decide) (by decide) (by decide) (by decide), ee 69 (by decide) (by decide) (by decide) (by decide) (by decide) (by decide)]
        exact q3
      · exact NtF.of rfl fw (((((Fr.rf _ _).w (by decide)).w (by decide)).w (by decide))) (fun k z0 z1 z2 => by rw [wr_nek _ z1, wr_ne _ (by decide), wr_nek _ z0])
    · have hm : f_X12_node F x (fgR u) = some (-1, wr (fgR u) 50 0 0) := by
        unfold f_X12_node
        rw [e24 _ fo, if_neg hne, show (100 : Int32) = nI 100 from rfl, isIn_out F (by decide) hx]
        rfl
      rcases out_cl (by decide) hx with q | ⟨q1, q2⟩
      · rw [if_pos q]
        exact bad hm
      · rw [if_neg q1, if_neg (fun z => absurd q2 (Int32.not_lt.mpr z))]
        exact bad hm
/-- promise 23 -/
theorem op_clear (F : Nat) {u : St} {n m : Nat} (h : NtB u n m) : ∃ u1 u2, f_X11_clear F u = some u1 ∧ f_X12_clear F u1 = some u2 ∧ NtB u2 0 0 ∧ NtF u u2 := by
  have fw : Fr [22, 23, 24, 25, 26] u (wr (wr u 22 4 0) 22 5 0) := ((Fr.rf _ u).w (by decide)).w (by decide)
  refine ⟨fgR (wr (wr u 22 4 0) 22 5 0), wr (wr (wr (fgR (wr (wr u 22 4 0) 22 5 0)) 50 0 0) 50 24 0) 50 25 0, rfl, rfl, ⟨by omega, by omega, ?_, ?_, ?_, ?_, fun i hi => by omega, fun j hj => by omega⟩, ?_⟩
  · rw [wr_ne _ (by decide), wr_ne _ (by decide), wr_ne _ (by decide), fgR_o _ (by decide) (by decide), wr_nek _ (by decide), wr_eq]; rfl
  · rw [wr_nek _ (by decide), wr_eq]; rfl
  · rw [wr_ne _ (by decide), wr_ne _ (by decide), wr_ne _ (by decide), fgR_o _ (by decide) (by decide), wr_eq]; rfl
  · rw [wr_eq]; rfl
  · exact NtF.of rfl fw ((((Fr.rf _ _).w (by decide)).w (by decide)).w (by decide)) (fun k z0 z1 z2 => by rw [wr_nek _ z2, wr_nek _ z1, wr_nek _ z0])
theorem tk_in (F : Nat) {t : Nat} (h : t ≤ 9) (u : St) : f_X4_isTokens F (nI t) u = some (1, u) := by
  unfold f_X4_isTokens
  rw [if_neg (nI_pos (by omega)), show (9 : Int32) = nI 9 from rfl, if_neg (nI_nlt h (by decide))]
theorem tk_out (F : Nat) {x : Int32} (h : ∀ j, j ≤ 9 → x ≠ nI j) (u : St) : f_X4_isTokens F x u = some (0, u) := by
  unfold f_X4_isTokens
  rcases out_cl (by decide) h with q | ⟨q1, q2⟩
  · rw [if_pos q]
  · rw [if_neg q1, show (9 : Int32) = nI 9 from rfl, if_pos q2]
theorem lt_ix (x : Int32) {n : Nat} (hn : n < 2 ^ 30) : (∃ j : Nat, j < n ∧ x = nI j) ∨ ∀ j, j < n → x ≠ nI j := by
  by_cases h : ∃ j : Nat, j < n ∧ x = nI j
  · exact Or.inl h
  · exact Or.inr (fun j hj e => h ⟨j, hj, e⟩)
theorem nd_in (F : Nat) {u : St} {n a : Nat} (hn : n < 2 ^ 30) (h : u.1 22 4 = nI n) (ha : a < n) : f_X4_isNode F (nI a) u = some (1, u) := by
  unfold f_X4_isNode
  rw [if_neg (nI_pos (by omega)), h, if_neg (nI_ge ha (by omega))]
theorem nd_out (F : Nat) {u : St} {n : Nat} {x : Int32} (h : u.1 22 4 = nI n) (ha : ∀ j, j < n → x ≠ nI j) : f_X4_isNode F x u = some (0, u) := by
  unfold f_X4_isNode
  rcases wl_ix x with q | ⟨j, hj, rfl⟩
  · rw [if_pos q]
  · rw [if_neg (nI_pos hj), h]
    by_cases hl : n ≤ j
    · rw [if_pos (nI_le hl hj)]
    · exact absurd rfl (ha j (by omega))
/-- the model's 'at least 0, at most n - 1' -/
theorem isIn_lt (F : Nat) {n a : Nat} (hn : n < 2 ^ 30) (ha : a < n) (u : St) : f_X12_isIn F (nI a) 0 (nI n - 1) u = some (1, u) := by
  rw [show nI n - (1 : Int32) = nI (n - 1) by rw [show (1 : Int32) = nI 1 from rfl, pk_sub (by omega)], show (0 : Int32) = nI 0 from rfl]
  exact isIn_in F (Nat.zero_le _) (by omega) (by omega) u
theorem isIn_nlt (F : Nat) {n : Nat} {x : Int32} (hn : n < 2 ^ 30) (h : ∀ j, j < n → x ≠ nI j) (u : St) : f_X12_isIn F x 0 (nI n - 1) u = some (0, u) := by
  unfold f_X12_isIn
  rcases wl_ix x with q | ⟨j, hj, rfl⟩
  · rw [if_pos q]
  · rw [if_neg (nI_pos hj), if_pos]
    have hnj : n ≤ j := by
      rcases Nat.lt_or_ge j n with z | z
      · exact absurd rfl (h j z)
      · exact z
    apply Int32.lt_iff_toInt_lt.mpr
    rw [show (1 : Int32) = nI 1 from rfl, pk_sub_toInt hn (by decide), nI_toInt hj]
    omega
/-- promise 22 -/
theorem op_tokens (F : Nat) {u : St} {n m : Nat} (h : NtB u n m) (x y : Int32) : ∃ r u1 u2, f_X11_tokens F x y u = some (r, u1) ∧ f_X12_tokens F x y u1 = some (r, u2) ∧ NtB u2 n m ∧ NtF u u2 := by
  obtain ⟨h1, h2, h3, h4, h5, h6, h7, h8⟩ := id h
  have e25 : ∀ v : St, v.1 50 = u.1 50 → (wr v 50 0 0).1 50 25 = nI m := fun v hv => by rw [wr_nek _ (by decide), hv, h6]
  have fo : (fgR u).1 50 = u.1 50 := fgR_o _ (by decide) (by decide)
  have bad : f_X4_putTokens F x y u = some (0, u) → f_X12_tokens F x y (fgR u) = some (0, wr (fgR u) 50 0 0) → ∃ r u1 u2, f_X11_tokens F x y u = some (r, u1) ∧ f_X12_tokens F x y u1 = some (r, u2) ∧ NtB u2 n m ∧ NtF u u2 := fun hp hm => ⟨0, fgR u, wr (fgR u) 50 0 0, by unfold f_X11_tokens; rw [hp]; rfl, hm, h.no rfl rfl⟩
  rcases lt_ix x (n := m) (by omega) with ⟨j, hj, rfl⟩ | hx
  · rcases le_ix y (n := 9) (by decide) with ⟨t, ht, rfl⟩ | hy
    · have hp : f_X4_putTokens F (nI j) (nI t) u = some (1, wr u 26 j (nI t)) := by
        unfold f_X4_putTokens
        rw [if_neg (nI_pos (by omega)), h5, if_neg (nI_ge hj (by omega)), tk_in F ht]
        simp only [Option.bind_some]
        rw [if_neg (by decide), nI_clamp (by omega), if_neg (gin (show j < 20 by omega) (by decide))]
      have fw : Fr [22, 23, 24, 25, 26] u (wr u 26 j (nI t)) := (Fr.rf _ u).w (by decide)
      have f50 : (fgR (wr u 26 j (nI t))).1 50 = u.1 50 := by rw [fgR_o _ (by decide) (by decide), fw.2 50 (by decide)]
      have ee : ∀ q, q ≠ 69 → q ≠ 50 → q ≠ 27 → q ≠ 33 → q ≠ 26 → (wr (wr (fgR (wr u 26 j (nI t))) 50 0 0) 69 j (nI t)).1 q = u.1 q := fun q z1 z2 z3 z4 z5 => by
        rw [wr_ne _ z1, wr_ne _ z2, fgR_o _ z3 z4, wr_ne _ z5]
      refine ⟨1, fgR (wr u 26 j (nI t)), wr (wr (fgR (wr u 26 j (nI t))) 50 0 0) 69 j (nI t), ?_, ?_, ⟨h1, h2, ?_, ?_, ?_, ?_, ?_, ?_⟩, ?_⟩
      · unfold f_X11_tokens
        rw [hp]
        rfl
      · unfold f_X12_tokens
        rw [e25 _ f50, isIn_lt F (by omega) hj]
        simp only [Option.bind_some]
        rw [if_neg (by decide), show (9 : Int32) = nI 9 from rfl, show (0 : Int32) = nI 0 from rfl, isIn_in F (Nat.zero_le _) ht (by decide)]
        simp only [Option.bind_some]
        rw [if_neg (by decide), nI_clamp (by omega), if_neg (by rw [not_or]; exact ⟨nI_pos (by omega), by omega⟩)]
      · rw [ee 22 (by decide) (by decide) (by decide) (by decide) (by decide)]; exact h3
      · rw [wr_ne _ (by decide), wr_nek _ (by decide), f50]; exact h4
      · rw [ee 22 (by decide) (by decide) (by decide) (by decide) (by decide)]; exact h5
      · rw [wr_ne _ (by decide), wr_nek _ (by decide), f50]; exact h6
      · intro i hi
        unfold NdK
        rw [ee 23 (by decide) (by decide) (by decide) (by decide) (by decide), ee 66 (by decide) (by decide) (by decide) (by decide) (by decide)]
        exact h7 i hi
      · intro i hi
        obtain ⟨a, b, t2, q1, q2, q3, q4, q5, q6, q7, q8, q9⟩ := h8 i hi
        unfold ArK
        rw [ee 24 (by decide) (by decide) (by decide) (by decide) (by decide), ee 25 (by decide) (by decide) (by decide) (by decide) (by decide), ee 67 (by decide) (by decide) (by decide) (by decide) (by decide), ee 68 (by decide) (by decide) (by decide) (by decide) (by decide), wr_ne _ (show (26 : Nat) ≠ 69 by decide), wr_ne _ (show (26 : Nat) ≠ 50 by decide), fgR_o _ (by decide) (by decide)]
        by_cases hij : i = j
        · subst hij
          rw [wr_eq, wr_eq]
          exact ⟨a, b, t, q1, q2, ht, q4, q5, q6, q7, rfl, rfl⟩
        · rw [wr_nek _ hij, wr_nek _ hij, wr_ne _ (by decide), fgR_o _ (by decide) (by decide), wr_ne _ (by decide)]
          exact ⟨a, b, t2, q1, q2, q3, q4, q5, q6, q7, q8, q9⟩
      · exact NtF.of rfl fw (((Fr.rf _ _).w (by decide)).w (by decide)) (fun k z0 z1 z2 => by rw [wr_ne _ (by decide), wr_nek _ z0])
    · refine bad ?_ ?_
      · unfold f_X4_putTokens
        rw [if_neg (nI_pos (by omega)), h5, if_neg (nI_ge hj (by omega)), tk_out F hy]
        rfl
      · unfold f_X12_tokens
        rw [e25 _ fo, isIn_lt F (by omega) hj]
        simp only [Option.bind_some]
        rw [if_neg (by decide), show (9 : Int32) = nI 9 from rfl, isIn_out F (by decide) hy]
        rfl
  · refine bad ?_ ?_
    · unfold f_X4_putTokens
      rcases wl_ix x with q | ⟨j, hj, rfl⟩
      · rw [if_pos q]
      · rw [if_neg (nI_pos hj), h5]
        by_cases hl : m ≤ j
        · rw [if_pos (nI_le hl hj)]
        · exact absurd rfl (hx j (by omega))
    · unfold f_X12_tokens
      rw [e25 _ fo, isIn_nlt F (by omega) hx]
      rfl
/-- promise 21 -/
theorem op_arc (F : Nat) {u : St} {n m : Nat} (h : NtB u n m) (x y z : Int32) : ∃ r u1 u2 m', f_X11_arc F x y z u = some (r, u1) ∧ f_X12_arc F x y z u1 = some (r, u2) ∧ NtB u2 n m' ∧ NtF u u2 := by
  obtain ⟨h1, h2, h3, h4, h5, h6, h7, h8⟩ := id h
  have e24 : ∀ v : St, v.1 50 = u.1 50 → (wr v 50 0 0).1 50 24 = nI n := fun v hv => by rw [wr_nek _ (by decide), hv, h4]
  have e25 : ∀ v : St, v.1 50 = u.1 50 → (wr v 50 0 0).1 50 25 = nI m := fun v hv => by rw [wr_nek _ (by decide), hv, h6]
  have fo : (fgR u).1 50 = u.1 50 := fgR_o _ (by decide) (by decide)
  have bad : f_X4_addArc F x y z u = some (-1, u) → f_X12_arc F x y z (fgR u) = some (-1, wr (fgR u) 50 0 0) → ∃ r u1 u2 m', f_X11_arc F x y z u = some (r, u1) ∧ f_X12_arc F x y z u1 = some (r, u2) ∧ NtB u2 n m' ∧ NtF u u2 := fun hp hm => ⟨-1, fgR u, wr (fgR u) 50 0 0, m, by unfold f_X11_arc; rw [hp]; rfl, hm, h.no rfl rfl⟩
  by_cases hm20 : m = 20
  · refine bad ?_ ?_
    · unfold f_X4_addArc
      rw [h5, show (20 : Int32) = nI 20 from rfl, if_pos (nI_le (by omega) (by omega))]
    · unfold f_X12_arc
      rw [e25 _ fo, if_pos (by rw [hm20]; rfl)]
  · have hm : m < 20 := by omega
    have hne : ¬ nI m = (20 : Int32) := fun q => hm20 (nI_inj (by omega) (by decide) q)
    have c0 : ∀ g : Option (Int32 × St), (if (20 : Int32) ≤ nI m then some ((-1 : Int32), u) else g) = g := fun g => if_neg (nI_ge hm (by decide))
    rcases lt_ix x (n := n) (by omega) with ⟨a, ha, rfl⟩ | hx
    · rcases lt_ix y (n := n) (by omega) with ⟨b, hb, rfl⟩ | hy
      · rcases le_ix z (n := 9) (by decide) with ⟨t, ht, rfl⟩ | hz
        · generalize hw : wr (wr (wr (wr u 24 m (nI a)) 25 m (nI b)) 26 m (nI t)) 22 5 (nI (m + 1)) = w
          have hp : f_X4_addArc F (nI a) (nI b) (nI t) u = some (nI m, w) := by
            unfold f_X4_addArc
            rw [h5, c0, nd_in F (by omega) h3 ha]
            simp only [Option.bind_some]
            rw [if_neg (by decide), nd_in F (by omega) h3 hb]
            simp only [Option.bind_some]
            rw [if_neg (by decide), tk_in F ht]
            simp only [Option.bind_some]
            have g1 : (wr u 24 m (nI a)).1 22 5 = nI m := by rw [wr_ne _ (by decide), h5]
            have g2 : (wr (wr u 24 m (nI a)) 25 m (nI b)).1 22 5 = nI m := by rw [wr_ne _ (by decide), g1]
            have g3 : (wr (wr (wr u 24 m (nI a)) 25 m (nI b)) 26 m (nI t)).1 22 5 = nI m := by rw [wr_ne _ (by decide), g2]
            rw [if_neg (by decide), h5, nI_clamp (by omega), if_neg (gin hm (by decide)), g1, nI_clamp (by omega), if_neg (gin hm (by decide)), g2, nI_clamp (by omega), if_neg (gin hm (by decide)), g3, wr_eq, nI_1, nI_pred, hw]
          have fw : Fr [22, 23, 24, 25, 26] u w := by rw [← hw]; exact ((((Fr.rf _ u).w (by decide)).w (by decide)).w (by decide)).w (by decide)
          have f50 : (fgR w).1 50 = u.1 50 := by rw [fgR_o _ (by decide) (by decide), fw.2 50 (by decide)]
          generalize hv : wr (wr (wr (wr (wr (fgR w) 50 0 0) 67 m (nI a)) 68 m (nI b)) 69 m (nI t)) 50 25 (nI (m + 1)) = v
          have fv : Fr [50, 66, 67, 68, 69] (fgR w) v := by rw [← hv]; exact (((((Fr.rf _ _).w (by decide)).w (by decide)).w (by decide)).w (by decide)).w (by decide)
          have oth : ∀ q, q ≠ 50 → q ≠ 67 → q ≠ 68 → q ≠ 69 → q ≠ 27 → q ≠ 33 → v.1 q = w.1 q := fun q z1 z2 z3 z4 z5 z6 => by
            rw [← hv, wr_ne _ z1, wr_ne _ z4, wr_ne _ z3, wr_ne _ z2, wr_ne _ z1, fgR_o _ z5 z6]
          refine ⟨nI m, fgR w, v, m + 1, ?_, ?_, ⟨h1, by omega, ?_, ?_, ?_, ?_, ?_, ?_⟩, ?_⟩
          · unfold f_X11_arc
            rw [hp]
            rfl
          · unfold f_X12_arc
            have k0 := e25 _ f50
            have k1 : (wr (wr (fgR w) 50 0 0) 67 m (nI a)).1 50 25 = nI m := by rw [wr_ne _ (by decide), k0]
            have k2 : (wr (wr (wr (fgR w) 50 0 0) 67 m (nI a)) 68 m (nI b)).1 50 25 = nI m := by rw [wr_ne _ (by decide), k1]
            have k3 : (wr (wr (wr (wr (fgR w) 50 0 0) 67 m (nI a)) 68 m (nI b)) 69 m (nI t)).1 50 25 = nI m := by rw [wr_ne _ (by decide), k2]
            rw [k0, if_neg hne, e24 _ f50, isIn_lt F (by omega) ha]
            simp only [Option.bind_some]
            rw [if_neg (by decide), e24 _ f50, isIn_lt F (by omega) hb]
            simp only [Option.bind_some]
            have ki : f_X12_isIn F (nI t) 0 9 (wr (fgR w) 50 0 0) = some (1, wr (fgR w) 50 0 0) := isIn_in F (lo := 0) (hi := 9) (Nat.zero_le _) ht (by decide) _
            rw [if_neg (by decide), ki]
            simp only [Option.bind_some]
            rw [if_neg (by decide), k0, nI_clamp (by omega), if_neg (gin hm (by decide)), k1, nI_clamp (by omega), if_neg (gin hm (by decide)), k2, nI_clamp (by omega), if_neg (gin hm (by decide)), k3, wr_eq, nI_1, nI_pred, hv]
          · rw [oth 22 (by decide) (by decide) (by decide) (by decide) (by decide) (by decide), ← hw, wr_nek _ (by decide), wr_ne _ (by decide), wr_ne _ (by decide), wr_ne _ (by decide)]
            exact h3
          · rw [← hv, wr_nek _ (by decide), wr_ne _ (by decide), wr_ne _ (by decide), wr_ne _ (by decide)]
            exact e24 _ f50
          · rw [oth 22 (by decide) (by decide) (by decide) (by decide) (by decide) (by decide), ← hw, wr_eq]
          · rw [← hv, wr_eq]
          · intro i hi
            unfold NdK
            rw [oth 23 (by decide) (by decide) (by decide) (by decide) (by decide) (by decide), oth 66 (by decide) (by decide) (by decide) (by decide) (by decide) (by decide), ← hw, wr_ne _ (show (23 : Nat) ≠ 22 by decide), wr_ne _ (show (23 : Nat) ≠ 26 by decide), wr_ne _ (show (23 : Nat) ≠ 25 by decide), wr_ne _ (show (23 : Nat) ≠ 24 by decide), wr_ne _ (show (66 : Nat) ≠ 22 by decide), wr_ne _ (show (66 : Nat) ≠ 26 by decide), wr_ne _ (show (66 : Nat) ≠ 25 by decide), wr_ne _ (show (66 : Nat) ≠ 24 by decide)]
            exact h7 i hi
          · intro j hj
            have o24 : v.1 24 j = if j = m then nI a else u.1 24 j := by
              rw [oth 24 (by decide) (by decide) (by decide) (by decide) (by decide) (by decide), ← hw, wr_ne _ (by decide), wr_ne _ (by decide), wr_ne _ (by decide)]
              simp [wr]
            have o25 : v.1 25 j = if j = m then nI b else u.1 25 j := by
              rw [oth 25 (by decide) (by decide) (by decide) (by decide) (by decide) (by decide), ← hw, wr_ne _ (by decide), wr_ne _ (by decide)]
              simp [wr]
            have o26 : v.1 26 j = if j = m then nI t else u.1 26 j := by
              rw [oth 26 (by decide) (by decide) (by decide) (by decide) (by decide) (by decide), ← hw, wr_ne _ (by decide)]
              simp [wr]
            have wu : ∀ q, q ≠ 22 → q ≠ 24 → q ≠ 25 → q ≠ 26 → w.1 q = u.1 q := fun q z1 z2 z3 z4 => by rw [← hw, wr_ne _ z1, wr_ne _ z4, wr_ne _ z3, wr_ne _ z2]
            have o67 : v.1 67 j = if j = m then nI a else u.1 67 j := by
              rw [← hv, wr_ne _ (by decide), wr_ne _ (by decide), wr_ne _ (by decide), wr_get, wr_ne _ (by decide), fgR_o _ (by decide) (by decide), wu 67 (by decide) (by decide) (by decide) (by decide)]
              simp
            have o68 : v.1 68 j = if j = m then nI b else u.1 68 j := by
              rw [← hv, wr_ne _ (by decide), wr_ne _ (by decide), wr_get, wr_ne _ (by decide), wr_ne _ (by decide), fgR_o _ (by decide) (by decide), wu 68 (by decide) (by decide) (by decide) (by decide)]
              simp
            have o69 : v.1 69 j = if j = m then nI t else u.1 69 j := by
              rw [← hv, wr_ne _ (by decide), wr_get, wr_ne _ (by decide), wr_ne _ (by decide), wr_ne _ (by decide), fgR_o _ (by decide) (by decide), wu 69 (by decide) (by decide) (by decide) (by decide)]
              simp
            unfold ArK
            rw [o24, o25, o26, o67, o68, o69]
            by_cases hjm : j = m
            · simp only [hjm, if_true]
              exact ⟨a, b, t, ha, hb, ht, rfl, rfl, rfl, rfl, rfl, rfl⟩
            · simp only [hjm, if_false]
              exact h8 j (by omega)
          · exact NtF.of rfl fw fv (fun k z0 z1 z2 => by rw [← hv, wr_nek _ z2, wr_ne _ (by decide), wr_ne _ (by decide), wr_ne _ (by decide), wr_nek _ z0])
        · refine bad ?_ ?_
          · unfold f_X4_addArc
            rw [h5, c0, nd_in F (by omega) h3 ha]
            simp only [Option.bind_some]
            rw [if_neg (by decide), nd_in F (by omega) h3 hb]
            simp only [Option.bind_some]
            rw [if_neg (by decide), tk_out F hz]
            rfl
          · unfold f_X12_arc
            rw [e25 _ fo, if_neg hne, e24 _ fo, isIn_lt F (by omega) ha]
            simp only [Option.bind_some]
            rw [if_neg (by decide), e24 _ fo, isIn_lt F (by omega) hb]
            simp only [Option.bind_some]
            have ki : f_X12_isIn F z 0 9 (wr (fgR u) 50 0 0) = some (0, wr (fgR u) 50 0 0) := isIn_out F (hi := 9) (by decide) hz _
            rw [if_neg (by decide), ki]
            rfl
      · refine bad ?_ ?_
        · unfold f_X4_addArc
          rw [h5, c0, nd_in F (by omega) h3 ha]
          simp only [Option.bind_some]
          rw [if_neg (by decide), nd_out F h3 hy]
          rfl
        · unfold f_X12_arc
          rw [e25 _ fo, if_neg hne, e24 _ fo, isIn_lt F (by omega) ha]
          simp only [Option.bind_some]
          rw [if_neg (by decide), e24 _ fo, isIn_nlt F (by omega) hy]
          rfl
    · refine bad ?_ ?_
      · unfold f_X4_addArc
        rw [h5, c0, nd_out F h3 hx]
        rfl
      · unfold f_X12_arc
        rw [e25 _ fo, if_neg hne, e24 _ fo, isIn_nlt F (by omega) hx]
        rfl
