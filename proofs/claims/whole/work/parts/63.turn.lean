/-! the system's turn and helper, as they are kept -/
def HpK (u : St) (n m : Nat) (sr tg tk dl : Nat → Nat) : Prop := u.1 27 8 = 0 ∨ (u.1 27 8 = 1 ∧ ∃ a b, HS n m sr tg tk dl m (u.1 27 9) a b)
def TnI (u : St) (n m : Nat) (sr tg tk dl : Nat → Nat) : Prop := (u.1 27 6 = 0 ∧ u.1 27 8 = 0) ∨ (u.1 27 6 = 1 ∧ ((u.1 27 7 = 0 ∧ (ddR n m sr tg tk ∨ noR n m sr tg) ∧ u.1 27 8 = 0) ∨ (u.1 27 7 = 1 ∧ ¬ ddR n m sr tg tk ∧ ¬ noR n m sr tg ∧ (∃ a b, u.1 28 0 = nI a ∧ u.1 28 1 = nI b ∧ Lw n m sr tg tk dl a b ∧ a ≤ 1000 ∧ b ≤ 100) ∧ HpK u n m sr tg tk dl)))
def TP : List Nat := [27, 28, 29, 30, 31, 32]
theorem SN.tp {u v : St} {n m : Nat} {sr tg tk dl : Nat → Nat} (h : SN u n m sr tg tk dl) (f : Fr TP u v) : SN v n m sr tg tk dl := h.fr f (by decide) (by decide) (by decide) (by decide) (by decide)
theorem p_renT (F : Nat) (hF : 200000 ≤ F) {u : St} {n m : Nat} {sr tg tk dl : Nat → Nat} (h : SN u n m sr tg tk dl) (hT : TnI u n m sr tg tk dl) : ∃ v, f_X9_renew F u = some v ∧ Fr TP u v ∧ TnI v n m sr tg tk dl ∧ v.1 27 6 = 1 := by
  have hm20 := h.2.1
  rcases hT with ⟨t1, t2⟩ | t
  · unfold f_X9_renew
    rw [if_pos t1]
    have none_ : (ddR n m sr tg tk ∨ noR n m sr tg) → ∃ v, (if ((wr u 27 7 (0 : Int32)).1 27 7) = 0 then some (wr (wr u 27 7 (0 : Int32)) 27 6 (1 : Int32)) else (Option.bind (f_X9_findGreatest F 28 (wr (wr u 27 7 (0 : Int32)) 27 10 (-1 : Int32))) (fun u5 => some (wr u5 27 6 (1 : Int32))))) = some v ∧ Fr TP u v ∧ TnI v n m sr tg tk dl ∧ v.1 27 6 = 1 := fun hd => by
      refine ⟨wr (wr u 27 7 0) 27 6 1, by rw [wr_eq, if_pos rfl], ((Fr.rf _ u).w (by decide)).w (by decide), Or.inr ⟨wr_eq _, Or.inl ⟨?_, hd, ?_⟩⟩, wr_eq _⟩
      · rw [wr_nek _ (by decide), wr_eq]
      · rw [wr_nek _ (by decide), wr_nek _ (by decide)]; exact t2
    rcases p_hasR F (by omega) h with ⟨r1, r2⟩ | ⟨r1, r2⟩
    · rw [r1, Option.bind_some]
      dsimp only
      rw [if_neg (by decide)]
      rcases p_dead F (by omega) h with ⟨d1, d2⟩ | ⟨d1, d2⟩
      · rw [d1, Option.bind_some]
        dsimp only
        rw [if_neg (by decide)]
        exact none_ (Or.inl d2)
      · rw [d1, Option.bind_some]
        dsimp only
        rw [if_pos rfl, wr_eq, if_neg (by decide)]
        have f1 : Fr TP u (wr (wr u 27 7 1) 27 10 (-1)) := ((Fr.rf _ u).w (by decide)).w (by decide)
        have e10 : (wr (wr u 27 7 1) 27 10 (-1)).1 27 10 = -1 := wr_eq _
        obtain ⟨v, a, b, v1, v2, v3, v4, v5, v6, v7⟩ := p_findG F hF (q := 28) (Or.inl rfl) (h.tp f1) (ddq d2 _) r2
        rw [v1, Option.bind_some]
        have e27 : v.1 27 = (wr (wr u 27 7 1) 27 10 (-1)).1 27 := v2.2 27 (by decide)
        refine ⟨_, rfl, (f1.tr (v2.mono (by intro z hz; simp at hz; simp [TP]; omega))).w (by decide), Or.inr ⟨wr_eq _, Or.inr ⟨?_, d2, r2, ⟨a, b, ?_, ?_, ?_, v6, v7⟩, Or.inl ?_⟩⟩, wr_eq _⟩
        · rw [wr_nek _ (by decide), e27, wr_nek _ (by decide), wr_eq]
        · rw [wr_ne _ (by decide)]; exact v3
        · rw [wr_ne _ (by decide)]; exact v4
        · refine v5.cg (fun x hx => ?_)
          rw [e10]
          exact tkq_m1 hm20 hx
        · rw [wr_nek _ (by decide), e27, wr_nek _ (by decide), wr_nek _ (by decide)]; exact t2
    · rw [r1, Option.bind_some]
      dsimp only
      rw [if_pos rfl]
      exact none_ (Or.inr r2)
  · unfold f_X9_renew
    rw [if_neg (by rw [t.1]; decide)]
    exact ⟨u, rfl, Fr.rf _ u, Or.inr t, t.1⟩
theorem nI_m2 {a b c d : Nat} (h1 : a ≤ 1000) (h2 : b ≤ 100) (h3 : c ≤ 1000) (h4 : d ≤ 100) : nI a * nI b ≤ nI c * nI d ↔ a * b ≤ c * d := by
  have k1 : a * b ≤ 1000 * 100 := Nat.mul_le_mul h1 h2
  have k2 : c * d ≤ 1000 * 100 := Nat.mul_le_mul h3 h4
  rw [pk_mul, pk_mul, nI_leI (by omega) (by omega)]
theorem l_help (F : Nat) (hF : 200000 ≤ F) {n m : Nat} {sr tg tk dl : Nat → Nat} (hd : ¬ ddR n m sr tg tk) (hr : ¬ noR n m sr tg) : ∀ (c j k : Nat) (u : St) (a b : Nat), j + c = m → c < k → SN u n m sr tg tk dl → HS n m sr tg tk dl j (u.1 27 9) a b → u.1 30 0 = nI a → u.1 30 1 = nI b → a ≤ 1000 → b ≤ 100 → ∃ (u' : St) (a' b' : Nat), l_X9_helper_39 F k (nI j) u = some (nI m, u') ∧ Fr [27, 29, 30, 31, 32] u u' ∧ (∀ k, k ≠ 9 → k ≠ 10 → u'.1 27 k = u.1 27 k) ∧ HS n m sr tg tk dl m (u'.1 27 9) a' b'
  | c, j, 0, u, a, b, hc, hk, hN, hH, h3, h4, h5, h6 => absurd hk (by omega)
  | c, j, k + 1, u, a, b, hc, hk, hN, hH, h3, h4, h5, h6 => by
    have hm20 := hN.2.1
    show ∃ (u' : St) (a' b' : Nat), b_X9_helper_39 F (l_X9_helper_39 F k) (nI j) u = _ ∧ _
    unfold b_X9_helper_39
    rw [show f_X4_arcs F u = some (u.1 22 5, u) from rfl, Option.bind_some]
    dsimp only
    rw [hN.2.2.2.1]
    cases c with
    | zero =>
      have : j = m := by omega
      subst this
      rw [if_pos (nI_le (by omega) (by omega))]
      exact ⟨u, a, b, rfl, Fr.rf _ u, fun _ _ _ => rfl, hH⟩
    | succ c =>
      rw [if_neg (nI_ge (show j < m by omega) (by omega))]
      have f1 : Fr [27, 29, 30, 31, 32] u (wr u 27 10 (nI j)) := (Fr.rf _ u).w (by decide)
      have N1 := hN.fr f1 (by decide) (by decide) (by decide) (by decide) (by decide)
      have e10 : (wr u 27 10 (nI j)).1 27 10 = nI j := wr_eq _
      obtain ⟨v, a1, b1, v1, v2, v3, v4, v5, v6, v7⟩ := p_findG F hF (q := 29) (Or.inr rfl) N1 (ddq hd _) hr
      rw [e10] at v5
      rw [v1, Option.bind_some]
      have f2 : Fr [27, 29, 30, 31, 32] u v := f1.tr (v2.mono (by intro z hz; simp at hz ⊢; omega))
      have e27 : v.1 27 = (wr u 27 10 (nI j)).1 27 := v2.2 27 (by decide)
      have e30 : v.1 30 = u.1 30 := by rw [v2.2 30 (by decide), wr_ne _ (by decide)]
      have N2 := hN.fr f2 (by decide) (by decide) (by decide) (by decide) (by decide)
      have k27 : ∀ k, k ≠ 10 → v.1 27 k = u.1 27 k := fun k hk => by rw [e27, wr_nek _ hk]
      have hnext : ∀ {x a2 b2}, ((a1 * b < a * b1 ∧ x = nI j ∧ a2 = a1 ∧ b2 = b1) ∨ (¬ a1 * b < a * b1 ∧ x = u.1 27 9 ∧ a2 = a ∧ b2 = b)) → HS n m sr tg tk dl (j + 1) x a2 b2 := fun hh => ⟨_, _, _, _, _, hH, v5, hh⟩
      unfold f_X5_isLess
      rw [e30, h3, h4, v3, v4, nI_1]
      by_cases hcmp : a1 * b < a * b1
      · rw [if_neg (fun z => by have := (nI_m2 h5 v7 v6 h6).mp z; omega), Option.bind_some]
        dsimp only
        rw [if_neg (by decide)]
        have hpa : f_X5_putAs F 30 29 v = some (wr (wr v 30 0 (nI a1)) 30 1 (nI b1)) := by
          unfold f_X5_putAs
          rw [wr_ne _ (show (29 : Nat) ≠ 30 by decide), v3, v4]
        rw [hpa, Option.bind_some]
        have f3 : Fr [27, 29, 30, 31, 32] u (wr (wr (wr v 30 0 (nI a1)) 30 1 (nI b1)) 27 9 (nI j)) := ((f2.w (by decide)).w (by decide)).w (by decide)
        obtain ⟨w, a2, b2, w1, w2, w3, w4⟩ := l_help F hF hd hr c (j + 1) k (wr (wr (wr v 30 0 (nI a1)) 30 1 (nI b1)) 27 9 (nI j)) a1 b1 (by omega) (by omega) (hN.fr f3 (by decide) (by decide) (by decide) (by decide) (by decide)) (by
          rw [wr_eq]
          exact hnext (Or.inl ⟨hcmp, rfl, rfl, rfl⟩)) (by rw [wr_ne _ (by decide), wr_nek _ (by decide), wr_eq]) (by rw [wr_ne _ (by decide), wr_eq]) v6 v7
        refine ⟨w, a2, b2, w1, f3.tr w2, fun k k1 k2 => ?_, w4⟩
        rw [w3 k k1 k2, wr_nek _ k1, wr_ne _ (by decide), wr_ne _ (by decide), k27 k k2]
      · rw [if_pos ((nI_m2 h5 v7 v6 h6).mpr (by omega)), Option.bind_some]
        dsimp only
        rw [if_pos rfl]
        obtain ⟨w, a2, b2, w1, w2, w3, w4⟩ := l_help F hF hd hr c (j + 1) k v a b (by omega) (by omega) N2 (by
          rw [k27 9 (by decide)]
          exact hnext (Or.inr ⟨hcmp, rfl, rfl, rfl⟩)) (by rw [e30]; exact h3) (by rw [e30]; exact h4) h5 h6
        exact ⟨w, a2, b2, w1, f2.tr w2, fun k k1 k2 => by rw [w3 k k1 k2, k27 k k2], w4⟩
theorem p_help (F : Nat) (hF : 200000 ≤ F) {u : St} {n m : Nat} {sr tg tk dl : Nat → Nat} (h : SN u n m sr tg tk dl) (hT : TnI u n m sr tg tk dl) (h6 : u.1 27 6 = 1) : ∃ x v, f_X9_helper F u = some (x, v) ∧ Fr TP u v ∧ TnI v n m sr tg tk dl ∧ ((x = -1 ∧ (ddR n m sr tg tk ∨ noR n m sr tg)) ∨ (¬ ddR n m sr tg tk ∧ ¬ noR n m sr tg ∧ ∃ a b, HS n m sr tg tk dl m x a b)) := by
  have hm20 := h.2.1
  rcases hT with ⟨t1, t2⟩ | ⟨t, ⟨t1, t2, t3⟩ | ⟨t1, t2, t3, ⟨a, b, t4, t5, t6, t7, t8⟩, t9⟩⟩
  · rw [h6] at t1
    exact absurd t1 (by decide)
  · unfold f_X9_helper
    rw [if_pos t1]
    exact ⟨-1, u, rfl, Fr.rf _ u, Or.inr ⟨t, Or.inl ⟨t1, t2, t3⟩⟩, Or.inl ⟨rfl, t2⟩⟩
  · rcases t9 with t9 | ⟨t9, a2, b2, t10⟩
    · unfold f_X9_helper
      rw [if_neg (by rw [t1]; decide), if_pos t9]
      have hpa : f_X5_putAs F 30 28 (wr u 27 9 (-1)) = some (wr (wr (wr u 27 9 (-1)) 30 0 (nI a)) 30 1 (nI b)) := by
        unfold f_X5_putAs
        rw [wr_ne _ (show (28 : Nat) ≠ 30 by decide), wr_ne _ (show (28 : Nat) ≠ 27 by decide), t4, t5]
      rw [hpa, Option.bind_some]
      have f1 : Fr TP u (wr (wr (wr u 27 9 (-1)) 30 0 (nI a)) 30 1 (nI b)) := (((Fr.rf _ u).w (by decide)).w (by decide)).w (by decide)
      obtain ⟨v, a', b', v1, v2, v3, v4⟩ := l_help F hF t2 t3 m 0 F (wr (wr (wr u 27 9 (-1)) 30 0 (nI a)) 30 1 (nI b)) a b (by omega) (by omega) (h.tp f1) (by
        rw [wr_ne _ (by decide), wr_ne _ (by decide), wr_eq]
        exact ⟨rfl, t6⟩) (by rw [wr_nek _ (by decide), wr_eq]) (wr_eq _) t7 t8
      rw [show (0 : Int32) = nI 0 from rfl, v1, Option.bind_some]
      dsimp only
      have e27 : ∀ k, k ≠ 9 → k ≠ 10 → v.1 27 k = u.1 27 k := fun k k1 k2 => by rw [v3 k k1 k2, wr_ne _ (by decide), wr_ne _ (by decide), wr_nek _ k1]
      have e28 : v.1 28 = u.1 28 := by rw [v2.2 28 (by decide), wr_ne _ (by decide), wr_ne _ (by decide), wr_ne _ (by decide)]
      refine ⟨_, _, rfl, ((f1.tr (v2.mono (by intro z hz; simp at hz; simp [TP]; omega))).w (by decide)).w (by decide), Or.inr ⟨?_, Or.inr ⟨?_, t2, t3, ⟨a, b, ?_, ?_, t6, t7, t8⟩, Or.inr ⟨wr_eq _, a', b', ?_⟩⟩⟩, Or.inr ⟨t2, t3, a', b', ?_⟩⟩
      · rw [wr_nek _ (by decide), wr_nek _ (by decide), e27 6 (by decide) (by decide)]; exact t
      · rw [wr_nek _ (by decide), wr_nek _ (by decide), e27 7 (by decide) (by decide)]; exact t1
      · rw [wr_ne _ (by decide), wr_ne _ (by decide), e28]; exact t4
      · rw [wr_ne _ (by decide), wr_ne _ (by decide), e28]; exact t5
      · rw [wr_nek _ (by decide), wr_nek _ (by decide)]; exact v4
      · rw [wr_nek _ (by decide), wr_nek _ (by decide)]; exact v4
    · unfold f_X9_helper
      rw [if_neg (by rw [t1]; decide), if_neg (by rw [t9]; decide)]
      exact ⟨_, u, rfl, Fr.rf _ u, Or.inr ⟨t, Or.inr ⟨t1, t2, t3, ⟨a, b, t4, t5, t6, t7, t8⟩, Or.inr ⟨t9, a2, b2, t10⟩⟩⟩, Or.inr ⟨t2, t3, a2, b2, t10⟩⟩
