/-! the system's columns of times -/
theorem p_dnK (F : Nat) {u : St} {n m : Nat} {sr tg tk dl : Nat → Nat} (hN : SN u n m sr tg tk dl) {B : Nat → Nat → Option Nat} {K : Nat} (hK : K + 1 ≤ 200) {st : Nat → Option Nat} (h1 : CB n u (K + 1) st) (h2 : ∀ j, 1 ≤ j → j ≤ K → CB n u j (B j)) (b1 : ∀ v b, v < n → st v = some b → b ≤ 1000000) (b2 : ∀ j, 1 ≤ j → j ≤ K → ∀ v b, v < n → B j v = some b → b ≤ 1000000) {e : Nat} (he : e < m) : f_X8_doneAt F (nI (sr e)) (nI (K + 1) - nI (tk e)) u = some (eN (dnK tk sr dl B (K + 1) st e), u) := by
  obtain ⟨a1, a2, a3, a4, a5, a6⟩ := hN.2.2.2.2.1 e he
  unfold dnK
  by_cases q : K + 1 ≤ tk e
  · rw [if_pos q, p_done0 F u hK a6 q]
    rfl
  · rw [if_neg q, pk_sub (by omega)]
    by_cases z : tk e = 0
    · rw [if_pos z, z, Nat.sub_zero]
      exact p_done F hN a4 (by omega) (by omega) (h1 _ a4) (fun b hb => by have := b1 _ b a4 hb; omega)
    · rw [if_neg z]
      exact p_done F hN a4 (by omega) (by omega) (h2 _ (by omega) (by omega) _ a4) (fun b hb => by have := b2 _ (by omega) (by omega) _ b a4 hb; omega)
theorem lat_le {a b : Option Nat} {M : Nat} (ha : ∀ x, a = some x → x ≤ M) (hb : ∀ x, b = some x → x ≤ M) : ∀ x, lat a b = some x → x ≤ M := fun x hx => by
  cases a with
  | none => cases hx
  | some y =>
    cases b with
    | none => cases hx
    | some z =>
      have h1 := ha y rfl
      have h2 := hb z rfl
      have hx : some (if y < z then z else y) = some x := hx
      cases hx
      split <;> omega
theorem l_fil (F : Nat) {n m : Nat} {sr tg tk dl : Nat → Nat} {O : List Nat} (hO : GO m sr tg tk (fre n m sr tg tk) O) {B : Nat → Nat → Option Nat} {K : Nat} (hK : K + 1 ≤ 200) (b2 : ∀ j, 1 ≤ j → j ≤ K → ∀ v b, v < n → B j v = some b → b ≤ 2000 * K) : ∀ (c i k : Nat) (u : St) (st : Nat → Option Nat), i + c = O.length → c < k → SN u n m sr tg tk dl → OL u O → CB n u (K + 1) st → (∀ j, 1 ≤ j → j ≤ K → CB n u j (B j)) → (∀ v, fre n m sr tg tk v = true → IsMx (fun x => x ∈ O.take i ∧ tg x = v) (dnK tk sr dl B (K + 1) st) (st v)) → (∀ v, fre n m sr tg tk v = false → st v = none) → (∀ v b, v < n → st v = some b → b ≤ 2000 * K + 100 * i) → ∃ u' st', l_X8_fill_45 F (nI (K + 1)) k (nI i) u = some (nI O.length, u') ∧ FB (K + 1) u u' ∧ CB n u' (K + 1) st' ∧ (∀ v, fre n m sr tg tk v = true → IsMx (fun x => x ∈ O.take O.length ∧ tg x = v) (dnK tk sr dl B (K + 1) st') (st' v)) ∧ (∀ v, fre n m sr tg tk v = false → st' v = none) ∧ (∀ v b, v < n → st' v = some b → b ≤ 2000 * K + 100 * O.length)
  | c, i, 0, u, st, hc, hk, hN, hL, h1, h2, h3, h4, h5 => absurd hk (by omega)
  | c, i, k + 1, u, st, hc, hk, hN, hL, h1, h2, h3, h4, h5 => by
    have hn10 := hN.1
    have hm20 := hN.2.1
    have hlen := hO.len
    show ∃ u' st', b_X8_fill_45 F (nI (K + 1)) (l_X8_fill_45 F (nI (K + 1)) k) (nI i) u = _ ∧ _
    unfold b_X8_fill_45
    rw [hL.1]
    cases c with
    | zero =>
      have : i = O.length := by omega
      rw [if_pos (by rw [this]; exact nI_le (Nat.le_refl _) (by omega))]
      refine ⟨u, st, by rw [this], FB.rf _ u, h1, ?_, h4, ?_⟩
      · rw [this] at h3; exact h3
      · rw [this] at h5; exact h5
    | succ c =>
      have hi : i < O.length := by omega
      obtain ⟨e, he⟩ : ∃ e, O[i]? = some e := ⟨O[i], List.getElem?_eq_getElem hi⟩
      have hmem := (hO.2.1 e).mp (List.mem_of_getElem? he)
      obtain ⟨a1, a2, a3, a4, a5, a6⟩ := hN.2.2.2.2.1 e hmem.1
      have hgK : ¬ (nI (K + 1) < 0 ∨ 201 ≤ K + 1) := gin (show K + 1 < 201 by omega) (by decide)
      have hgt : ¬ (nI (tg e) < 0 ∨ 10 ≤ tg e) := gin (show tg e < 10 by omega) (by decide)
      rw [if_neg (nI_ge hi (by omega)), nI_clamp (by omega), if_neg (gin (show i < 20 by omega) (by decide)), hL.2 i e he, p_tgO F hN hmem.1, Option.bind_some]
      dsimp only
      rw [p_srO F hN hmem.1, Option.bind_some]
      dsimp only
      rw [p_tkO F hN hmem.1, Option.bind_some]
      dsimp only
      rw [p_dnK F hN hK h1 h2 (fun v b hv hb => by have := h5 v b hv hb; omega) (fun j j1 j2 v b hv hb => by have := b2 j j1 j2 v b hv hb; omega) hmem.1, Option.bind_some]
      dsimp only
      rw [nI_clamp (show tg e < 2 ^ 31 by omega), nI_clamp (show K + 1 < 2 ^ 31 by omega), if_neg hgt, if_neg hgt, if_neg hgK, h1 _ a5]
      have bd1 : ∀ x, st (tg e) = some x → x ≤ 2000 * K + 100 * i := fun x hx => h5 _ x a5 hx
      have bd2 : ∀ x, dnK tk sr dl B (K + 1) st e = some x → x ≤ 2000 * K + 100 * (i + 1) := fun x hx => by
        have hdl := (hN.2.2.2.2.2 _ a4).2
        unfold dnK at hx
        by_cases q : K + 1 ≤ tk e
        · rw [if_pos q] at hx
          cases hx
          omega
        · rw [if_neg q] at hx
          by_cases z : tk e = 0
          · rw [if_pos z] at hx
            cases hs : st (sr e) with
            | none => rw [hs] at hx; cases hx
            | some y =>
              rw [hs] at hx
              cases hx
              have := h5 _ y a4 hs
              dsimp only
              omega
          · rw [if_neg z] at hx
            cases hs : B (K + 1 - tk e) (sr e) with
            | none => rw [hs] at hx; cases hx
            | some y =>
              rw [hs] at hx
              cases hx
              have := b2 (K + 1 - tk e) (by omega) (by omega) _ y a4 hs
              dsimp only
              omega
      rw [p_later F u (fun x hx => by have := bd1 x hx; omega) (fun x hx => by have := bd2 x hx; omega), Option.bind_some]
      dsimp only
      rw [if_neg hgK, nI_1]
      have fw : FB (K + 1) u (wr u (35 + tg e) (K + 1) (eN (lat (st (tg e)) (dnK tk sr dl B (K + 1) st e)))) := FB.w u (by omega) _
      obtain ⟨u', st', r1, r2, r3, r4, r5, r6⟩ := l_fil F hO hK b2 c (i + 1) k _ (stA tg (dnK tk sr dl B (K + 1)) st e) (by omega) (by omega) (fw.sn hN) (fw.ol hL) (fun v hv => by
        unfold stA
        by_cases q : v = tg e
        · subst q
          rw [wr_eq, up_s]
        · rw [wr_ne _ (by omega), up_n _ _ q]
          exact h1 v hv) (fun j j1 j2 v hv => by rw [fw.2 _ _ (by omega)]; exact h2 j j1 j2 v hv) (col_step hO he h3) (fun v hv => by
        unfold stA
        by_cases q : v = tg e
        · rw [q] at hv
          rw [hmem.2] at hv
          cases hv
        · rw [up_n _ _ q]; exact h4 v hv) (fun v b hv hb => by
        unfold stA at hb
        by_cases q : v = tg e
        · subst q
          rw [up_s] at hb
          exact lat_le (M := 2000 * K + 100 * (i + 1)) (fun x hx => by have := bd1 x hx; omega) bd2 b hb
        · rw [up_n _ _ q] at hb
          have := h5 v b hv hb
          omega)
      exact ⟨u', st', r1, fw.tr r2, r3, r4, r5, r6⟩
def TmK (u : St) (n m : Nat) (sr tg tk dl : Nat → Nat) (O : List Nat) (B : Nat → Nat → Option Nat) (K : Nat) : Prop := u.1 33 5 = nI K ∧ OL u O ∧ GO m sr tg tk (fre n m sr tg tk) O ∧ (∀ v, v < n → bt (u.1 33 4) v = fre n m sr tg tk v) ∧ TB n m sr tg tk dl B K ∧ ∀ j, 1 ≤ j → j ≤ K → CB n u j (B j)
theorem p_fillK (F : Nat) (hF : 100 ≤ F) {u : St} {n m : Nat} {sr tg tk dl : Nat → Nat} (hN : SN u n m sr tg tk dl) {O : List Nat} {B : Nat → Nat → Option Nat} {K : Nat} (hK : K + 1 ≤ 200) (hT : TmK u n m sr tg tk dl O B K) : ∃ u' st, f_X8_fill F (nI (K + 1)) u = some u' ∧ FB (K + 1) u u' ∧ TmK (wr u' 33 5 (nI (K + 1))) n m sr tg tk dl O (upB B (K + 1) st) (K + 1) := by
  obtain ⟨t1, t2, t3, t4, t5, t6⟩ := hT
  have hn10 := hN.1
  have hm20 := hN.2.1
  have hlen := t3.len
  obtain ⟨v, v1, v2, v3⟩ := l_fil2 F (show K + 1 ≤ 200 from hK) (fr := fre n m sr tg tk) n 0 F u (by omega) (by omega) hN t4 (fun x hx => absurd hx (by omega))
  obtain ⟨w, st, w1, w2, w3, w4, w5, w6⟩ := l_fil F t3 hK (fun j j1 j2 v b hv hb => by have := (t5 j j1 j2 v hv).2.2 b hb; omega) O.length 0 F v _ (by omega) (by omega) (v2.sn hN) (v2.ol t2) v3 (fun j j1 j2 x hx => by rw [v2.2 _ _ (by omega)]; exact t6 j j1 j2 x hx) (fun x hx => by
    rw [if_pos hx]
    exact IsMx.nil (fun e he => by simp at he)) (fun x hx => by rw [if_neg (by rw [hx]; decide)]) (fun x b _ hb => by
    by_cases q : fre n m sr tg tk x = true
    · rw [if_pos q] at hb
      cases hb
      omega
    · rw [if_neg q] at hb
      cases hb)
  have fw := v2.tr w2
  refine ⟨w, st, ?_, fw, wr_eq _, ?_, t3, ?_, ?_, ?_⟩
  · unfold f_X8_fill
    have v1 : l_X8_fill_2 F (nI (K + 1)) F 0 u = _ := v1
    have w1 : l_X8_fill_45 F (nI (K + 1)) F 0 v = _ := w1
    rw [v1, Option.bind_some]
    dsimp only
    rw [w1]
    rfl
  · have := fw.ol t2
    exact ⟨by rw [wr_nek _ (by decide)]; exact this.1, fun i e he => by rw [wr_ne _ (by decide)]; exact this.2 i e he⟩
  · intro x hx
    rw [wr_nek _ (by decide), fw.1.2 33 (by decide)]
    exact t4 x hx
  · refine t5.up (fun x hx => ⟨fun hf => ?_, w5 x, fun b hb => ?_⟩)
    · refine (w4 x hf).cg (fun e => ?_) (fun _ _ => rfl)
      rw [List.take_length, t3.2.1]
      constructor
      · rintro ⟨q1, q2⟩
        exact ⟨⟨q1, by rw [q2]; exact hf⟩, q2⟩
      · rintro ⟨q1, q2⟩
        exact ⟨q1.1, q2⟩
    · have := w6 x b hx hb
      omega
  · intro j j1 j2 x hx
    rw [wr_ne _ (show 35 + x ≠ 33 by omega)]
    unfold upB
    by_cases q : j = K + 1
    · subst q
      rw [if_pos rfl]
      exact w3 x hx
    · rw [if_neg q, fw.2 _ _ q]
      exact t6 j j1 (by omega) x hx
def TmP : List Nat := [33, 35, 36, 37, 38, 39, 40, 41, 42, 43, 44, 45]
theorem l_filT (F : Nat) (hF : 100 ≤ F) {n m : Nat} {sr tg tk dl : Nat → Nat} {O : List Nat} {k : Nat} (hk : k ≤ 200) : ∀ (c K f : Nat) (u : St) (B : Nat → Nat → Option Nat), K + c = (if k ≤ K then K else k) → K ≤ 200 → c < f → SN u n m sr tg tk dl → TmK u n m sr tg tk dl O B K → ∃ u' B' K', l_X8_fillTo_18 F (nI k) f (nI (K + 1)) u = some (nI (K' + 1), u') ∧ k ≤ K' ∧ K' ≤ 200 ∧ Fr TmP u u' ∧ TmK u' n m sr tg tk dl O B' K'
  | c, K, 0, u, B, hc, hK, hf, hN, hT => absurd hf (by omega)
  | c, K, f + 1, u, B, hc, hK, hf, hN, hT => by
    show ∃ u' B' K', b_X8_fillTo_18 F (nI k) (l_X8_fillTo_18 F (nI k) f) (nI (K + 1)) u = _ ∧ _
    unfold b_X8_fillTo_18
    by_cases q : k ≤ K
    · rw [if_pos (nI_lt (by omega) (by omega))]
      exact ⟨u, B, K, rfl, q, hK, Fr.rf _ u, hT⟩
    · rw [if_neg q] at hc
      obtain ⟨w, st, w1, w2, w3⟩ := p_fillK F hF hN (by omega) hT
      rw [if_neg (nI_nlt (by omega) (by omega)), show (200 : Int32) = nI 200 from rfl, if_neg (nI_nlt (by omega) (by omega)), w1, Option.bind_some, nI_1]
      have fw : Fr TmP u (wr w 33 5 (nI (K + 1))) := (w2.1.mono (by intro z hz; simp [BP] at hz; simp [TmP]; omega)).w (by decide)
      obtain ⟨u', B', K', r1, r2, r3, r4, r5⟩ := l_filT F hF hk (c - 1) (K + 1) f _ _ (by
        by_cases z : k ≤ K + 1
        · rw [if_pos z]; omega
        · rw [if_neg z]; omega) (by omega) (by omega) (hN.fr fw (by decide) (by decide) (by decide) (by decide) (by decide)) w3
      exact ⟨u', B', K', r1, r2, r3, fw.tr r4, r5⟩
def TmI (u : St) (n m : Nat) (sr tg tk dl : Nat → Nat) : Prop := u.1 33 5 = 0 ∨ ∃ O B K, 1 ≤ K ∧ K ≤ 200 ∧ TmK u n m sr tg tk dl O B K
theorem p_filT (F : Nat) (hF : 1000 ≤ F) {u : St} {n m : Nat} {sr tg tk dl : Nat → Nat} (hN : SN u n m sr tg tk dl) (hT : TmI u n m sr tg tk dl) {k : Nat} (h1 : 1 ≤ k) (h2 : k ≤ 200) : ∃ u' O B K, f_X8_fillTo F (nI k) u = some u' ∧ k ≤ K ∧ K ≤ 200 ∧ Fr TmP u u' ∧ TmK u' n m sr tg tk dl O B K := by
  unfold f_X8_fillTo
  rcases hT with t | ⟨O, B, K, k1, k2, t⟩
  · rw [if_pos t]
    obtain ⟨v, O, v1, v2, v3, v4, v5, v6⟩ := p_ord F (by omega) hN
    rw [v1, Option.bind_some]
    have hv5 : v.1 33 5 = nI 0 := by rw [v6, t]; rfl
    have fw : Fr TmP u v := v5.mono (by intro z hz; simp at hz; simp [TmP]; omega)
    obtain ⟨u', B', K', r1, r2, r3, r4, r5⟩ := l_filT F (by omega) h2 k 0 F v (fun _ _ => none) (by rw [if_neg (by omega)]; omega) (by omega) (by omega) (hN.fr v5 (by decide) (by decide) (by decide) (by decide) (by decide)) ⟨hv5, v2, v3, v4, fun j j1 j2 => absurd j2 (by omega), fun j j1 j2 => absurd j2 (by omega)⟩
    rw [hv5, nI_1, r1, Option.bind_some]
    exact ⟨u', O, B', K', rfl, r2, r3, fw.tr r4, r5⟩
  · rw [if_neg (by rw [t.1]; exact nI_ne0 (by omega) (by omega)), t.1, nI_1]
    obtain ⟨u', B', K', r1, r2, r3, r4, r5⟩ := l_filT F (by omega) h2 ((if k ≤ K then K else k) - K) K F u B (by split <;> omega) k2 (by split <;> omega) hN t
    rw [r1, Option.bind_some]
    exact ⟨u', O, B', K', rfl, r2, r3, r4, r5⟩
