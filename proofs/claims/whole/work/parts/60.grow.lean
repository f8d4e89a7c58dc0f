/-! the system's search for a greater ring -/
theorem p_tgO (F : Nat) {u : St} {n m : Nat} {sr tg tk dl : Nat → Nat} (h : SN u n m sr tg tk dl) {a : Nat} (ha : a < m) : f_X4_targetOf F (nI a) u = some (nI (tg a), u) := by
  have h2 := h.2.1
  unfold f_X4_targetOf
  rw [nI_clamp (by omega), if_neg (gin (show a < 20 by omega) (by decide)), (h.2.2.2.2.1 a ha).2.1]
theorem p_srO (F : Nat) {u : St} {n m : Nat} {sr tg tk dl : Nat → Nat} (h : SN u n m sr tg tk dl) {a : Nat} (ha : a < m) : f_X4_sourceOf F (nI a) u = some (nI (sr a), u) := by
  have h2 := h.2.1
  unfold f_X4_sourceOf
  rw [nI_clamp (by omega), if_neg (gin (show a < 20 by omega) (by decide)), (h.2.2.2.2.1 a ha).1]
theorem p_tkO (F : Nat) {u : St} {n m : Nat} {sr tg tk dl : Nat → Nat} (h : SN u n m sr tg tk dl) {a : Nat} (ha : a < m) : f_X4_tokensOf F (nI a) u = some (nI (tk a), u) := by
  have h2 := h.2.1
  unfold f_X4_tokensOf
  rw [nI_clamp (by omega), if_neg (gin (show a < 20 by omega) (by decide)), (h.2.2.2.2.1 a ha).2.2.1]
theorem p_dlO (F : Nat) {u : St} {n m : Nat} {sr tg tk dl : Nat → Nat} (h : SN u n m sr tg tk dl) {a : Nat} (ha : a < n) : f_X4_delayOf F (nI a) u = some (nI (dl a), u) := by
  have h1 := h.1
  unfold f_X4_delayOf
  rw [nI_clamp (by omega), if_neg (gin (show a < 10 by omega) (by decide)), (h.2.2.2.2.2 a ha).1]
def tkq (tk : Nat → Nat) (x : Int32) : Nat → Nat := fun e => tk e + if nI e = x then 1 else 0
theorem p_tkR (F : Nat) {u : St} {n m : Nat} {sr tg tk dl : Nat → Nat} (h : SN u n m sr tg tk dl) {a : Nat} (ha : a < m) : f_X9_tokensOn F (nI a) u = some (nI (tkq tk (u.1 27 10) a), u) := by
  unfold f_X9_tokensOn tkq
  rw [p_tkO F h ha, Option.bind_some]
  dsimp only
  by_cases q : nI a = u.1 27 10
  · rw [if_pos q, if_pos q, nI_1]
  · rw [if_neg q, if_neg q, show (0 : Int32) = nI 0 from rfl, nI_add]
def SQ (q : Nat) (x : Int32) (A B : Int) (u : St) (n m : Nat) (sr tg tk dl : Nat → Nat) : Prop := SN u n m sr tg tk dl ∧ u.1 27 10 = x ∧ u.1 q 0 = iI A ∧ u.1 q 1 = iI B ∧ ((A = -1 ∧ B = 1) ∨ (0 ≤ A ∧ A ≤ 1000 ∧ 1 ≤ B ∧ B ≤ 100)) ∧ (q = 28 ∨ q = 29)
theorem SN.fr {P : List Nat} {u v : St} {n m : Nat} {sr tg tk dl : Nat → Nat} (h : SN u n m sr tg tk dl) (f : Fr P u v) (h1 : 22 ∉ P) (h2 : 23 ∉ P) (h3 : 24 ∉ P) (h4 : 25 ∉ P) (h5 : 26 ∉ P) : SN v n m sr tg tk dl := by
  unfold SN
  rw [f.2 22 h1, f.2 23 h2, f.2 24 h3, f.2 25 h4, f.2 26 h5]
  exact h
theorem SQ.fr {q : Nat} {x : Int32} {A B : Int} {u v : St} {n m : Nat} {sr tg tk dl : Nat → Nat} (h : SQ q x A B u n m sr tg tk dl) (f : Fr [31, 32] u v) : SQ q x A B v n m sr tg tk dl := by
  obtain ⟨h1, h2, h3, h4, h5, h6⟩ := h
  have e : v.1 q = u.1 q := by
    rcases h6 with z | z
    · rw [z]; exact f.2 28 (by decide)
    · rw [z]; exact f.2 29 (by decide)
  exact ⟨h1.fr f (by decide) (by decide) (by decide) (by decide) (by decide), by rw [f.2 27 (by decide)]; exact h2, by rw [e]; exact h3, by rw [e]; exact h4, h5, h6⟩
def wt (A B : Int) (x : Int32) (tg tk dl : Nat → Nat) : Nat → Int := fun e => B * (dl (tg e) : Int) - A * ((tkq tk x e : Nat) : Int)
theorem tkq_le {tk : Nat → Nat} {x : Int32} {e : Nat} (h : tk e ≤ 9) : tkq tk x e ≤ 10 := by
  unfold tkq
  split <;> omega
theorem wt_b {q : Nat} {x : Int32} {A B : Int} {u : St} {n m : Nat} {sr tg tk dl : Nat → Nat} (h : SQ q x A B u n m sr tg tk dl) {e : Nat} (he : e < m) : -10000 ≤ wt A B x tg tk dl e ∧ wt A B x tg tk dl e ≤ 10000 := by
  obtain ⟨h1, h2, h3, h4, h5, h6⟩ := h
  obtain ⟨a1, a2, a3, a4, a5, a6⟩ := h1.2.2.2.2.1 e he
  have b2 := (h1.2.2.2.2.2 (tg e) a5).2
  have t := tkq_le (x := x) a6
  unfold wt
  generalize tkq tk x e = y at t
  generalize dl (tg e) = d at b2
  rcases h5 with ⟨z1, z2⟩ | ⟨z1, z2, z3, z4⟩
  · subst z1; subst z2
    omega
  · have c1 : B * (d : Int) ≤ 100 * 100 := Int.mul_le_mul z4 (by omega) (by omega) (by omega)
    have c2 : A * (y : Int) ≤ 1000 * 10 := Int.mul_le_mul z2 (by omega) (by omega) (by omega)
    have c3 : 0 ≤ B * (d : Int) := Int.mul_nonneg (by omega) (by omega)
    have c4 : 0 ≤ A * (y : Int) := Int.mul_nonneg z1 (by omega)
    omega
def LR (u : St) (L : Nat → Int) (P T : Nat → Nat) : Prop := ∀ v, v < 10 → u.1 31 v = iI (L v) ∧ u.1 32 v = if T v = 0 then -1 else nI (P v)
def GW (n m : Nat) (sr tg : Nat → Nat) (w : Nat → Int) (rd a : Nat) (L : Nat → Int) (T : Nat → Nat) (x : Int32) : Prop := (x = -1 ∧ ∀ e, e < a → L (sr e) + w e ≤ L (tg e)) ∨ ∃ g, g < n ∧ x = nI g ∧ rd * m < T g
theorem l_grow (F : Nat) {q : Nat} {y : Int32} {A B : Int} {n m : Nat} {sr tg tk dl : Nat → Nat} {rd : Nat} (hrd : rd < n) : ∀ (c a k : Nat) (x : Int32) (u : St) (L : Nat → Int) (P T : Nat → Nat), a + c = m → c < k → SQ q y A B u n m sr tg tk dl → LR u L P T → BF m sr tg (wt A B y tg tk dl) rd a L P T → GW n m sr tg (wt A B y tg tk dl) rd a L T x → ∃ (x' : Int32) (u' : St) (L' : Nat → Int) (P' T' : Nat → Nat), l_X9_growPaths_4 F q k x (nI a) u = some (x', nI m, u') ∧ Fr [31, 32] u u' ∧ LR u' L' P' T' ∧ BF m sr tg (wt A B y tg tk dl) rd m L' P' T' ∧ GW n m sr tg (wt A B y tg tk dl) rd m L' T' x'
  | c, a, 0, x, u, L, P, T, hc, hk, hS, hL, hB, hG => absurd hk (by omega)
  | c, a, k + 1, x, u, L, P, T, hc, hk, hS, hL, hB, hG => by
    obtain ⟨h1, h2, h3, h4, h5, h6⟩ := id hS
    have hn10 := h1.1
    have hm20 := h1.2.1
    show ∃ (x' : Int32) (u' : St) (L' : Nat → Int) (P' T' : Nat → Nat), b_X9_growPaths_4 F q (l_X9_growPaths_4 F q k) x _ u = _ ∧ _
    unfold b_X9_growPaths_4
    rw [show f_X4_arcs F u = some (u.1 22 5, u) from rfl, Option.bind_some]
    dsimp only
    rw [h1.2.2.2.1]
    cases c with
    | zero =>
      have : a = m := by omega
      subst this
      rw [if_pos (nI_le (by omega) (by omega))]
      exact ⟨x, u, L, P, T, rfl, Fr.rf _ u, hL, hB, hG⟩
    | succ c =>
      have ham : a < m := by omega
      obtain ⟨a1, a2, a3, a4, a5, a6⟩ := h1.2.2.2.2.1 a ham
      have hwb := wt_b hS ham
      have htg10 : tg a < 10 := by omega
      have hsr10 : sr a < 10 := by omega
      rw [if_neg (nI_ge ham (by omega)), p_tgO F h1 ham, Option.bind_some]
      dsimp only
      rw [show f_X5_bottom F q u = some (u.1 q 1, u) from rfl, Option.bind_some]
      dsimp only
      rw [p_dlO F h1 a5, Option.bind_some]
      dsimp only
      rw [show f_X5_top F q u = some (u.1 q 0, u) from rfl, Option.bind_some]
      dsimp only
      rw [p_tkR F h1 ham, Option.bind_some]
      dsimp only
      rw [p_srO F h1 ham, Option.bind_some]
      dsimp only
      rw [nI_clamp (show sr a < 2 ^ 31 by omega), nI_clamp (show tg a < 2 ^ 31 by omega), if_neg (gin hsr10 (by decide)), if_neg (gin htg10 (by decide)), h2, h3, h4, (hL _ hsr10).1, (hL _ htg10).1, ← iI_nat (dl (tg a)), ← iI_nat (tkq tk y a), iI_mul, iI_mul, iI_sub, iI_add, if_neg (gin htg10 (by decide)), if_neg (gin htg10 (by decide)), nI_1]
      have hww : L (sr a) + (B * (dl (tg a) : Int) - A * ((tkq tk y a : Nat) : Int)) = L (sr a) + wt A B y tg tk dl a := rfl
      rw [hww]
      have hrm : rd * m ≤ 9 * 20 := Nat.mul_le_mul (by omega) (by omega)
      have l1 := hB.1 (sr a)
      have l2 := hB.1 (tg a)
      by_cases hcnd : L (sr a) + wt A B y tg tk dl a ≤ L (tg a)
      · rw [if_pos ((iI_le (by omega) (by omega) (by omega) (by omega)).mpr hcnd)]
        refine l_grow F hrd c (a + 1) k x u L P T (by omega) (by omega) hS hL (hB.stay hcnd) ?_
        rcases hG with ⟨g1, g2⟩ | g
        · refine Or.inl ⟨g1, fun e he => ?_⟩
          by_cases z : e = a
          · rw [z]; exact hcnd
          · exact g2 e (by omega)
        · exact Or.inr g
      · rw [if_neg (fun z => hcnd ((iI_le (by omega) (by omega) (by omega) (by omega)).mp z))]
        have fw : Fr [31, 32] u (wr (wr u 31 (tg a) (iI (L (sr a) + wt A B y tg tk dl a))) 32 (tg a) (nI a)) := ((Fr.rf _ u).w (by decide)).w (by decide)
        obtain ⟨x', u', L', P', T', r1, r2, r3, r4, r5⟩ := l_grow F hrd c (a + 1) k (nI (tg a)) _ _ _ _ (by omega) (by omega) (hS.fr fw) (fun v hv => by
          obtain ⟨v1, v2⟩ := hL v hv
          rw [wr_ne _ (show (31 : Nat) ≠ 32 by decide)]
          by_cases z : v = tg a
          · subst z
            rw [wr_eq, wr_eq, up_s, up_s, up_s, if_neg (by omega)]
            exact ⟨rfl, rfl⟩
          · rw [wr_nek _ z, wr_nek _ z, up_n _ _ z, up_n _ _ z, up_n _ _ z, wr_ne _ (show (32 : Nat) ≠ 31 by decide)]
            exact ⟨v1, v2⟩) (hB.grow ham hwb.2 (by omega)) (Or.inr ⟨tg a, a5, rfl, by rw [up_s]; omega⟩)
        exact ⟨x', u', L', P', T', r1, fw.tr r2, r3, r4, r5⟩
theorem l_nbg (F : Nat) (hF : 100 ≤ F) {q : Nat} {y : Int32} {A B : Int} {n m : Nat} {sr tg tk dl : Nat → Nat} : ∀ (c rd k : Nat) (x : Int32) (u : St) (L : Nat → Int) (P T : Nat → Nat), rd + c = n → c < k → SQ q y A B u n m sr tg tk dl → LR u L P T → BF m sr tg (wt A B y tg tk dl) rd 0 L P T → ((rd = 0 ∧ x = -1) ∨ ∃ g, g < n ∧ x = nI g ∧ (rd - 1) * m < T g) → (∃ (u' : St) (L' : Nat → Int), l_X9_nodeBehindGreaterRing_20 F q k x (nI rd) u = some (Sum.inl (-1, u')) ∧ Fr [31, 32] u u' ∧ ∀ e, e < m → L' (sr e) + wt A B y tg tk dl e ≤ L' (tg e)) ∨ ∃ (x' : Int32) (u' : St) (L' : Nat → Int) (P' T' : Nat → Nat), l_X9_nodeBehindGreaterRing_20 F q k x (nI rd) u = some (Sum.inr (x', nI n, u')) ∧ Fr [31, 32] u u' ∧ LR u' L' P' T' ∧ BF m sr tg (wt A B y tg tk dl) n 0 L' P' T' ∧ ((n = 0 ∧ x' = -1) ∨ ∃ g, g < n ∧ x' = nI g ∧ (n - 1) * m < T' g)
  | c, rd, 0, x, u, L, P, T, hc, hk, hS, hL, hB, hG => absurd hk (by omega)
  | c, rd, k + 1, x, u, L, P, T, hc, hk, hS, hL, hB, hG => by
    have hn10 := hS.1.1
    have hm20 := hS.1.2.1
    have hu : ∀ z, l_X9_nodeBehindGreaterRing_20 F q (k + 1) x (nI rd) u = z ↔ b_X9_nodeBehindGreaterRing_20 F q (l_X9_nodeBehindGreaterRing_20 F q k) x (nI rd) u = z := fun z => Iff.rfl
    simp only [hu]
    unfold b_X9_nodeBehindGreaterRing_20
    rw [show f_X4_nodes F u = some (u.1 22 4, u) from rfl, Option.bind_some]
    dsimp only
    rw [hS.1.2.2.1]
    cases c with
    | zero =>
      have : rd = n := by omega
      subst this
      rw [if_pos (nI_le (by omega) (by omega))]
      exact Or.inr ⟨x, u, L, P, T, rfl, Fr.rf _ u, hL, hB, hG⟩
    | succ c =>
      obtain ⟨x', u', L', P', T', r1, r2, r3, r4, r5⟩ := l_grow F (show rd < n by omega) m 0 F (-1) u L P T (by omega) (by omega) hS hL hB (Or.inl ⟨rfl, fun e he => absurd he (by omega)⟩)
      have e1 : f_X9_growPaths F q u = some (x', u') := by
        unfold f_X9_growPaths
        rw [show (0 : Int32) = nI 0 from rfl, r1]
        rfl
      rw [if_neg (nI_ge (show rd < n by omega) (by omega)), e1, Option.bind_some]
      dsimp only
      rcases r5 with ⟨g1, g2⟩ | ⟨g, g1, g2, g3⟩
      · rw [if_pos g1]
        exact Or.inl ⟨u', L', rfl, r2, g2⟩
      · rw [if_neg (by rw [g2]; exact nI_ne_m1 (by omega)), nI_1]
        rcases l_nbg F hF c (rd + 1) k x' u' L' P' T' (by omega) (by omega) (hS.fr r2) r3 r4.next (Or.inr ⟨g, g1, g2, by rw [Nat.add_sub_cancel]; exact g3⟩) with ⟨v, L2, v1, v2, v3⟩ | ⟨x2, v, L2, P2, T2, v1, v2, v3, v4, v5⟩
        · exact Or.inl ⟨v, L2, v1, r2.tr v2, v3⟩
        · exact Or.inr ⟨x2, v, L2, P2, T2, v1, r2.tr v2, v3, v4, v5⟩
theorem p_nbg (F : Nat) (hF : 100 ≤ F) {q : Nat} {y : Int32} {A B : Int} {u : St} {n m : Nat} {sr tg tk dl : Nat → Nat} (hS : SQ q y A B u n m sr tg tk dl) : (∃ (u' : St) (L : Nat → Int), f_X9_nodeBehindGreaterRing F q u = some (-1, u') ∧ Fr [31, 32] u u' ∧ ∀ e, e < m → L (sr e) + wt A B y tg tk dl e ≤ L (tg e)) ∨ ∃ (g : Nat) (u' : St) (L : Nat → Int) (P T : Nat → Nat), g < n ∧ f_X9_nodeBehindGreaterRing F q u = some (nI g, u') ∧ Fr [31, 32] u u' ∧ LR u' L P T ∧ BF m sr tg (wt A B y tg tk dl) n 0 L P T ∧ (n - 1) * m < T g := by
  have fw : Fr [31, 32] u (fil (fil u 31 10 (0 : Int32)) 32 10 (-1 : Int32)) := ⟨rfl, fun p hp => by
    have p1 : p ≠ 31 := fun e => hp (by rw [e]; decide)
    have p2 : p ≠ 32 := fun e => hp (by rw [e]; decide)
    funext j
    simp [fil, p1, p2]⟩
  have hn10 := hS.1.1
  rcases l_nbg F hF n 0 F (-1) _ (fun _ => 0) (fun _ => 0) (fun _ => 0) (by omega) (by omega) (hS.fr fw) (fun v hv => by
    simp [fil, hv]
    rfl) (BF.zero m sr tg _) (Or.inl ⟨rfl, rfl⟩) with ⟨v, L2, v1, v2, v3⟩ | ⟨x2, v, L2, P2, T2, v1, v2, v3, v4, v5⟩
  · refine Or.inl ⟨v, L2, ?_, fw.tr v2, v3⟩
    unfold f_X9_nodeBehindGreaterRing
    rw [show (0 : Int32) = nI 0 from rfl] at v1 ⊢
    rw [v1]
    rfl
  · rcases v5 with ⟨z1, z2⟩ | ⟨g, g1, g2, g3⟩
    · refine Or.inl ⟨v, L2, ?_, fw.tr v2, fun e he => ?_⟩
      · unfold f_X9_nodeBehindGreaterRing
        rw [show (0 : Int32) = nI 0 from rfl] at v1 ⊢
        rw [v1, z2]
        rfl
      · have := (hS.1.2.2.2.2.1 e he).2.2.2.1
        omega
    · refine Or.inr ⟨g, v, L2, P2, T2, g1, ?_, fw.tr v2, v3, v4, g3⟩
      unfold f_X9_nodeBehindGreaterRing
      rw [show (0 : Int32) = nI 0 from rfl] at v1 ⊢
      rw [v1, g2]
      rfl
