/-! the model's sweeps and columns; the call -/
theorem MC.tell {n m : Nat} {sr tg tk dl : Nat → Nat} {B : Nat → Nat → Option Nat} {u : St} {k : Nat} {tl : Nat → Bool} (h : MC n m sr tg tk dl B u k tl) (hk : k ≤ 200) {v : Nat} (hf : fre n m sr tg tk v = true) {x : Int32} (hx : x = eN (TT dl B k v)) : MC n m sr tg tk dl B (wr (wr u 70 (201 * v + k) x) 71 v (nI k)) k (up tl v true) := by
  obtain ⟨h1, h2, h3, h4⟩ := h
  have e71 : ∀ y, (wr (wr u 70 (201 * v + k) x) 71 v (nI k)).1 71 y = if y = v then nI k else u.1 71 y := fun y => by
    by_cases q : y = v
    · rw [if_pos q, q, wr_eq]
    · rw [if_neg q, wr_nek _ q, wr_ne _ (by decide)]
  have e70 : ∀ y, (wr (wr u 70 (201 * v + k) x) 71 v (nI k)).1 70 y = if y = 201 * v + k then x else u.1 70 y := fun y => by
    rw [wr_ne _ (by decide)]
    by_cases q : y = 201 * v + k
    · rw [if_pos q, q, wr_eq]
    · rw [if_neg q, wr_nek _ q]
  refine ⟨fun y hy => ?_, fun y hy => ?_, fun y hy ht => ?_, fun j j1 j2 y hy => ?_⟩
  · rw [e71]
    by_cases q : y = v
    · rw [if_pos q, q, up_s]; exact ⟨fun _ => rfl, fun _ => rfl⟩
    · rw [if_neg q, up_n _ _ q]; exact h1 y hy
  · rw [e71]
    by_cases q : y = v
    · rw [if_pos q]; exact ⟨k, Nat.le_refl _, rfl⟩
    · rw [if_neg q]; exact h2 y hy
  · rw [e70]
    by_cases q : y = v
    · rw [q, if_pos rfl]; exact ⟨hf, hx⟩
    · rw [up_n _ _ q] at ht
      rw [if_neg (by omega)]; exact h3 y hy ht
  · rw [e70, if_neg (by omega)]
    exact h4 j j1 j2 y hy
theorem MN.fr {u v : St} {n m : Nat} {sr tg tk dl : Nat → Nat} (h : MN u n m sr tg tk dl) (f : Fr [70, 71] u v) : MN v n m sr tg tk dl := by
  unfold MN
  rw [f.2 50 (by decide), f.2 66 (by decide), f.2 67 (by decide), f.2 68 (by decide), f.2 69 (by decide)]
  exact h
/-- a node that isn't told waits for one that isn't -/
def Wt (n m : Nat) (sr tg tk : Nat → Nat) (tl : Nat → Bool) (v : Nat) : Prop := ∀ x, x < v → tl x = false → ∃ e, e < m ∧ tk e = 0 ∧ tg e = x ∧ tl (sr e) = false
theorem l_swp (F : Nat) (hF : 100 ≤ F) {n m : Nat} {sr tg tk dl : Nat → Nat} {B : Nat → Nat → Option Nat} {K : Nat} (hB : TB n m sr tg tk dl B K) (hK : K ≤ 200) {k : Nat} (k1 : 1 ≤ k) (k2 : k ≤ K) {x1 : Int32} {tl0 : Nat → Bool} : ∀ (c v f : Nat) (mo : Bool) (u : St) (tl : Nat → Bool), v + c = n → c < f → MN u n m sr tg tk dl → MC n m sr tg tk dl B u k tl → ((mo = false ∧ tl = tl0 ∧ Wt n m sr tg tk tl v) ∨ (mo = true ∧ cn (fun x => !tl x) n + 1 ≤ cn (fun x => !tl0 x) n)) → ∃ (mo' : Bool) (u' : St) (tl' : Nat → Bool), l_X12_times_39 F x1 (nI k) f (b2i mo) (nI v) u = some (b2i mo', nI n, u') ∧ Fr [70, 71] u u' ∧ MC n m sr tg tk dl B u' k tl' ∧ ((mo' = false ∧ tl' = tl0 ∧ Wt n m sr tg tk tl' n) ∨ (mo' = true ∧ cn (fun x => !tl' x) n + 1 ≤ cn (fun x => !tl0 x) n))
  | c, v, 0, mo, u, tl, hc, hf, hN, hC, hG => absurd hf (by omega)
  | c, v, f + 1, mo, u, tl, hc, hf, hN, hC, hG => by
    obtain ⟨h1, h2, h3, h4, h5, h6⟩ := id hN
    show ∃ (mo' : Bool) (u' : St) (tl' : Nat → Bool), b_X12_times_39 F x1 (nI k) (l_X12_times_39 F x1 (nI k) f) (b2i mo) (nI v) u = _ ∧ _
    unfold b_X12_times_39
    rw [h3]
    cases c with
    | zero =>
      have : v = n := by omega
      subst this
      rw [if_pos (nI_le (by omega) (by omega))]
      exact ⟨mo, u, tl, rfl, Fr.rf _ u, hC, hG⟩
    | succ c =>
      have hvn : v < n := by omega
      have hg : ¬ (nI v < 0 ∨ 10 ≤ v) := gin (show v < 10 by omega) (by decide)
      rw [if_neg (nI_ge hvn (by omega)), nI_clamp (by omega), if_neg hg, nI_1]
      cases ht : tl v with
      | true =>
        rw [if_pos ((hC.1 v hvn).mpr ht)]
        refine l_swp F hF hB hK k1 k2 c (v + 1) f mo u tl (by omega) (by omega) hN hC ?_
        rcases hG with ⟨g1, g2, g3⟩ | g
        · refine Or.inl ⟨g1, g2, fun x hx hxf => ?_⟩
          by_cases q : x = v
          · rw [q, ht] at hxf; cases hxf
          · exact g3 x (by omega) hxf
        · exact Or.inr g
      | false =>
        rw [if_neg (fun z => by rw [(hC.1 v hvn).mp z] at ht; cases ht)]
        obtain ⟨L, rd, nn, r1, r2, r3⟩ := l_arcs F hB hK hN k1 k2 hC (x1 := x1) (x3 := b2i mo) hvn m 0 F 0 true false (by omega) (by omega) (by omega) ⟨⟨fun e t he => absurd he.1 (by omega), Or.inl rfl⟩, ⟨fun _ e he => absurd he (by omega), fun _ => rfl⟩, ⟨fun z => Bool.noConfusion z, fun ⟨e, he, _⟩ => absurd he.1 (by omega)⟩⟩
        have r1 : l_X12_times_74 F x1 (nI k) (b2i mo) (nI v) F 0 1 0 0 u = _ := r1
        rw [r1, Option.bind_some]
        dsimp only
        cases rd with
        | false =>
          rw [if_pos (show b2i false = 0 from rfl)]
          refine l_swp F hF hB hK k1 k2 c (v + 1) f mo u tl (by omega) (by omega) hN hC ?_
          rcases hG with ⟨g1, g2, g3⟩ | g
          · refine Or.inl ⟨g1, g2, fun x hx hxf => ?_⟩
            by_cases q : x = v
            · rw [q]
              by_cases z : ∃ e, e < m ∧ tk e = 0 ∧ tg e = v ∧ tl (sr e) = false
              · exact z
              · have := r3.2.1.mpr (fun e he hge hte => by
                  cases hq : tl (sr e) with
                  | true => rfl
                  | false => exact absurd ⟨e, he, hte, hge, hq⟩ z)
                cases this
            · exact g3 x (by omega) hxf
          · exact Or.inr g
        | true =>
          obtain ⟨q1, q2⟩ := MA.told hB (fun e he => (h5 e he).2.2.2.1) k1 k2 (fun x hx ht => (hC.2.2.1 x hx ht).1) hvn r3
          have eidx : (201 : Int32) * nI v + nI k = nI (201 * v + k) := by
            rw [show (201 : Int32) = nI 201 from rfl, pk_mul, nI_add]
          rw [if_neg (show ¬ b2i true = 0 by decide), eidx, nI_clamp (show 201 * v + k < 2 ^ 31 by omega), if_neg hg, if_neg (gin (show 201 * v + k < 2010 by omega) (by decide)), if_neg (gin (show 201 * v + k < 2010 by omega) (by decide)), if_neg hg, if_neg hg, (h6 v hvn).1, nI_add]
          have go : ∀ y : Int32, y = eN (TT dl B k v) → ∃ (mo' : Bool) (u' : St) (tl' : Nat → Bool), l_X12_times_39 F x1 (nI k) f 1 (nI (v + 1)) (wr (wr u 70 (201 * v + k) y) 71 v (nI k)) = some (b2i mo', nI n, u') ∧ Fr [70, 71] u u' ∧ MC n m sr tg tk dl B u' k tl' ∧ ((mo' = false ∧ tl' = tl0 ∧ Wt n m sr tg tk tl' n) ∨ (mo' = true ∧ cn (fun x => !tl' x) n + 1 ≤ cn (fun x => !tl0 x) n)) := fun y hy => by
            have fw : Fr [70, 71] u (wr (wr u 70 (201 * v + k) y) 71 v (nI k)) := ((Fr.rf _ u).w (by decide)).w (by decide)
            have hcn : cn (fun x => !(up tl v true) x) n + 1 ≤ cn (fun x => !tl x) n := cn_st n (fun i hi hp => by
              by_cases q : i = v
              · rw [q, up_s] at hp; cases hp
              · rw [up_n _ _ q] at hp; exact hp) ⟨v, hvn, by rw [ht]; rfl, by rw [up_s]; rfl⟩
            obtain ⟨mo', u', tl', s1, s2, s3, s4⟩ := l_swp F hF hB hK k1 k2 (x1 := x1) (tl0 := tl0) c (v + 1) f true _ (up tl v true) (by omega) (by omega) (hN.fr fw) (hC.tell (by omega) q1 hy) (Or.inr ⟨rfl, by
              rcases hG with ⟨_, g2, _⟩ | ⟨_, g⟩
              · rw [← g2]; exact hcn
              · omega⟩)
            exact ⟨mo', u', tl', s1, fw.tr s2, s3, s4⟩
          cases nn with
          | false =>
            rw [if_pos (show b2i false = 0 from rfl)]
            exact go _ (by rw [q2]; rfl)
          | true =>
            rw [if_neg (show ¬ b2i true = 0 by decide)]
            exact go _ (by rw [q2]; rfl)
theorem l_mor (F : Nat) (hF : 100 ≤ F) {n m : Nat} {sr tg tk dl : Nat → Nat} {B : Nat → Nat → Option Nat} {K : Nat} (hB : TB n m sr tg tk dl B K) (hK : K ≤ 200) {k : Nat} (k1 : 1 ≤ k) (k2 : k ≤ K) {x1 : Int32} : ∀ (f c : Nat) (mo : Bool) (u : St) (tl : Nat → Bool), cn (fun x => !tl x) n ≤ c → c + 1 < f → MN u n m sr tg tk dl → MC n m sr tg tk dl B u k tl → (mo = false → Wt n m sr tg tk tl n) → ∃ (u' : St) (tl' : Nat → Bool), l_X12_times_30 F x1 (nI k) f (b2i mo) u = some (0, u') ∧ Fr [70, 71] u u' ∧ MC n m sr tg tk dl B u' k tl' ∧ Wt n m sr tg tk tl' n
  | 0, c, mo, u, tl, hc, hf, hN, hC, hW => absurd hf (by omega)
  | f + 1, c, mo, u, tl, hc, hf, hN, hC, hW => by
    show ∃ (u' : St) (tl' : Nat → Bool), b_X12_times_30 F x1 (nI k) (l_X12_times_30 F x1 (nI k) f) (b2i mo) u = _ ∧ _
    unfold b_X12_times_30
    cases mo with
    | false =>
      rw [if_pos (show b2i false = 0 from rfl)]
      exact ⟨u, tl, rfl, Fr.rf _ u, hC, hW rfl⟩
    | true =>
      have hn10 := hN.1
      rw [if_neg (show ¬ b2i true = 0 by decide)]
      obtain ⟨mo', u', tl', s1, s2, s3, s4⟩ := l_swp F hF hB hK k1 k2 (x1 := x1) (tl0 := tl) n 0 F false u tl (by omega) (by omega) hN hC (Or.inl ⟨rfl, rfl, fun x hx => absurd hx (by omega)⟩)
      have s1 : l_X12_times_39 F x1 (nI k) F 0 0 u = _ := s1
      rw [s1, Option.bind_some]
      dsimp only
      rcases s4 with ⟨g1, g2, g3⟩ | ⟨g1, g2⟩
      · subst g1
        subst g2
        cases f with
        | zero => exact absurd hf (by omega)
        | succ f =>
          refine ⟨u', tl', ?_, s2, s3, g3⟩
          show b_X12_times_30 F x1 (nI k) (l_X12_times_30 F x1 (nI k) f) (b2i false) u' = _
          unfold b_X12_times_30
          rw [if_pos (show b2i false = 0 from rfl)]
          rfl
      · subst g1
        obtain ⟨w, tw, w1, w2, w3, w4⟩ := l_mor F hF hB hK k1 k2 (x1 := x1) f (c - 1) true u' tl' (by omega) (by omega) (hN.fr s2) s3 (fun z => by cases z)
        exact ⟨w, tw, w1, s2.tr w2, w3, w4⟩
theorem Wt.fre {n m : Nat} {sr tg tk : Nat → Nat} {tl : Nat → Bool} (h : Wt n m sr tg tk tl n) (hs : ∀ e, e < m → sr e < n) : ∀ (r v : Nat), v < n → frd n m sr tg tk 0 r v = true → tl v = true
  | 0, v, hv, hf => by cases hf
  | r + 1, v, hv, hf => by
    cases ht : tl v with
    | true => rfl
    | false =>
      obtain ⟨e, e1, e2, e3, e4⟩ := h v hv ht
      have := h.fre hs r _ (hs e e1) ((frd_s.mp hf).2 e e1 (by omega) e3)
      rw [this] at e4
      cases e4
theorem l_rst (F : Nat) {n m : Nat} {sr tg tk dl : Nat → Nat} {B : Nat → Nat → Option Nat} {K : Nat} (hB : TB n m sr tg tk dl B K) (hK : K ≤ 200) {k : Nat} (k1 : 1 ≤ k) (k2 : k ≤ K) {x1 : Int32} {tl : Nat → Bool} (ht : ∀ x, x < n → tl x = fre n m sr tg tk x) : ∀ (c v f : Nat) (u : St), v + c = n → c < f → MN u n m sr tg tk dl → MC n m sr tg tk dl B u k tl → (∀ x, x < v → u.1 70 (201 * x + k) = eN (TT dl B k x)) → ∃ u', l_X12_times_259 F x1 (nI k) f (nI v) u = some (nI n, u') ∧ Fr [70, 71] u u' ∧ MC n m sr tg tk dl B u' k tl ∧ ∀ x, x < n → u'.1 70 (201 * x + k) = eN (TT dl B k x)
  | c, v, 0, u, hc, hf, hN, hC, hG => absurd hf (by omega)
  | c, v, f + 1, u, hc, hf, hN, hC, hG => by
    obtain ⟨h1, h2, h3, h4, h5, h6⟩ := id hN
    show ∃ u', b_X12_times_259 F x1 (nI k) (l_X12_times_259 F x1 (nI k) f) (nI v) u = _ ∧ _
    unfold b_X12_times_259
    rw [h3]
    cases c with
    | zero =>
      have : v = n := by omega
      subst this
      rw [if_pos (nI_le (by omega) (by omega))]
      exact ⟨u, rfl, Fr.rf _ u, hC, hG⟩
    | succ c =>
      have hvn : v < n := by omega
      have hg : ¬ (nI v < 0 ∨ 10 ≤ v) := gin (show v < 10 by omega) (by decide)
      rw [if_neg (nI_ge hvn (by omega)), nI_clamp (by omega), if_neg hg, nI_1]
      cases hv : tl v with
      | true =>
        rw [if_pos ((hC.1 v hvn).mpr hv)]
        refine l_rst F hB hK k1 k2 ht c (v + 1) f u (by omega) (by omega) hN hC (fun x hx => ?_)
        by_cases q : x = v
        · rw [q]; exact (hC.2.2.1 v hvn hv).2
        · exact hG x (by omega)
      | false =>
        have eidx : (201 : Int32) * nI v + nI k = nI (201 * v + k) := by
          rw [show (201 : Int32) = nI 201 from rfl, pk_mul, nI_add]
        rw [if_neg (fun z => by rw [(hC.1 v hvn).mp z] at hv; cases hv), eidx, nI_clamp (show 201 * v + k < 2 ^ 31 by omega), if_neg (gin (show 201 * v + k < 2010 by omega) (by decide))]
        have fw : Fr [70, 71] u (wr u 70 (201 * v + k) (-1)) := (Fr.rf _ u).w (by decide)
        have hnone : TT dl B k v = none := by
          unfold TT
          rw [(hB k k1 k2 v hvn).2.1 (by rw [← ht v hvn]; exact hv)]
          rfl
        obtain ⟨u', r1, r2, r3, r4⟩ := l_rst F hB hK k1 k2 (x1 := x1) ht c (v + 1) f (wr u 70 (201 * v + k) (-1)) (by omega) (by omega) (hN.fr fw) ⟨fun x hx => by rw [wr_ne _ (by decide)]; exact hC.1 x hx, fun x hx => by rw [wr_ne _ (by decide)]; exact hC.2.1 x hx, fun x hx hxt => by
          have hxv : x ≠ v := fun z => by rw [z, hv] at hxt; cases hxt
          rw [wr_nek _ (by omega)]; exact hC.2.2.1 x hx hxt, fun j j1 j2 x hx => by rw [wr_nek _ (by omega)]; exact hC.2.2.2 j j1 j2 x hx⟩ (fun x hx => by
          by_cases q : x = v
          · rw [q, wr_eq, hnone]; rfl
          · rw [wr_nek _ (by omega)]; exact hG x (by omega))
        exact ⟨u', r1, fw.tr r2, r3, r4⟩
theorem l_col (F : Nat) (hF : 100 ≤ F) {n m : Nat} {sr tg tk dl : Nat → Nat} {B : Nat → Nat → Option Nat} {K : Nat} (hB : TB n m sr tg tk dl B K) (hK : K ≤ 200) {mx : Nat} (hmx : mx ≤ K) : ∀ (c k f : Nat) (u : St), k + c = mx + 1 → 1 ≤ k → c < f → MN u n m sr tg tk dl → (∀ x, x < n → ∃ c, c < k ∧ u.1 71 x = nI c) → (∀ j, 1 ≤ j → j < k → ∀ x, x < n → u.1 70 (201 * x + j) = eN (TT dl B j x)) → ∃ u', l_X12_times_23 F (nI mx) f (nI k) u = some (nI (mx + 1), u') ∧ Fr [70, 71] u u' ∧ ∀ j, 1 ≤ j → j ≤ mx → ∀ x, x < n → u'.1 70 (201 * x + j) = eN (TT dl B j x)
  | c, k, 0, u, hc, k1, hf, hN, hT, hG => absurd hf (by omega)
  | c, k, f + 1, u, hc, k1, hf, hN, hT, hG => by
    have hn10 := hN.1
    have hs : ∀ e, e < m → sr e < n := fun e he => (hN.2.2.2.2.1 e he).2.2.2.1
    show ∃ u', b_X12_times_23 F (nI mx) (l_X12_times_23 F (nI mx) f) (nI k) u = _ ∧ _
    unfold b_X12_times_23
    cases c with
    | zero =>
      have : k = mx + 1 := by omega
      subst this
      rw [if_pos (nI_lt (by omega) (by omega))]
      exact ⟨u, rfl, Fr.rf _ u, fun j j1 j2 => hG j j1 (by omega)⟩
    | succ c =>
      rw [if_neg (nI_nlt (by omega) (by omega))]
      obtain ⟨v, tl, v1, v2, v3, v4⟩ := l_mor F hF hB hK k1 (show k ≤ K by omega) (x1 := nI mx) F 10 true u (fun _ => false) (Nat.le_trans (cn_le _ n) hn10) (by omega) hN ⟨fun x hx => ⟨fun z => by
        obtain ⟨c, c1, c2⟩ := hT x hx
        rw [c2] at z
        have := nI_inj (by omega) (by omega) z
        omega, fun z => Bool.noConfusion z⟩, fun x hx => by
        obtain ⟨c, c1, c2⟩ := hT x hx
        exact ⟨c, by omega, c2⟩, fun x hx z => Bool.noConfusion z, hG⟩ (fun z => Bool.noConfusion z)
      have v1 : l_X12_times_30 F (nI mx) (nI k) F 1 u = _ := v1
      have ht : ∀ x, x < n → tl x = fre n m sr tg tk x := fun x hx => by
        cases hf : fre n m sr tg tk x with
        | true => exact v4.fre hs n x hx hf
        | false =>
          cases hl : tl x with
          | false => rfl
          | true =>
            have := (v3.2.2.1 x hx hl).1
            rw [this] at hf
            cases hf
      obtain ⟨w, w1, w2, w3, w4⟩ := l_rst F hB hK k1 (show k ≤ K by omega) (x1 := nI mx) ht n 0 F v (by omega) (by omega) (hN.fr v2) v3 (fun x hx => absurd hx (by omega))
      have w1 : l_X12_times_259 F (nI mx) (nI k) F 0 v = _ := w1
      rw [v1, Option.bind_some]
      dsimp only
      rw [w1, Option.bind_some]
      dsimp only
      rw [nI_1]
      have f2 := v2.tr w2
      obtain ⟨z, z1, z2, z3⟩ := l_col F hF hB hK hmx c (k + 1) f w (by omega) (by omega) (by omega) (hN.fr f2) (fun x hx => by
        obtain ⟨c, c1, c2⟩ := w3.2.1 x hx
        exact ⟨c, by omega, c2⟩) (fun j j1 j2 x hx => by
        by_cases q : j = k
        · rw [q]; exact w4 x hx
        · exact w3.2.2.2 j j1 (by omega) x hx)
      exact ⟨z, z1, f2.tr z2, z3⟩
theorem l_tl0 (F : Nat) (x1 : Int32) : ∀ (c i f : Nat) (u : St), i + c = 10 → c < f → (∀ x, x < i → u.1 71 x = 0) → ∃ u', l_X12_times_2 F x1 f (nI i) u = some (nI 10, u') ∧ Fr [70, 71] u u' ∧ ∀ x, x < 10 → u'.1 71 x = 0
  | c, i, 0, u, hc, hf, h => absurd hf (by omega)
  | c, i, f + 1, u, hc, hf, h => by
    show ∃ u', b_X12_times_2 F x1 (l_X12_times_2 F x1 f) (nI i) u = _ ∧ _
    unfold b_X12_times_2
    rw [show (10 : Int32) = nI 10 from rfl]
    cases c with
    | zero =>
      have : i = 10 := by omega
      subst this
      rw [if_pos (nI_le (by omega) (by omega))]
      exact ⟨u, rfl, Fr.rf _ u, h⟩
    | succ c =>
      rw [if_neg (nI_ge (show i < 10 by omega) (by omega)), nI_clamp (by omega), if_neg (gin (show i < 10 by omega) (by decide)), nI_1]
      have fw : Fr [70, 71] u (wr u 71 i 0) := (Fr.rf _ u).w (by decide)
      obtain ⟨u', r1, r2, r3⟩ := l_tl0 F x1 c (i + 1) f (wr u 71 i 0) (by omega) (by omega) (fun x hx => by
        by_cases q : x = i
        · rw [q, wr_eq]
        · rw [wr_nek _ q]; exact h x (by omega))
      exact ⟨u', r1, fw.tr r2, r3⟩
theorem p_times (F : Nat) (hF : 1000 ≤ F) {u : St} {n m : Nat} {sr tg tk dl : Nat → Nat} (hN : MN u n m sr tg tk dl) {B : Nat → Nat → Option Nat} {K : Nat} (hB : TB n m sr tg tk dl B K) (hK : K ≤ 200) {k : Nat} (hk : k ≤ K) : ∃ u', f_X12_times F (nI k) u = some u' ∧ Fr [70, 71] u u' ∧ ∀ j, 1 ≤ j → j ≤ k → ∀ x, x < n → u'.1 70 (201 * x + j) = eN (TT dl B j x) := by
  have hn10 := hN.1
  obtain ⟨v, v1, v2, v3⟩ := l_tl0 F (nI k) 10 0 F u (by omega) (by omega) (fun x hx => absurd hx (by omega))
  obtain ⟨w, w1, w2, w3⟩ := l_col F (by omega) hB hK hk k 1 F v (by omega) (by omega) (by omega) (hN.fr v2) (fun x hx => ⟨0, by omega, v3 x (by omega)⟩) (fun j j1 j2 => absurd j2 (by omega))
  refine ⟨w, ?_, v2.tr w2, w3⟩
  unfold f_X12_times
  have v1 : l_X12_times_2 F (nI k) F 0 u = _ := v1
  have w1 : l_X12_times_23 F (nI k) F 1 v = _ := w1
  rw [v1, Option.bind_some]
  dsimp only
  rw [w1]
  rfl
