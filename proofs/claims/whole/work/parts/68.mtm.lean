/-! the model's times, against a table -/
def TT (dl : Nat → Nat) (B : Nat → Nat → Option Nat) (j v : Nat) : Option Nat := (B j v).map (fun b => b + dl v)
def MC (n m : Nat) (sr tg tk dl : Nat → Nat) (B : Nat → Nat → Option Nat) (u : St) (k : Nat) (tl : Nat → Bool) : Prop := (∀ x, x < n → (u.1 71 x = nI k ↔ tl x = true)) ∧ (∀ x, x < n → ∃ c, c ≤ k ∧ u.1 71 x = nI c) ∧ (∀ x, x < n → tl x = true → fre n m sr tg tk x = true ∧ u.1 70 (201 * x + k) = eN (TT dl B k x)) ∧ ∀ j, 1 ≤ j → j < k → ∀ x, x < n → u.1 70 (201 * x + j) = eN (TT dl B j x)
theorem TB.tt {n m : Nat} {sr tg tk dl : Nat → Nat} {B : Nat → Nat → Option Nat} {K : Nat} (h : TB n m sr tg tk dl B K) {j v : Nat} (j1 : 1 ≤ j) (j2 : j ≤ K) (hK : K ≤ 200) (hv : v < n) (hd : dl v ≤ 100) : ∀ t, TT dl B j v = some t → t ≤ 500000 := fun t ht => by
  unfold TT at ht
  cases hb : B j v with
  | none => rw [hb] at ht; cases ht
  | some b =>
    rw [hb] at ht
    cases ht
    have := (h j j1 j2 v hv).2.2 b hb
    dsimp only
    omega
/-- which arcs into v have been looked at, of the first i -/
def Sa (sr tg tk : Nat → Nat) (tl : Nat → Bool) (k v i : Nat) (e : Nat) : Prop := e < i ∧ tg e = v ∧ tk e < k ∧ (tk e = 0 → tl (sr e) = true)
def MA (sr tg tk dl : Nat → Nat) (B : Nat → Nat → Option Nat) (tl : Nat → Bool) (k v i : Nat) (L : Nat) (rd nn : Bool) : Prop := ((∀ e t, Sa sr tg tk tl k v i e → dnV tk sr dl B k e = some t → t ≤ L) ∧ (L = 0 ∨ ∃ e, Sa sr tg tk tl k v i e ∧ dnV tk sr dl B k e = some L)) ∧ (rd = true ↔ ∀ e, e < i → tg e = v → tk e = 0 → tl (sr e) = true) ∧ (nn = true ↔ ∃ e, Sa sr tg tk tl k v i e ∧ dnV tk sr dl B k e = none)
theorem MA.skip {sr tg tk dl : Nat → Nat} {B : Nat → Nat → Option Nat} {tl : Nat → Bool} {k v i L : Nat} {rd nn : Bool} (h : MA sr tg tk dl B tl k v i L rd nn) (hs : ¬ (tg i = v ∧ tk i < k)) (hk : 1 ≤ k) : MA sr tg tk dl B tl k v (i + 1) L rd nn := by
  obtain ⟨⟨h1, h2⟩, h3, h4⟩ := h
  have e : ∀ x, Sa sr tg tk tl k v (i + 1) x ↔ Sa sr tg tk tl k v i x := fun x => by
    unfold Sa
    constructor
    · rintro ⟨a, b, c, d⟩
      refine ⟨?_, b, c, d⟩
      by_cases q : x = i
      · rw [q] at b c; exact absurd ⟨b, c⟩ hs
      · omega
    · rintro ⟨a, b, c, d⟩
      exact ⟨by omega, b, c, d⟩
  refine ⟨⟨fun x t hx => h1 x t ((e x).mp hx), ?_⟩, ?_, ?_⟩
  · rcases h2 with z | ⟨x, x1, x2⟩
    · exact Or.inl z
    · exact Or.inr ⟨x, (e x).mpr x1, x2⟩
  · rw [h3]
    constructor
    · intro q x hx hg ht
      by_cases z : x = i
      · rw [z] at hg ht
        exact absurd ⟨hg, by omega⟩ hs
      · exact q x (by omega) hg ht
    · intro q x hx
      exact q x (by omega)
  · rw [h4]
    constructor
    · rintro ⟨x, x1, x2⟩
      exact ⟨x, (e x).mpr x1, x2⟩
    · rintro ⟨x, x1, x2⟩
      exact ⟨x, (e x).mp x1, x2⟩
theorem MA.wait {sr tg tk dl : Nat → Nat} {B : Nat → Nat → Option Nat} {tl : Nat → Bool} {k v i L : Nat} {rd nn : Bool} (h : MA sr tg tk dl B tl k v i L rd nn) (hg : tg i = v) (ht : tk i = 0) (hs : tl (sr i) = false) : MA sr tg tk dl B tl k v (i + 1) L false nn := by
  obtain ⟨⟨h1, h2⟩, h3, h4⟩ := h
  have e : ∀ x, Sa sr tg tk tl k v (i + 1) x ↔ Sa sr tg tk tl k v i x := fun x => by
    unfold Sa
    constructor
    · rintro ⟨a, b, c, d⟩
      refine ⟨?_, b, c, d⟩
      by_cases q : x = i
      · rw [q] at d
        rw [d ht] at hs
        cases hs
      · omega
    · rintro ⟨a, b, c, d⟩
      exact ⟨by omega, b, c, d⟩
  refine ⟨⟨fun x t hx => h1 x t ((e x).mp hx), ?_⟩, ?_, ?_⟩
  · rcases h2 with z | ⟨x, x1, x2⟩
    · exact Or.inl z
    · exact Or.inr ⟨x, (e x).mpr x1, x2⟩
  · constructor
    · intro q; cases q
    · intro q
      have := q i (by omega) hg ht
      rw [this] at hs
      cases hs
  · rw [h4]
    constructor
    · rintro ⟨x, x1, x2⟩
      exact ⟨x, (e x).mpr x1, x2⟩
    · rintro ⟨x, x1, x2⟩
      exact ⟨x, (e x).mp x1, x2⟩
theorem MA.take {sr tg tk dl : Nat → Nat} {B : Nat → Nat → Option Nat} {tl : Nat → Bool} {k v i L : Nat} {rd nn : Bool} (h : MA sr tg tk dl B tl k v i L rd nn) (hg : tg i = v) (ht : tk i < k) (hs : tk i = 0 → tl (sr i) = true) : MA sr tg tk dl B tl k v (i + 1) (match dnV tk sr dl B k i with
    | none => L
    | some t => if L < t then t else L) rd (nn || (dnV tk sr dl B k i).isNone) := by
  obtain ⟨⟨h1, h2⟩, h3, h4⟩ := h
  have e : ∀ x, Sa sr tg tk tl k v (i + 1) x ↔ Sa sr tg tk tl k v i x ∨ x = i := fun x => by
    unfold Sa
    constructor
    · rintro ⟨a, b, c, d⟩
      by_cases q : x = i
      · exact Or.inr q
      · exact Or.inl ⟨by omega, b, c, d⟩
    · rintro (⟨a, b, c, d⟩ | q)
      · exact ⟨by omega, b, c, d⟩
      · rw [q]; exact ⟨by omega, hg, ht, hs⟩
  refine ⟨?_, ?_, ?_⟩
  · cases hd : dnV tk sr dl B k i with
    | none =>
      refine ⟨fun x t hx hv => ?_, ?_⟩
      · rcases (e x).mp hx with z | z
        · exact h1 x t z hv
        · rw [z, hd] at hv; cases hv
      · rcases h2 with z | ⟨x, x1, x2⟩
        · exact Or.inl z
        · exact Or.inr ⟨x, (e x).mpr (Or.inl x1), x2⟩
    | some y =>
      dsimp only
      by_cases q : L < y
      · rw [if_pos q]
        refine ⟨fun x t hx hv => ?_, Or.inr ⟨i, (e i).mpr (Or.inr rfl), hd⟩⟩
        rcases (e x).mp hx with z | z
        · have := h1 x t z hv; omega
        · rw [z, hd] at hv; cases hv; exact Nat.le_refl _
      · rw [if_neg q]
        refine ⟨fun x t hx hv => ?_, ?_⟩
        · rcases (e x).mp hx with z | z
          · exact h1 x t z hv
          · rw [z, hd] at hv; cases hv; omega
        · rcases h2 with z | ⟨x, x1, x2⟩
          · exact Or.inl z
          · exact Or.inr ⟨x, (e x).mpr (Or.inl x1), x2⟩
  · rw [h3]
    constructor
    · intro q x hx hgx htx
      by_cases z : x = i
      · rw [z] at htx ⊢; exact hs htx
      · exact q x (by omega) hgx htx
    · intro q x hx
      exact q x (by omega)
  · rw [Bool.or_eq_true, h4]
    constructor
    · rintro (⟨x, x1, x2⟩ | z)
      · exact ⟨x, (e x).mpr (Or.inl x1), x2⟩
      · exact ⟨i, (e i).mpr (Or.inr rfl), Option.isNone_iff_eq_none.mp z⟩
    · rintro ⟨x, x1, x2⟩
      rcases (e x).mp x1 with z | z
      · exact Or.inl ⟨x, z, x2⟩
      · rw [z] at x2
        exact Or.inr (Option.isNone_iff_eq_none.mpr x2)
theorem l_arcs (F : Nat) {n m : Nat} {sr tg tk dl : Nat → Nat} {B : Nat → Nat → Option Nat} {K : Nat} (hB : TB n m sr tg tk dl B K) (hK : K ≤ 200) {u : St} (hN : MN u n m sr tg tk dl) {k : Nat} (k1 : 1 ≤ k) (k2 : k ≤ K) {tl : Nat → Bool} (hC : MC n m sr tg tk dl B u k tl) {x1 x3 : Int32} {v : Nat} (hv : v < n) : ∀ (c i f : Nat) (L : Nat) (rd nn : Bool), i + c = m → c < f → L ≤ 500000 → MA sr tg tk dl B tl k v i L rd nn → ∃ (L' : Nat) (rd' nn' : Bool), l_X12_times_74 F x1 (nI k) x3 (nI v) f (nI L) (b2i rd) (b2i nn) (nI i) u = some (nI L', b2i rd', b2i nn', nI m, u) ∧ L' ≤ 500000 ∧ MA sr tg tk dl B tl k v m L' rd' nn'
  | c, i, 0, L, rd, nn, hc, hf, hL, hA => absurd hf (by omega)
  | c, i, f + 1, L, rd, nn, hc, hf, hL, hA => by
    obtain ⟨h1, h2, h3, h4, h5, h6⟩ := id hN
    show ∃ (L' : Nat) (rd' nn' : Bool), b_X12_times_74 F x1 (nI k) x3 (nI v) (l_X12_times_74 F x1 (nI k) x3 (nI v) f) (nI L) (b2i rd) (b2i nn) (nI i) u = _ ∧ _
    unfold b_X12_times_74
    rw [h4]
    cases c with
    | zero =>
      have : i = m := by omega
      subst this
      rw [if_pos (nI_le (by omega) (by omega))]
      exact ⟨L, rd, nn, rfl, hL, hA⟩
    | succ c =>
      have him : i < m := by omega
      obtain ⟨a1, a2, a3, a4, a5, a6⟩ := h5 i him
      have hg : ¬ (nI i < 0 ∨ 20 ≤ i) := gin (show i < 20 by omega) (by decide)
      rw [if_neg (nI_ge him (by omega)), nI_clamp (by omega), if_neg hg, if_neg hg, a1, a2, a3, nI_1, if_neg hg, if_neg hg]
      have skip : ¬ (tg i = v ∧ tk i < k) → ∃ (L' : Nat) (rd' nn' : Bool), l_X12_times_74 F x1 (nI k) x3 (nI v) f (nI L) (b2i rd) (b2i nn) (nI (i + 1)) u = some (nI L', b2i rd', b2i nn', nI m, u) ∧ L' ≤ 500000 ∧ MA sr tg tk dl B tl k v m L' rd' nn' := fun hs => l_arcs F hB hK hN k1 k2 hC hv c (i + 1) f L rd nn (by omega) (by omega) hL (hA.skip hs k1)
      by_cases htv : tg i = v
      · rw [if_pos (show nI (tg i) = nI v by rw [htv])]
        by_cases htk : tk i < k
        · have esub : nI k - nI (tk i) = nI (k - tk i) := pk_sub (by omega)
          have eidx : (201 : Int32) * nI (sr i) + nI (k - tk i) = nI (201 * sr i + (k - tk i)) := by
            rw [show (201 : Int32) = nI 201 from rfl, pk_mul, nI_add]
          rw [esub, if_pos (show (1 : Int32) ≤ nI (k - tk i) from nI_le (a := 1) (by omega) (by omega)), eidx, nI_clamp (show sr i < 2 ^ 31 by omega), nI_clamp (show 201 * sr i + (k - tk i) < 2 ^ 31 by omega), if_neg (gin (show sr i < 10 by omega) (by decide)), if_neg (gin (show 201 * sr i + (k - tk i) < 2010 by omega) (by decide))]
          have hdn : dnV tk sr dl B k i = TT dl B (k - tk i) (sr i) := by
            unfold dnV TT
            rw [if_neg (by omega)]
          have hbd := hB.tt (j := k - tk i) (v := sr i) (by omega) (by omega) hK a4 (h6 _ a4).2
          have read : (tk i = 0 → tl (sr i) = true) → u.1 70 (201 * sr i + (k - tk i)) = eN (TT dl B (k - tk i) (sr i)) → ∃ (L' : Nat) (rd' nn' : Bool), (if (b2i nn) = 0 then (if (u.1 70 (201 * sr i + (k - tk i))) = (-1 : Int32) then l_X12_times_74 F x1 (nI k) x3 (nI v) f ((if nI L < (u.1 70 (201 * sr i + (k - tk i))) then (u.1 70 (201 * sr i + (k - tk i))) else nI L)) (b2i rd) ((1 : Int32)) (nI (i + 1)) u else l_X12_times_74 F x1 (nI k) x3 (nI v) f ((if nI L < (u.1 70 (201 * sr i + (k - tk i))) then (u.1 70 (201 * sr i + (k - tk i))) else nI L)) (b2i rd) ((0 : Int32)) (nI (i + 1)) u) else l_X12_times_74 F x1 (nI k) x3 (nI v) f ((if nI L < (u.1 70 (201 * sr i + (k - tk i))) then (u.1 70 (201 * sr i + (k - tk i))) else nI L)) (b2i rd) ((1 : Int32)) (nI (i + 1)) u) = some (nI L', b2i rd', b2i nn', nI m, u) ∧ L' ≤ 500000 ∧ MA sr tg tk dl B tl k v m L' rd' nn' := fun hs hr => by
            have hA2 := hA.take htv htk hs
            rw [hr]
            cases hT : TT dl B (k - tk i) (sr i) with
            | none =>
              rw [hdn, hT] at hA2
              have e1 : (if nI L < eN none then eN none else nI L) = nI L := if_neg (by
                intro z
                have z1 := Int32.lt_iff_toInt_lt.mp z
                rw [nI_toInt (by omega), show (eN none).toInt = -1 from rfl] at z1
                omega)
              rw [e1, if_pos (show eN none = -1 from rfl)]
              have hA3 : MA sr tg tk dl B tl k v (i + 1) L rd true := by simpa using hA2
              have := l_arcs F hB hK hN k1 k2 hC (x1 := x1) (x3 := x3) hv c (i + 1) f L rd true (by omega) (by omega) hL hA3
              cases nn with
              | true => rw [if_neg (by decide)]; exact this
              | false => rw [if_pos (by rfl)]; exact this
            | some t =>
              rw [hdn, hT] at hA2
              have ht := hbd t hT
              have e1 : (if nI L < eN (some t) then eN (some t) else nI L) = nI (if L < t then t else L) := by
                show (if nI L < nI t then nI t else nI L) = _
                by_cases q : L < t
                · rw [if_pos (nI_lt q (by omega)), if_pos q]
                · rw [if_neg (nI_nlt (by omega) (by omega)), if_neg q]
              rw [e1, if_neg (show ¬ eN (some t) = -1 from nI_ne_m1 (by omega))]
              have hA3 : MA sr tg tk dl B tl k v (i + 1) (if L < t then t else L) rd nn := by simpa using hA2
              have := l_arcs F hB hK hN k1 k2 hC (x1 := x1) (x3 := x3) hv c (i + 1) f (if L < t then t else L) rd nn (by omega) (by omega) (by split <;> omega) hA3
              cases nn with
              | true => rw [if_neg (by decide)]; exact this
              | false => rw [if_pos (by rfl)]; exact this
          by_cases ht0 : tk i = 0
          · rw [if_pos (show nI (k - tk i) = nI k by rw [ht0, Nat.sub_zero])]
            cases hs : tl (sr i) with
            | true =>
              rw [if_pos ((hC.1 _ a4).mpr hs)]
              refine read (fun _ => hs) ?_
              rw [ht0, Nat.sub_zero]
              exact (hC.2.2.1 _ a4 hs).2
            | false =>
              rw [if_neg (fun z => by rw [(hC.1 _ a4).mp z] at hs; cases hs)]
              exact l_arcs F hB hK hN k1 k2 hC hv c (i + 1) f L false nn (by omega) (by omega) hL (hA.wait htv ht0 hs)
          · rw [if_neg (show ¬ nI (k - tk i) = nI k from fun z => by have := nI_inj (by omega) (by omega) z; omega)]
            exact read (fun z => absurd z ht0) (hC.2.2.2 _ (by omega) (by omega) _ a4)
        · rw [if_neg (show ¬ (1 : Int32) ≤ nI k - nI (tk i) from fun z => by
            have z1 := Int32.le_iff_toInt_le.mp z
            rw [pk_sub_toInt (by omega) (by omega), show (1 : Int32).toInt = 1 from rfl] at z1
            omega)]
          exact skip (fun z => htk z.2)
      · rw [if_neg (fun z => htv (nI_inj (by omega) (by omega) z))]
        exact skip (fun z => htv z.1)
/-- a node that is ready is told rightly -/
theorem MA.told {n m : Nat} {sr tg tk dl : Nat → Nat} {B : Nat → Nat → Option Nat} {K : Nat} (hB : TB n m sr tg tk dl B K) (hs : ∀ e, e < m → sr e < n) {k : Nat} (k1 : 1 ≤ k) (k2 : k ≤ K) {tl : Nat → Bool} (hf : ∀ x, x < n → tl x = true → fre n m sr tg tk x = true) {v : Nat} (hv : v < n) {L : Nat} {nn : Bool} (h : MA sr tg tk dl B tl k v m L true nn) : fre n m sr tg tk v = true ∧ TT dl B k v = if nn then none else some (L + dl v) := by
  obtain ⟨⟨h1, h2⟩, h3, h4⟩ := h
  have hr := h3.mp rfl
  have hfv : fre n m sr tg tk v = true := frd_top hs hv (fun e he ht hg => hf _ (hs e he) (hr e he hg (by omega)))
  refine ⟨hfv, ?_⟩
  have hM := (hB k k1 k2 v hv).1 hfv
  have hS : ∀ e, e < m → tg e = v → tk e < k → Sa sr tg tk tl k v m e := fun e he hg ht => ⟨he, hg, ht, fun z => hr e he hg z⟩
  have h0 : ∀ e, ¬ tk e < k → dnV tk sr dl B k e = some 0 := fun e he => by
    unfold dnV
    rw [if_pos (by omega)]
  unfold TT
  cases hb : B k v with
  | none =>
    rw [hb] at hM
    obtain ⟨e, ⟨e1, e2⟩, e3⟩ := hM
    have : nn = true := h4.mpr ⟨e, hS e e1 e2 (by
      rcases Nat.lt_or_ge (tk e) k with z | z
      · exact z
      · rw [h0 e (by omega)] at e3; cases e3), e3⟩
    rw [this]; rfl
  | some b =>
    rw [hb] at hM
    obtain ⟨m1, m2⟩ := hM
    have hnn : nn = false := by
      cases hn : nn with
      | false => rfl
      | true =>
        obtain ⟨e, e1, e2⟩ := h4.mp hn
        obtain ⟨t, t1, _⟩ := m1 e ⟨e1.1, e1.2.1⟩
        rw [t1] at e2; cases e2
    rw [hnn]
    have hLb : L = b := by
      have g1 : L ≤ b := by
        rcases h2 with z | ⟨e, e1, e2⟩
        · omega
        · obtain ⟨t, t1, t2⟩ := m1 e ⟨e1.1, e1.2.1⟩
          rw [t1] at e2; cases e2; exact t2
      have g2 : b ≤ L := by
        rcases m2 with z | ⟨e, ⟨e1, e2⟩, e3⟩
        · omega
        · by_cases q : tk e < k
          · exact h1 e b (hS e e1 e2 q) e3
          · rw [h0 e q] at e3; cases e3; omega
      omega
    rw [hLb]; rfl
