/-! both sides' nets; the system's nodes behind rings -/
def SN (u : St) (n m : Nat) (sr tg tk dl : Nat → Nat) : Prop := n ≤ 10 ∧ m ≤ 20 ∧ u.1 22 4 = nI n ∧ u.1 22 5 = nI m ∧ (∀ e, e < m → u.1 24 e = nI (sr e) ∧ u.1 25 e = nI (tg e) ∧ u.1 26 e = nI (tk e) ∧ sr e < n ∧ tg e < n ∧ tk e ≤ 9) ∧ ∀ i, i < n → u.1 23 i = nI (dl i) ∧ dl i ≤ 100
def MN (u : St) (n m : Nat) (sr tg tk dl : Nat → Nat) : Prop := n ≤ 10 ∧ m ≤ 20 ∧ u.1 50 24 = nI n ∧ u.1 50 25 = nI m ∧ (∀ e, e < m → u.1 67 e = nI (sr e) ∧ u.1 68 e = nI (tg e) ∧ u.1 69 e = nI (tk e) ∧ sr e < n ∧ tg e < n ∧ tk e ≤ 10) ∧ ∀ i, i < n → u.1 66 i = nI (dl i) ∧ dl i ≤ 100
def srN (u : St) : Nat → Nat := fun e => (u.1 24 e).toNatClampNeg
def tgN (u : St) : Nat → Nat := fun e => (u.1 25 e).toNatClampNeg
def tkN (u : St) : Nat → Nat := fun e => (u.1 26 e).toNatClampNeg
def dlN (u : St) : Nat → Nat := fun i => (u.1 23 i).toNatClampNeg
theorem NtB.sn {u : St} {n m : Nat} (h : NtB u n m) : SN u n m (srN u) (tgN u) (tkN u) (dlN u) := by
  obtain ⟨h1, h2, h3, h4, h5, h6, h7, h8⟩ := h
  refine ⟨h1, h2, h3, h5, fun e he => ?_, fun i hi => ?_⟩
  · obtain ⟨a, b, t, a1, a2, a3, a4, a5, a6, a7, a8, a9⟩ := h8 e he
    unfold srN tgN tkN
    rw [a4, a6, a8, nI_clamp (by omega), nI_clamp (by omega), nI_clamp (by omega)]
    exact ⟨rfl, rfl, rfl, a1, a2, a3⟩
  · obtain ⟨d, d1, d2, d3⟩ := h7 i hi
    unfold dlN
    rw [d2, nI_clamp (by omega)]
    exact ⟨rfl, d1⟩
theorem NtB.mn {u : St} {n m : Nat} (h : NtB u n m) : MN u n m (srN u) (tgN u) (tkN u) (dlN u) := by
  obtain ⟨h1, h2, h3, h4, h5, h6, h7, h8⟩ := h
  refine ⟨h1, h2, h4, h6, fun e he => ?_, fun i hi => ?_⟩
  · obtain ⟨a, b, t, a1, a2, a3, a4, a5, a6, a7, a8, a9⟩ := h8 e he
    unfold srN tgN tkN
    rw [a4, a6, a8, a5, a7, a9, nI_clamp (by omega), nI_clamp (by omega), nI_clamp (by omega)]
    exact ⟨rfl, rfl, rfl, a1, a2, by omega⟩
  · obtain ⟨d, d1, d2, d3⟩ := h7 i hi
    unfold dlN
    rw [d2, d3, nI_clamp (by omega)]
    exact ⟨rfl, d1⟩
theorem all_bits : (List.range 11).all (fun n => (List.range 32).all (fun j => bt (((1 : Int32) <<< (nI n &&& 31)) - 1) j == decide (j < n))) = true := by decide +kernel
theorem all_bt {n : Nat} (hn : n ≤ 10) (j : Nat) : bt (((1 : Int32) <<< (nI n &&& 31)) - 1) j = decide (j < n) := by
  by_cases hj : j < 32
  · have := List.all_eq_true.mp (List.all_eq_true.mp all_bits n (List.mem_range.mpr (by omega))) j (List.mem_range.mpr hj)
    simpa using this
  · rw [bt_hi _ (by omega)]
    have : ¬ j < n := by omega
    simp [this]
def wtB (sr tg tk : Nat → Nat) (most : Nat) (x : Int32) (i v : Nat) : Bool := (List.range i).any (fun e => decide (tk e ≤ most) && (!bt x (sr e) && decide (tg e = v)))
theorem wtB_s (sr tg tk : Nat → Nat) (most : Nat) (x : Int32) (i v : Nat) : wtB sr tg tk most x (i + 1) v = (wtB sr tg tk most x i v || (decide (tk i ≤ most) && (!bt x (sr i) && decide (tg i = v)))) := by
  unfold wtB
  rw [List.range_succ, List.any_append]
  simp
theorem l_freed (F : Nat) {u : St} {n m : Nat} {sr tg tk dl : Nat → Nat} (h : SN u n m sr tg tk dl) {most : Nat} (hm : most ≤ 9) (x : Int32) : ∀ (d i k : Nat) (y : Int32), i + d = m → d < k → (∀ v, bt y v = wtB sr tg tk most x i v) → ∃ z, l_X4_freedBy_5 F x (nI most) k y (nI i) u = some (z, nI m, u) ∧ ∀ v, bt z v = wtB sr tg tk most x m v
  | d, i, 0, y, hd, hk, hy => absurd hk (by omega)
  | d, i, k + 1, y, hd, hk, hy => by
    obtain ⟨h1, h2, h3, h4, h5, h6⟩ := id h
    show ∃ z, b_X4_freedBy_5 F x (nI most) (l_X4_freedBy_5 F x (nI most) k) _ _ u = _ ∧ _
    unfold b_X4_freedBy_5
    rw [h4]
    cases d with
    | zero =>
      have : i = m := by omega
      subst this
      rw [if_pos (nI_le (by omega) (by omega))]
      exact ⟨y, rfl, hy⟩
    | succ d =>
      obtain ⟨a1, a2, a3, a4, a5, a6⟩ := h5 i (by omega)
      have hg : ¬ (nI i < 0 ∨ 20 ≤ i) := gin (show i < 20 by omega) (by decide)
      rw [if_neg (nI_ge (show i < m by omega) (by omega)), nI_clamp (by omega), if_neg hg, a3, nI_1]
      by_cases ht : tk i ≤ most
      · rw [if_neg (nI_nlt ht (by omega)), if_neg hg, a1, p_isIn F _ (by omega), Option.bind_some]
        dsimp only
        cases hb : bt x (sr i) with
        | true =>
          rw [if_neg (by simp [b2i])]
          exact l_freed F h hm x d (i + 1) k y (by omega) (by omega) (fun v => by rw [hy, wtB_s, hb]; simp)
        | false =>
          rw [if_pos (by simp [b2i]), if_neg hg, a2]
          exact l_freed F h hm x d (i + 1) k _ (by omega) (by omega) (fun v => by
            rw [bt_or, hy, wtB_s, hb, bt_shl1 (by omega)]
            by_cases e : tg i = v
            · simp [ht, e]
            · simp [ht, e, show ¬ v = tg i from fun z => e z.symm])
      · rw [if_pos (nI_lt (by omega) (by omega))]
        exact l_freed F h hm x d (i + 1) k y (by omega) (by omega) (fun v => by rw [hy, wtB_s]; simp [ht])
theorem p_freed (F : Nat) (hF : 100 ≤ F) {u : St} {n m : Nat} {sr tg tk dl : Nat → Nat} (h : SN u n m sr tg tk dl) {most : Nat} (hm : most ≤ 9) (x : Int32) : ∃ z, f_X4_freedBy F x (nI most) u = some (z, u) ∧ ∀ v, bt z v = (decide (v < n) && !wtB sr tg tk most x m v) := by
  have hm20 := h.2.1
  obtain ⟨z, z1, z2⟩ := l_freed F h hm x m 0 F 0 (by omega) (by omega) (fun v => by rw [bt_zero]; rfl)
  refine ⟨(((1 : Int32) <<< (nI n &&& 31)) - 1) &&& (z ^^^ (-1)), ?_, fun v => ?_⟩
  · unfold f_X4_freedBy
    rw [show (0 : Int32) = nI 0 from rfl] at z1 ⊢
    rw [z1, Option.bind_some]
    dsimp only
    rw [show f_X4_allNodes F u = some ((((1 : Int32) <<< ((u.1 22 4) &&& 31)) - (1 : Int32)), u) from rfl, Option.bind_some, h.2.2.1]
  · rw [bt_and, all_bt h.1]
    by_cases hv : v < n
    · have := h.1
      rw [bt_not _ (by omega), z2]
    · simp [hv]
theorem frd_w {n m : Nat} {sr tg tk : Nat → Nat} {most r : Nat} {x : Int32} (hs : ∀ e, e < m → sr e < n) (hx : ∀ v, v < n → bt x v = frd n m sr tg tk most r v) (v : Nat) : (decide (v < n) && !wtB sr tg tk most x m v) = frd n m sr tg tk most (r + 1) v := by
  rw [Bool.eq_iff_iff, frd_s, Bool.and_eq_true]
  unfold wtB
  constructor
  · rintro ⟨q1, q2⟩
    refine ⟨by simpa using q1, fun e he ht hg => ?_⟩
    rw [← hx _ (hs e he)]
    have q3 : ∀ y, y < m → tk y ≤ most → bt x (sr y) = false → ¬ tg y = v := by simpa using q2
    cases hb : bt x (sr e) with
    | true => rfl
    | false => exact absurd hg (q3 e he ht hb)
  · rintro ⟨q1, q2⟩
    refine ⟨by simpa using q1, ?_⟩
    have : (List.range m).any (fun e => decide (tk e ≤ most) && (!bt x (sr e) && decide (tg e = v))) = false := by
      apply List.any_eq_false.mpr
      intro e he
      have hem := List.mem_range.mp he
      by_cases ht : tk e ≤ most
      · by_cases hg : tg e = v
        · have := q2 e hem ht hg
          rw [← hx _ (hs e hem)] at this
          simp [this]
        · simp [hg]
      · simp [ht]
    rw [this]
    rfl
theorem l_behind (F : Nat) (hF : 100 ≤ F) {u : St} {n m : Nat} {sr tg tk dl : Nat → Nat} (h : SN u n m sr tg tk dl) {most : Nat} (hm : most ≤ 9) : ∀ (d i k : Nat) (x : Int32), i + d = n → d < k → (∀ v, v < n → bt x v = frd n m sr tg tk most i v) → ∃ z, l_X4_nodesBehindRings_4 F (nI most) k x (nI i) u = some (z, nI n, u) ∧ ∀ v, v < n → bt z v = frd n m sr tg tk most n v
  | d, i, 0, x, hd, hk, hx => absurd hk (by omega)
  | d, i, k + 1, x, hd, hk, hx => by
    have hn := h.1
    show ∃ z, b_X4_nodesBehindRings_4 F (nI most) (l_X4_nodesBehindRings_4 F (nI most) k) _ _ u = _ ∧ _
    unfold b_X4_nodesBehindRings_4
    rw [h.2.2.1]
    cases d with
    | zero =>
      have : i = n := by omega
      subst this
      rw [if_pos (nI_le (by omega) (by omega))]
      exact ⟨x, rfl, hx⟩
    | succ d =>
      obtain ⟨z, z1, z2⟩ := p_freed F hF h hm x
      rw [if_neg (nI_ge (show i < n by omega) (by omega)), z1, Option.bind_some, nI_1]
      dsimp only
      exact l_behind F hF h hm d (i + 1) k z (by omega) (by omega) (fun v hv => by rw [z2, frd_w (fun e he => (h.2.2.2.2.1 e he).2.2.2.1) hx])
theorem p_behind (F : Nat) (hF : 100 ≤ F) {u : St} {n m : Nat} {sr tg tk dl : Nat → Nat} (h : SN u n m sr tg tk dl) {most : Nat} (hm : most ≤ 9) : ∃ z, f_X4_nodesBehindRings F (nI most) u = some (z, u) ∧ (z = 0 ↔ ∀ r ∈ rgs n m sr tg, ∃ e ∈ r, most < tk e) := by
  have hn := h.1
  have hs : ∀ e, e < m → sr e < n := fun e he => (h.2.2.2.2.1 e he).2.2.2.1
  obtain ⟨z, z1, z2⟩ := l_behind F hF h hm n 0 F 0 (by omega) (by omega) (fun v _ => bt_zero v)
  refine ⟨(((1 : Int32) <<< (nI n &&& 31)) - 1) &&& (z ^^^ (-1)), ?_, ?_, fun hr => ?_⟩
  · unfold f_X4_nodesBehindRings
    rw [show (0 : Int32) = nI 0 from rfl] at z1 ⊢
    rw [z1, Option.bind_some]
    dsimp only
    rw [show f_X4_allNodes F u = some ((((1 : Int32) <<< ((u.1 22 4) &&& 31)) - (1 : Int32)), u) from rfl, Option.bind_some, h.2.2.1]
  · intro h0
    refine frd_none hn hs (fun v hv => ?_)
    rw [← z2 v hv]
    have : bt ((((1 : Int32) <<< (nI n &&& 31)) - 1) &&& (z ^^^ (-1))) v = false := by rw [h0]; exact bt_zero v
    rw [bt_and, all_bt hn, bt_not _ (by omega)] at this
    simpa [hv] using this
  · apply bt_ext
    intro v hv
    rw [bt_and, all_bt hn, bt_not _ hv, bt_zero]
    by_cases hvn : v < n
    · rw [z2 v hvn]
      cases hz : frd n m sr tg tk most n v with
      | true => simp
      | false =>
        obtain ⟨r, r1, r2⟩ := frd_some hn hs hvn hz
        obtain ⟨e, e1, e2⟩ := hr r r1
        have := r2 e e1
        omega
    · simp [hvn]
