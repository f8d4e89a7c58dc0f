/-! which signals are asked: the model's answer as a function of its cells, and the system's answer -/
def anyF (m : Nat → Bool) : Nat → Bool
  | 0 => false
  | n + 1 => anyF m n || m n
def mtc (o z : Int32) (s : Int32) : Bool := decide (s &&& o = o) && decide (s &&& z = 0)
def b2i (b : Bool) : Int32 := if b then 1 else 0
def asA (ab : Nat → Bool) : Nat → Int32
  | 0 => 0
  | j + 1 => if ab j then asA ab j ||| ((1 : Int32) <<< (nI j &&& 31)) else asA ab j
def mVal (u : St) (s : Int32) (x : Nat) : Bool := anyF (fun t => mtc (u.1 53 (12 * x + t)) (u.1 54 (12 * x + t)) s) (u.1 52 x).toNatClampNeg
def askB (u : St) (s : Int32) (x : Nat) : Bool := !decide (u.1 52 x = -1) && (decide (u.1 58 x = 0) && (mVal u s x != bt s x))
def asM (u : St) (s : Int32) : Int32 := asA (askB u s) 12
def WfM (u : St) : Prop := ∀ x, x < 12 → u.1 52 x = -1 ∨ ∃ n, n ≤ 12 ∧ u.1 52 x = nI n
theorem asA_bt (ab : Nat → Bool) : ∀ n, n ≤ 32 → ∀ j, bt (asA ab n) j = (decide (j < n) && ab j)
  | 0, _, j => by simp [asA, bt_zero]
  | n + 1, hn, j => by
    have ih := asA_bt ab n (by omega) j
    unfold asA
    by_cases h : ab n = true
    · rw [if_pos h, bt_or, ih, bt_shl1 (by omega)]
      by_cases e : j = n
      · subst e; simp [h]
      · by_cases l : j < n
        · simp [e, l, show j < n + 1 by omega]
        · simp [e, l, show ¬ j < n + 1 by omega]
    · rw [if_neg h, ih]
      by_cases e : j = n
      · subst e; simp [h]
      · by_cases l : j < n
        · simp [l, show j < n + 1 by omega]
        · simp [l, show ¬ j < n + 1 by omega]
theorem asM_bt (u : St) (s : Int32) (j : Nat) : bt (asM u s) j = (decide (j < 12) && askB u s j) := asA_bt _ 12 (by decide) j
theorem asM_S12 (u : St) (s : Int32) : S12 (asM u s) := fun j hj => by rw [asM_bt]; simp [show ¬ j < 12 by omega]
theorem askB_congr {u v : St} (h52 : v.1 52 = u.1 52) (h53 : v.1 53 = u.1 53) (h54 : v.1 54 = u.1 54) (h58 : v.1 58 = u.1 58) : askB v = askB u := by
  funext s x
  unfold askB mVal
  rw [h52, h53, h54, h58]
theorem asM_congr {u v : St} (h52 : v.1 52 = u.1 52) (h53 : v.1 53 = u.1 53) (h54 : v.1 54 = u.1 54) (h58 : v.1 58 = u.1 58) : asM v = asM u := by
  funext s
  unfold asM
  rw [askB_congr h52 h53 h54 h58]
theorem nI_12x {x t : Nat} (hx : x < 12) (ht : t < 12) : (12 : Int32) * nI x + nI t = nI (12 * x + t) := by
  rw [show (12 : Int32) = nI 12 from rfl, pk_mul, nI_add]
theorem b2i_0 (b : Bool) : b2i b = 0 ↔ b = false := by cases b <;> simp [b2i]
theorem b2i_1 (b : Bool) : b2i b = 1 ↔ b = true := by cases b <;> simp [b2i]
theorem l_mask_38 (F : Nat) (s x2 : Int32) {x n : Nat} (hx : x < 12) (hn : n ≤ 12) (u : St) (hu : u.1 52 x = nI n) : ∀ (d i k : Nat), i + d = n → d < k → l_X12_askedIn_38 F s x2 (nI x) k (b2i (anyF (fun t => mtc (u.1 53 (12 * x + t)) (u.1 54 (12 * x + t)) s) i)) (nI i) u = some (b2i (anyF (fun t => mtc (u.1 53 (12 * x + t)) (u.1 54 (12 * x + t)) s) n), nI n, u)
  | d, i, 0, _, hk => absurd hk (by omega)
  | d, i, k + 1, hd, hk => by
    show b_X12_askedIn_38 F s x2 (nI x) (l_X12_askedIn_38 F s x2 (nI x) k) _ (nI i) u = _
    unfold b_X12_askedIn_38
    rw [if_neg (nI_in hx (by decide)), nI_clamp (by omega), hu]
    by_cases h0 : d = 0
    · rw [if_pos (nI_le (by omega) (by omega)), show i = n by omega]
    · rw [if_neg (nI_ge (by omega) (by omega)), nI_12x hx (by omega), nI_clamp (by omega), nI_1]
      have ih := fun (h : (i + 1) + (d - 1) = n) (h2 : d - 1 < k) => l_mask_38 F s x2 hx hn u hu (d - 1) (i + 1) k h h2
      have ih := ih (by omega) (by omega)
      have step : anyF (fun t => mtc (u.1 53 (12 * x + t)) (u.1 54 (12 * x + t)) s) (i + 1) = (anyF (fun t => mtc (u.1 53 (12 * x + t)) (u.1 54 (12 * x + t)) s) i || mtc (u.1 53 (12 * x + i)) (u.1 54 (12 * x + i)) s) := rfl
      rw [step] at ih
      cases hv : anyF (fun t => mtc (u.1 53 (12 * x + t)) (u.1 54 (12 * x + t)) s) i with
      | true =>
        rw [hv] at ih
        rw [if_neg (by simp [b2i])]
        simpa [b2i] using ih
      | false =>
        rw [hv, Bool.false_or] at ih
        rw [if_pos (by simp [b2i]), if_neg (by rw [not_or]; exact ⟨nI_pos (by omega), by omega⟩)]
        have hg : ¬ (nI (12 * x + i) < 0 ∨ 144 ≤ 12 * x + i) := by rw [not_or]; exact ⟨nI_pos (by omega), by omega⟩
        rw [if_neg hg]
        by_cases h1 : s &&& u.1 53 (12 * x + i) = u.1 53 (12 * x + i)
        · rw [if_pos h1, if_neg hg]
          by_cases h2 : s &&& u.1 54 (12 * x + i) = 0
          · rw [if_pos h2]
            simpa [b2i, mtc, h1, h2] using ih
          · rw [if_neg h2]
            simpa [b2i, mtc, h1, h2] using ih
        · rw [if_neg h1]
          simpa [b2i, mtc, h1] using ih
theorem l_mask_4 (F : Nat) (hF : 100 ≤ F) (s : Int32) (u : St) (hw : WfM u) : ∀ (d x k : Nat), x + d = 12 → d < k → l_X12_askedIn_4 F s k (asA (askB u s) x) (nI x) u = some (asM u s, nI 12, u)
  | d, x, 0, _, hk => absurd hk (by omega)
  | d, x, k + 1, hd, hk => by
    show b_X12_askedIn_4 F s (l_X12_askedIn_4 F s k) _ (nI x) u = _
    unfold b_X12_askedIn_4
    rw [show (12 : Int32) = nI 12 from rfl]
    by_cases h0 : d = 0
    · rw [if_pos (nI_le (by omega) (by omega)), show x = 12 by omega]
      rfl
    · have hx : x < 12 := by omega
      rw [if_neg (nI_ge hx (by decide)), if_neg (nI_in hx (by decide)), nI_clamp (by omega), nI_1]
      have ih := l_mask_4 F hF s u hw (d - 1) (x + 1) k (by omega) (by omega)
      have step : asA (askB u s) (x + 1) = if askB u s x then asA (askB u s) x ||| ((1 : Int32) <<< (nI x &&& 31)) else asA (askB u s) x := rfl
      rw [step] at ih
      rcases hw x hx with he | ⟨n, hn, he⟩
      · rw [if_pos he]
        simpa [askB, he] using ih
      · have hne : ¬ u.1 52 x = -1 := by
          rw [he]
          intro h
          have := congrArg Int32.toInt h
          rw [nI_toInt (by omega)] at this
          have e : ((-1 : Int32)).toInt = -1 := by decide
          rw [e] at this
          omega
        rw [if_neg hne]
        have hg : ¬ (nI x < 0 ∨ 12 ≤ x) := by rw [not_or]; exact ⟨nI_pos (by omega), by omega⟩
        rw [if_neg hg]
        by_cases hs : u.1 58 x = 0
        · rw [if_pos hs]
          have hv : mVal u s x = anyF (fun t => mtc (u.1 53 (12 * x + t)) (u.1 54 (12 * x + t)) s) n := by
            unfold mVal
            rw [he, nI_clamp (by omega)]
          have h38 := l_mask_38 F s (asA (askB u s) x) hx hn u he n 0 F (by omega) (by omega)
          rw [show b2i (anyF (fun t => mtc (u.1 53 (12 * x + t)) (u.1 54 (12 * x + t)) s) 0) = 0 from rfl, show nI 0 = 0 from rfl, ← hv] at h38
          rw [h38]
          show (if (s >>> (nI x &&& 31)) &&& 1 = 1 then _ else _) = _
          have hab : askB u s x = (mVal u s x != bt s x) := by
            unfold askB
            simp [hne, hs]
          rw [hab] at ih
          by_cases hb : bt s x = true
          · rw [if_pos ((bt_t1 s (by omega)).mpr hb)]
            cases hm : mVal u s x with
            | true =>
              rw [hm, hb] at ih
              show (if b2i true = 1 then _ else _) = _
              rw [if_pos (by simp [b2i])]
              simpa using ih
            | false =>
              rw [hm, hb] at ih
              show (if b2i false = 1 then _ else _) = _
              rw [if_neg (by simp [b2i])]
              simpa using ih
          · rw [if_neg (fun h => hb ((bt_t1 s (by omega)).mp h))]
            have hb : bt s x = false := by simpa using hb
            cases hm : mVal u s x with
            | true =>
              rw [hm, hb] at ih
              show (if b2i true = 0 then _ else _) = _
              rw [if_neg (by simp [b2i])]
              simpa using ih
            | false =>
              rw [hm, hb] at ih
              show (if b2i false = 0 then _ else _) = _
              rw [if_pos (by simp [b2i])]
              simpa using ih
        · rw [if_neg hs]
          simpa [askB, hs] using ih
/-- the model's askedIn -/
theorem p_M_asked (F : Nat) (hF : 100 ≤ F) (s : Int32) (u : St) (hw : WfM u) : f_X12_askedIn F s u = some (asM u s, u) := by
  unfold f_X12_askedIn
  have h := l_mask_4 F hF s u hw 12 0 F (by omega) (by omega)
  rw [show asA (askB u s) 0 = 0 from rfl, show nI 0 = 0 from rfl] at h
  rw [h]
  rfl
/-- the system's values of the equations -/
def vlC (u : St) (q : Nat) (s : Int32) : Nat → Int32
  | 0 => 0
  | i + 1 => if mtc (u.1 (q + 2) i) (u.1 (q + 3) i) s then vlC u q s i ||| ((1 : Int32) <<< ((u.1 (q + 1) i) &&& 31)) else vlC u q s i
theorem l_vals (F : Nat) (q : Nat) (s : Int32) (u : St) {n : Nat} (hn : n ≤ 144) (hu : u.1 q 3 = nI n) : ∀ (d i k : Nat), i + d = n → d < k → l_X1_valuesIn_4 F q s k (vlC u q s i) (nI i) u = some (vlC u q s n, nI n, u)
  | d, i, 0, _, hk => absurd hk (by omega)
  | d, i, k + 1, hd, hk => by
    show b_X1_valuesIn_4 F q s (l_X1_valuesIn_4 F q s k) _ (nI i) u = _
    unfold b_X1_valuesIn_4
    rw [hu]
    by_cases h0 : d = 0
    · rw [if_pos (nI_le (by omega) (by omega)), show i = n by omega]
    · have hg : ¬ (nI i < 0 ∨ 144 ≤ i) := by rw [not_or]; exact ⟨nI_pos (by omega), by omega⟩
      rw [if_neg (nI_ge (by omega) (by omega)), show (144 : Int32) = nI 144 from rfl, if_neg (nI_ge (by omega) (by decide)), nI_clamp (by omega), if_neg hg, if_neg hg, nI_1]
      have ih := l_vals F q s u hn hu (d - 1) (i + 1) k (by omega) (by omega)
      have step : vlC u q s (i + 1) = if mtc (u.1 (q + 2) i) (u.1 (q + 3) i) s then vlC u q s i ||| ((1 : Int32) <<< ((u.1 (q + 1) i) &&& 31)) else vlC u q s i := rfl
      rw [step] at ih
      by_cases h1 : s &&& u.1 (q + 2) i = u.1 (q + 2) i
      · rw [if_pos h1, if_neg hg]
        by_cases h2 : s &&& u.1 (q + 3) i = 0
        · rw [if_pos h2, if_neg hg]
          simpa [mtc, h1, h2] using ih
        · rw [if_neg h2]
          simpa [mtc, h1, h2] using ih
      · rw [if_neg h1]
        simpa [mtc, h1] using ih
theorem p_vals (F : Nat) (hF : 200 ≤ F) (q : Nat) (s : Int32) (u : St) {n : Nat} (hn : n ≤ 144) (hu : u.1 q 3 = nI n) : f_X1_valuesIn F q s u = some (vlC u q s n, u) := by
  unfold f_X1_valuesIn
  have h := l_vals F q s u hn hu n 0 F (by omega) (by omega)
  rw [show vlC u q s 0 = 0 from rfl, show nI 0 = 0 from rfl] at h
  rw [h]
  rfl
theorem vlC_congr {u v : St} {q : Nat} (h1 : v.1 (q + 1) = u.1 (q + 1)) (h2 : v.1 (q + 2) = u.1 (q + 2)) (h3 : v.1 (q + 3) = u.1 (q + 3)) (s : Int32) : ∀ n, vlC v q s n = vlC u q s n
  | 0 => rfl
  | n + 1 => by
    unfold vlC
    rw [h1, h2, h3, vlC_congr h1 h2 h3 s n]
/-- the place of the circuit's text -/
def txt (u : St) : Nat := (u.1 4 2).toNatClampNeg
/-- the circuit's equations, as both sides hold them -/
def EqR (u : St) : Prop := ∃ T, T ≤ 144 ∧ u.1 (txt u) 3 = nI T ∧ ∀ x, x < 12 → bt (u.1 (txt u) 4) x = !decide (u.1 52 x = -1) ∧ (u.1 52 x ≠ -1 → ∀ s, bt (vlC u (txt u) s T) x = mVal u s x)
def CirK (u : St) : Prop := IsE (txt u) ∧ WfM u ∧ EqR u ∧ S12 (u.1 (txt u) 4) ∧ (∀ x, x < 12 → bt (u.1 4 4) x = !decide (u.1 58 x = 0)) ∧ ∀ n, n < 4096 → u.1 5 n = -1 ∨ ∀ T, u.1 (txt u) 3 = nI T → T ≤ 144 → u.1 5 n = vlC u (txt u) (nI n) T
theorem IsE.big {q : Nat} (h : IsE q) : q ≠ 5 ∧ q + 1 ≠ 5 ∧ q + 2 ≠ 5 ∧ q + 3 ≠ 5 := by rcases h with rfl | rfl <;> decide
theorem CirK.wr5 {u : St} (h : CirK u) {n : Nat} {v : Int32} (hv : ∀ T, u.1 (txt u) 3 = nI T → T ≤ 144 → v = vlC u (txt u) (nI n) T) : CirK (wr u 5 n v) := by
  obtain ⟨hE, hW, hR, hS, hK, hC⟩ := h
  have ht : txt (wr u 5 n v) = txt u := by
    unfold txt
    rw [wr_ne u (by decide)]
  obtain ⟨b0, b1, b2, b3⟩ := hE.big
  have e : ∀ q, q ≠ 5 → (wr u 5 n v).1 q = u.1 q := fun q hq => wr_ne u hq
  have ev : ∀ s T, vlC (wr u 5 n v) (txt u) s T = vlC u (txt u) s T := fun s T => vlC_congr (e _ b1) (e _ b2) (e _ b3) s T
  have em : ∀ s x, mVal (wr u 5 n v) s x = mVal u s x := fun s x => by
    unfold mVal
    rw [e 52 (by decide), e 53 (by decide), e 54 (by decide)]
  refine ⟨by rw [ht]; exact hE, ?_, ?_, ?_, ?_, ?_⟩
  · intro x hx
    rw [e 52 (by decide)]
    exact hW x hx
  · obtain ⟨T, h1, h2, h3⟩ := hR
    refine ⟨T, h1, ?_, ?_⟩
    · rw [ht, e _ b0]; exact h2
    · intro x hx
      rw [ht, e _ b0, e 52 (by decide)]
      refine ⟨(h3 x hx).1, fun hne s => ?_⟩
      rw [ev, em]
      exact (h3 x hx).2 hne s
  · rw [ht, e _ b0]; exact hS
  · intro x hx
    rw [e 4 (by decide), e 58 (by decide)]
    exact hK x hx
  · intro j hj
    rw [ht, e _ b0]
    by_cases hjn : j = n
    · subst hjn
      right
      intro T hT hT2
      rw [wr_eq, ev]
      exact hv T hT hT2
    · rw [wr_nek u hjn]
      rcases hC j hj with h | h
      · exact Or.inl h
      · right
        intro T hT hT2
        rw [ev]
        exact h T hT hT2
/-- the system's askedIn: the same answer; its cache alone may change -/
theorem p_asked (F : Nat) (hF : 200 ≤ F) {n : Nat} (hn : n < 4096) (u : St) (hc : CirK u) : ∃ u', f_X0_askedIn F (nI n) u = some (asM u (nI n), u') ∧ Fr [5] u u' ∧ CirK u' ∧ asM u' = asM u := by
  have hc0 := hc
  obtain ⟨hE, hW, ⟨T, hT1, hT2, hT3⟩, hS, hK, hC⟩ := hc
  have hg : ¬ (nI n < 0 ∨ 4096 ≤ n) := by rw [not_or]; exact ⟨nI_pos (by omega), by omega⟩
  have val : ∀ v : Int32, v = vlC u (txt u) (nI n) T → (((v ^^^ nI n) &&& (u.1 (txt u) 4)) &&& ((u.1 4 4) ^^^ (-1 : Int32))) = asM u (nI n) := by
    intro v hv
    apply bt_ext
    intro j hj
    rw [bt_and, bt_and, bt_xor, bt_not _ hj, asM_bt]
    by_cases h12 : j < 12
    · obtain ⟨k1, k2⟩ := hT3 j h12
      rw [k1, hK j h12]
      unfold askB
      by_cases hne : u.1 52 j = -1
      · simp [hne]
      · have k3 := k2 hne (nI n)
        rw [hv, k3]
        by_cases h58 : u.1 58 j = 0
        · simp [hne, h58, h12]
        · simp [hne, h58, h12]
    · rw [hS j (by omega)]
      simp [h12]
  have hE' : (u.1 4 2).toNatClampNeg = 7 ∨ (u.1 4 2).toNatClampNeg = 46 := hE
  have hsg : ∀ w : St, f_X1_signals F (txt u) w = some (w.1 (txt u) 4, w) := fun w => rfl
  obtain ⟨b0, b1, b2, b3⟩ := hE.big
  by_cases h5 : u.1 5 n = -1
  · have hv := p_vals F hF (txt u) (nI n) u hT1 hT2
    have h4 : (wr u 5 n (vlC u (txt u) (nI n) T)).1 4 = u.1 4 := wr_ne u (by decide)
    refine ⟨wr u 5 n (vlC u (txt u) (nI n) T), ?_, (Fr.rf [5] u).w (by decide), ?_, ?_⟩
    · unfold f_X0_askedIn
      rw [nI_clamp (by omega), if_neg hg, if_pos h5, if_pos hE', show (u.1 4 2).toNatClampNeg = txt u from rfl, hv]
      simp only [Option.bind_some]
      rw [if_neg hg, if_neg hg, h4, show (u.1 4 2).toNatClampNeg = txt u from rfl, if_pos (show txt u = 7 ∨ txt u = 46 from hE), hsg]
      simp only [Option.bind_some]
      rw [h4, wr_eq, wr_ne u b0, val _ rfl]
    · apply hc0.wr5
      intro T' h1 h2
      rw [hT2] at h1
      rw [nI_inj (by omega) (by omega) h1]
    · exact asM_congr (wr_ne u (by decide)) (wr_ne u (by decide)) (wr_ne u (by decide)) (wr_ne u (by decide))
  · refine ⟨u, ?_, Fr.rf _ _, hc0, rfl⟩
    unfold f_X0_askedIn
    rw [nI_clamp (by omega), if_neg hg, if_neg h5, if_neg hg, if_pos hE', show (u.1 4 2).toNatClampNeg = txt u from rfl, hsg]
    simp only [Option.bind_some]
    rw [val]
    rcases hC n hn with h | h
    · exact absurd h h5
    · exact h T hT2 hT1
