/-! runs by lots -/
theorem CirI.c5 {u v : St} (h : CirI u) (hc : CirK v) (hm : asM v = asM u) {P : List Nat} (hf : Fr P u v) (hP : ∀ q, q ∈ P → q = 5 ∨ q ∉ CP) (h9 : v.1 50 9 = u.1 50 9) : CirI v := by
  have e : ∀ q, q ∈ CP → q ≠ 5 → v.1 q = u.1 q := fun q hq h5 => hf.2 q (fun z => (hP q z).elim h5 (fun n => n hq))
  obtain ⟨h1, h2, h3, h4, h5, h6, h7⟩ := h
  have ha := aF_eq hm
  have e4 : v.1 4 = u.1 4 := e 4 (by decide) (by decide)
  have hL : LL v = LL u := by unfold LL rsN; rw [ha, e4]
  have hp : pbF v = pbF u := by unfold pbF; rw [e 59 (by decide) (by decide)]
  refine ⟨hc, ?_, ?_, ?_, ?_, ?_, ?_⟩
  · obtain ⟨r, r1, r2, r3⟩ := h2
    exact ⟨r, r1, by rw [e4]; exact r2, by rw [h9]; exact r3⟩
  · rcases h3 with q | ⟨q1, q2, q3⟩
    · exact Or.inl (by rw [e 11 (by decide) (by decide)]; exact q)
    · refine Or.inr ⟨by rw [e 11 (by decide) (by decide)]; exact q1, ?_, ?_⟩
      · rw [ha, e4]
        exact q2.congr (by rw [e 11 (by decide) (by decide)]) (e 12 (by decide) (by decide)) (e 13 (by decide) (by decide)) (e 14 (by decide) (by decide))
      · rw [ha, e4]
        exact q3.congr (by rw [e 11 (by decide) (by decide)]) (e 15 (by decide) (by decide))
  · unfold HzK
    rw [ha, hL, hp, e 16 (by decide) (by decide), e 17 (by decide) (by decide), e 11 (by decide) (by decide)]
    exact h4
  · unfold LvK
    rw [ha, hL, e 18 (by decide) (by decide), e 19 (by decide) (by decide)]
    exact h5
  · unfold PtK
    rw [hp, e 6 (by decide) (by decide)]
    exact h6
  · unfold DrK txt
    rw [e 0 (by decide) (by decide), e4]
    exact h7
def bcI (v : Int32) : Int32 := ((f_J6_bitCount_0f7a4 0 v (fun _ _ => 0, fun _ _ => 0)).getD (0, (fun _ _ => 0, fun _ _ => 0))).1
theorem p_bc (F : Nat) (v : Int32) (u : St) : f_J6_bitCount_0f7a4 F v u = some (bcI v, u) := rfl
def cb (v : Int32) : Nat → Nat
  | 0 => 0
  | x + 1 => cb v x + (if bt v x then 1 else 0)
set_option maxRecDepth 100000 in
theorem bc_all : (List.range 4096).all (fun n => decide (bcI (nI n) = nI (cb (nI n) 12))) = true := by decide +kernel
theorem bc_eq {v : Int32} (h : S12 v) : bcI v = nI (cb v 12) := by
  obtain ⟨n, hn, rfl⟩ := S12_of h
  have := List.all_eq_true.mp bc_all n (List.mem_range.mpr hn)
  simpa using this
theorem cb_le (v : Int32) : ∀ x, cb v x ≤ x
  | 0 => Nat.le_refl _
  | x + 1 => by
    have := cb_le v x
    unfold cb
    split <;> omega
theorem cb_mono (v : Int32) (x : Nat) : ∀ d, cb v x ≤ cb v (x + d)
  | 0 => Nat.le_refl _
  | d + 1 => by
    have := cb_mono v x d
    show cb v x ≤ cb v (x + d) + _
    omega
theorem cb_0 {v : Int32} (h : S12 v) : cb v 12 = 0 ↔ v = 0 := by
  constructor
  · intro h0
    apply bt_ext
    intro j _
    rw [bt_zero]
    by_cases hj : j < 12
    · have h1 := cb_mono v (j + 1) (12 - (j + 1))
      rw [show j + 1 + (12 - (j + 1)) = 12 by omega, h0] at h1
      have h2 : cb v (j + 1) = cb v j + (if bt v j then 1 else 0) := rfl
      cases hb : bt v j with
      | false => rfl
      | true =>
        rw [hb] at h2
        simp at h2
        omega
    · exact h j (by omega)
  · rintro rfl
    decide
theorem pick_ex {v : Int32} {c : Nat} : ∀ n, c < cb v n → ∃ x, x < n ∧ bt v x = true ∧ cb v x = c
  | 0, h => absurd h (by simp [cb])
  | n + 1, h => by
    by_cases h1 : c < cb v n
    · obtain ⟨x, g1, g2, g3⟩ := pick_ex n h1
      exact ⟨x, by omega, g2, g3⟩
    · have h2 : cb v (n + 1) = cb v n + (if bt v n then 1 else 0) := rfl
      cases hb : bt v n with
      | false => rw [hb] at h2; simp at h2; omega
      | true =>
        rw [hb] at h2
        simp at h2
        exact ⟨n, by omega, hb, by omega⟩
theorem cb_step {v : Int32} {x : Nat} (h : bt v x = true) {y : Nat} (hy : x < y) : cb v x + 1 ≤ cb v y := by
  have h1 := cb_mono v (x + 1) (y - (x + 1))
  rw [show x + 1 + (y - (x + 1)) = y by omega] at h1
  have h2 : cb v (x + 1) = cb v x + (if bt v x then 1 else 0) := rfl
  rw [h] at h2
  simp at h2
  omega
theorem l_sip (F : Nat) (v : Int32) {x c : Nat} (hx : x < 12) (hb : bt v x = true) (hc : cb v x = c) (u : St) : ∀ (d i k : Nat), i + d = x → d < k → l_X0_signalInPlace_4 F v (nI c) k (nI (cb v i)) (nI i) u = some (.inl (nI x, u))
  | d, i, 0, _, hk => absurd hk (by omega)
  | d, i, k + 1, hd, hk => by
    show b_X0_signalInPlace_4 F v (nI c) (l_X0_signalInPlace_4 F v (nI c) k) _ _ u = _
    have hi := cb_le v i
    have hcx := cb_le v x
    unfold b_X0_signalInPlace_4
    rw [show (12 : Int32) = nI 12 from rfl, if_neg (nI_ge (show i < 12 by omega) (by decide)), p_isIn F v (by omega)]
    simp only [Option.bind_some, nI_1]
    have h2 : cb v (i + 1) = cb v i + (if bt v i then 1 else 0) := rfl
    cases hbi : bt v i with
    | false =>
      rw [hbi] at h2
      rw [if_pos (by simp [b2i])]
      have hne : i ≠ x := by rintro rfl; rw [hb] at hbi; cases hbi
      have := l_sip F v hx hb hc u (d - 1) (i + 1) k (by omega) (by omega)
      rw [h2] at this
      simpa using this
    | true =>
      rw [hbi] at h2
      rw [if_neg (by simp [b2i])]
      by_cases h0 : d = 0
      · have : i = x := by omega
        subst this
        rw [if_pos (by rw [hc])]
      · have hs := cb_step hbi (show i < x by omega)
        rw [if_neg (fun e => by have := nI_inj (by omega) (by omega) e; omega)]
        have := l_sip F v hx hb hc u (d - 1) (i + 1) k (by omega) (by omega)
        rw [h2] at this
        simpa using this
theorem l_msip (F : Nat) (x1 x4 : Int32) (x5 : Int64) (x7 v : Int32) {x c : Nat} (hx : x < 12) (hb : bt v x = true) (hc : cb v x = c) (u : St) : ∀ (d i k : Nat), i + d = x → d < k → l_X12_runs_88 F x1 x4 x5 x7 v k (nI (c - cb v i)) (nI i) u = some (nI 0, nI x, u)
  | d, i, 0, _, hk => absurd hk (by omega)
  | d, i, k + 1, hd, hk => by
    show b_X12_runs_88 F x1 x4 x5 x7 v (l_X12_runs_88 F x1 x4 x5 x7 v k) _ _ u = _
    have hi := cb_le v i
    have hcx := cb_le v x
    unfold b_X12_runs_88
    rw [bt_shr v (by omega), nI_1]
    have h2 : cb v (i + 1) = cb v i + (if bt v i then 1 else 0) := rfl
    cases hbi : bt v i with
    | false =>
      rw [hbi] at h2
      rw [if_pos (by simp)]
      have hne : i ≠ x := by rintro rfl; rw [hb] at hbi; cases hbi
      have := l_msip F x1 x4 x5 x7 v hx hb hc u (d - 1) (i + 1) k (by omega) (by omega)
      rw [h2] at this
      simpa using this
    | true =>
      rw [hbi] at h2
      rw [if_neg (by simp)]
      by_cases h0 : d = 0
      · have : i = x := by omega
        subst this
        rw [if_pos (by rw [hc, Nat.sub_self]; decide), hc, Nat.sub_self]
      · have hs := cb_step hbi (show i < x by omega)
        rw [if_neg (nI_nle (by omega) (by omega))]
        have := l_msip F x1 x4 x5 x7 v hx hb hc u (d - 1) (i + 1) k (by omega) (by omega)
        rw [h2] at this
        simp only [if_true] at this ⊢
        rw [show (1 : Int32) = nI 1 from rfl, pk_sub (by omega), show c - cb v i - 1 = c - (cb v i + 1) by omega]
        exact this
def lotN (x : Int64) : Int64 := x * 6364136223846793005 + 1442695040888963407
theorem lushr_lt (x : Int64) : ∃ a : Nat, a < 2 ^ 31 ∧ lushr x (33 : Int32) = lN a := by
  refine ⟨x.toUInt64.toNat / 2 ^ 33, ?_, ?_⟩
  · have := x.toUInt64.toNat_lt
    omega
  · unfold lushr lN
    have h1 : (((33 : Int32).toInt64.toUInt64) &&& Int64.toUInt64 63) = (33 : UInt64) := by decide
    rw [h1]
    apply Int64.toBitVec_inj.mp
    show (x.toUInt64 >>> (33 : UInt64)).toBitVec = BitVec.ofNat 64 _
    apply BitVec.eq_of_toNat_eq
    rw [BitVec.toNat_ofNat]
    show (x.toUInt64 >>> (33 : UInt64)).toNat = _
    rw [UInt64.toNat_shiftRight]
    have h2 : (33 : UInt64).toNat % 64 = 33 := by decide
    rw [h2, Nat.shiftRight_eq_div_pow]
    have := x.toUInt64.toNat_lt
    rw [Nat.mod_eq_of_lt]
    have : x.toUInt64.toNat / 2 ^ 33 ≤ x.toUInt64.toNat := Nat.div_le_self _ _
    omega
/-- the place that the lot picks -/
theorem lot_pl (x : Int64) {p : Nat} (hp : 0 < p) (hp2 : p ≤ 12) : ∃ c, c < p ∧ ((lushr x (33 : Int32)) - (lushr x (33 : Int32)) / ((nI p).toInt64) * ((nI p).toInt64)).toInt32 = nI c := by
  obtain ⟨a, ha, he⟩ := lushr_lt x
  rw [he, nI_l (by omega), pk_lRem (by omega) hp (by omega), lN_i]
  exact ⟨a % p, Nat.mod_lt _ hp, rfl⟩
