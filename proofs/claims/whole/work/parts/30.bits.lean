/-! bits of an int, and ints as numbers -/
def bt (v : Int32) (j : Nat) : Bool := v.toBitVec.getLsbD j
theorem bt_and (x y : Int32) (j : Nat) : bt (x &&& y) j = (bt x j && bt y j) := by simp [bt]
theorem bt_or (x y : Int32) (j : Nat) : bt (x ||| y) j = (bt x j || bt y j) := by simp [bt]
theorem bt_xor (x y : Int32) (j : Nat) : bt (x ^^^ y) j = (bt x j ^^ bt y j) := by simp [bt]
theorem bt_hi (x : Int32) {j : Nat} (h : 32 ≤ j) : bt x j = false := by
  unfold bt
  exact BitVec.getLsbD_of_ge _ _ h
theorem bt_ones {j : Nat} (h : j < 32) : bt (-1) j = true := by
  have : ∀ j, j < 32 → bt (-1) j = true := by decide
  exact this j h
theorem bt_not (x : Int32) {j : Nat} (h : j < 32) : bt (x ^^^ (-1)) j = !bt x j := by
  rw [bt_xor, bt_ones h]
  simp
theorem bt_zero (j : Nat) : bt 0 j = false := by
  by_cases h : j < 32
  · have : ∀ j, j < 32 → bt 0 j = false := by decide
    exact this j h
  · exact bt_hi _ (by omega)
theorem bt_ext {v w : Int32} (h : ∀ j, j < 32 → bt v j = bt w j) : v = w := by
  apply Int32.toBitVec_inj.mp
  apply BitVec.eq_of_getLsbD_eq
  intro i hi
  exact h i hi
theorem bt_shl1 {k : Nat} (hk : k < 32) (j : Nat) : bt ((1 : Int32) <<< (nI k &&& 31)) j = decide (j = k) := by
  by_cases h : j < 32
  · have : ∀ k, k < 32 → ∀ j, j < 32 → bt ((1 : Int32) <<< (nI k &&& 31)) j = decide (j = k) := by decide +kernel
    exact this k hk j h
  · rw [bt_hi _ (by omega)]
    have : j ≠ k := by omega
    simp [this]
theorem bt_1 (j : Nat) : bt 1 j = decide (j = 0) := by
  by_cases h : j < 32
  · have : ∀ j, j < 32 → bt 1 j = decide (j = 0) := by decide
    exact this j h
  · rw [bt_hi _ (by omega)]
    have : j ≠ 0 := by omega
    simp [this]
theorem sh_amt {k : Nat} (hk : k < 32) : ((nI k &&& 31).toBitVec.smod 32).toNat = k := by
  have : ∀ k, k < 32 → ((nI k &&& 31).toBitVec.smod 32).toNat = k := by decide +kernel
  exact this k hk
theorem bt_shr (v : Int32) {k : Nat} (hk : k < 32) : (v >>> (nI k &&& 31)) &&& 1 = if bt v k then 1 else 0 := by
  apply bt_ext
  intro j hj
  rw [bt_and, bt_1]
  by_cases h0 : j = 0
  · subst h0
    have h1 : bt (v >>> (nI k &&& 31)) 0 = bt v k := by
      unfold bt
      rw [Int32.toBitVec_shiftRight]
      show (v.toBitVec.sshiftRight ((nI k &&& 31).toBitVec.smod 32).toNat).getLsbD 0 = _
      rw [sh_amt hk, BitVec.getLsbD_sshiftRight]
      simp [hk]
    rw [h1]
    cases bt v k
    · simp [bt_zero]
    · simp [bt_1]
  · have e : decide (j = 0) = false := by simp [h0]
    rw [e, Bool.and_false]
    cases bt v k
    · simp [bt_zero]
    · simp [bt_1, h0]
theorem bt_t1 (v : Int32) {k : Nat} (hk : k < 32) : ((v >>> (nI k &&& 31)) &&& 1 = 1) ↔ bt v k = true := by
  rw [bt_shr v hk]
  cases bt v k
  · simp
  · simp
theorem bt_t0 (v : Int32) {k : Nat} (hk : k < 32) : ((v >>> (nI k &&& 31)) &&& 1 = 0) ↔ bt v k = false := by
  rw [bt_shr v hk]
  cases bt v k
  · simp
  · simp
/-- bits of a number -/
theorem bt_nI {n : Nat} (h : n < 2 ^ 32) (j : Nat) : bt (nI n) j = n.testBit j := by
  unfold bt nI
  rw [show (Int32.ofNat n).toBitVec = BitVec.ofNat 32 n from rfl, BitVec.getLsbD_ofNat]
  by_cases hj : j < 32
  · simp [hj]
  · simp [hj]
    rw [Nat.testBit_lt_two_pow (Nat.lt_of_lt_of_le h (Nat.pow_le_pow_right (by decide) (by omega)))]
theorem nI_inj {a b : Nat} (ha : a < 2 ^ 31) (hb : b < 2 ^ 31) (h : nI a = nI b) : a = b := (nI_eq ha hb).mp h
theorem nI_xor {a b : Nat} (ha : a < 2 ^ 31) (hb : b < 2 ^ 31) : nI a ^^^ nI b = nI (a ^^^ b) := by
  apply bt_ext
  intro j hj
  rw [bt_xor, bt_nI (by omega), bt_nI (by omega), bt_nI (Nat.lt_trans (Nat.xor_lt_two_pow ha hb) (by decide)), Nat.testBit_xor]
theorem nI_and {a b : Nat} (ha : a < 2 ^ 31) (hb : b < 2 ^ 31) : nI a &&& nI b = nI (a &&& b) := by
  apply bt_ext
  intro j hj
  rw [bt_and, bt_nI (by omega), bt_nI (by omega), bt_nI (Nat.lt_trans (Nat.and_lt_two_pow a hb) (by decide)), Nat.testBit_and]
theorem shl1_nI {k : Nat} (hk : k < 31) : (1 : Int32) <<< (nI k &&& 31) = nI (2 ^ k) := by
  have : ∀ k, k < 31 → (1 : Int32) <<< (nI k &&& 31) = nI (2 ^ k) := by decide +kernel
  exact this k hk
/-- a set of signals or a state: only the lowest twelve bits -/
def S12 (v : Int32) : Prop := ∀ j, 12 ≤ j → bt v j = false
theorem S12_nI {n : Nat} (h : n < 4096) : S12 (nI n) := fun j hj => by
  rw [bt_nI (by omega)]
  exact Nat.testBit_lt_two_pow (Nat.lt_of_lt_of_le h (Nat.pow_le_pow_right (n := 2) (i := 12) (by decide) hj))
theorem S12_of {v : Int32} (h : S12 v) : ∃ n, n < 4096 ∧ v = nI n := by
  refine ⟨v.toBitVec.toNat, ?_, ?_⟩
  · exact Nat.lt_pow_two_of_testBit (n := 12) _ (fun i hi => h i hi)
  · apply Int32.toBitVec_inj.mp
    show v.toBitVec = BitVec.ofNat 32 v.toBitVec.toNat
    simp
theorem S12_xor {v : Int32} (h : S12 v) {k : Nat} (hk : k < 12) : S12 (v ^^^ ((1 : Int32) <<< (nI k &&& 31))) := fun j hj => by
  rw [bt_xor, h j hj, bt_shl1 (by omega)]
  have : j ≠ k := by omega
  simp [this]
theorem S12_range {n : Nat} (h : n < 4096) : ¬ (nI n < 0 ∨ 4096 ≤ (nI n).toNatClampNeg) := nI_in h (by decide)
theorem wr_get (u : St) (p k : Nat) (v : Int32) (p' k' : Nat) : (wr u p k v).1 p' k' = if p' = p ∧ k' = k then v else u.1 p' k' := rfl
theorem wr_2 (u : St) (p k : Nat) (v : Int32) : (wr u p k v).2 = u.2 := rfl
theorem wr_ne (u : St) {p k : Nat} {v : Int32} {q : Nat} (h : q ≠ p) : (wr u p k v).1 q = u.1 q := (wr_o u p k v q h).symm
theorem wr_nek (u : St) {p k : Nat} {v : Int32} {k' : Nat} (h : k' ≠ k) : (wr u p k v).1 p k' = u.1 p k' := by simp [wr, h]
theorem wr_eq (u : St) {p k : Nat} {v : Int32} : (wr u p k v).1 p k = v := by simp [wr]
/-- the states agree but at some places -/
def Fr (P : List Nat) (u v : St) : Prop := v.2 = u.2 ∧ ∀ q, q ∉ P → v.1 q = u.1 q
theorem Fr.rf (P : List Nat) (u : St) : Fr P u u := ⟨rfl, fun _ _ => rfl⟩
theorem Fr.tr {P : List Nat} {u v w : St} (h : Fr P u v) (g : Fr P v w) : Fr P u w := ⟨g.1.trans h.1, fun q hq => (g.2 q hq).trans (h.2 q hq)⟩
theorem Fr.mono {P P' : List Nat} {u v : St} (h : Fr P u v) (hp : ∀ q, q ∈ P → q ∈ P') : Fr P' u v := ⟨h.1, fun q hq => h.2 q (fun z => hq (hp q z))⟩
theorem Fr.w {P : List Nat} {u v : St} (h : Fr P u v) {p k : Nat} {x : Int32} (hp : p ∈ P) : Fr P u (wr v p k x) := ⟨h.1, fun q hq => (wr_ne v (fun (e : q = p) => hq (by rw [e]; exact hp))).trans (h.2 q hq)⟩
