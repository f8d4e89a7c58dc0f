/-! longest paths, arc by arc: lengths L, chosen arcs P, when each node last changed T -/
def iI (z : Int) : Int32 := Int32.ofInt z
theorem iI_nat (n : Nat) : iI (n : Int) = nI n := Int32.ofInt_eq_ofNat
theorem iI_add (a b : Int) : iI a + iI b = iI (a + b) := (Int32.ofInt_add a b).symm
theorem iI_sub (a b : Int) : iI a - iI b = iI (a - b) := (Int32.ofInt_sub a b).symm
theorem iI_mul (a b : Int) : iI a * iI b = iI (a * b) := (Int32.ofInt_mul a b).symm
theorem iI_toInt {a : Int} (h1 : -2000000000 ≤ a) (h2 : a ≤ 2000000000) : (iI a).toInt = a := Int32.toInt_ofInt_of_le (by omega) (by omega)
theorem iI_le {a b : Int} (h1 : -2000000000 ≤ a) (h2 : a ≤ 2000000000) (h3 : -2000000000 ≤ b) (h4 : b ≤ 2000000000) : iI a ≤ iI b ↔ a ≤ b := by
  rw [Int32.le_iff_toInt_le, iI_toInt h1 h2, iI_toInt h3 h4]
def up {α : Type} (f : Nat → α) (k : Nat) (v : α) : Nat → α := fun j => if j = k then v else f j
theorem up_s {α : Type} (f : Nat → α) (k : Nat) (v : α) : up f k v k = v := if_pos rfl
theorem up_n {α : Type} (f : Nat → α) {k j : Nat} (v : α) (h : j ≠ k) : up f k v j = f j := if_neg h
def BF (m : Nat) (sr tg : Nat → Nat) (w : Nat → Int) (rd a : Nat) (L : Nat → Int) (P T : Nat → Nat) : Prop :=
  (∀ v, 0 ≤ L v ∧ L v ≤ 10000 * ((rd * m + a : Nat) : Int)) ∧ (∀ v, T v ≤ rd * m + a) ∧
  (∀ v, 0 < T v → P v < m ∧ tg (P v) = v ∧ (T v ≤ T (sr (P v)) → L v < L (sr (P v)) + w (P v)) ∧ L v ≤ L (sr (P v)) + w (P v) ∧ T v ≤ T (sr (P v)) + m) ∧
  (∀ e, e < a → T (sr e) < rd * m + e + 1 → L (sr e) + w e ≤ L (tg e)) ∧
  (∀ e, a ≤ e → e < m → T (sr e) + m < rd * m + e + 1 → L (sr e) + w e ≤ L (tg e))
theorem BF.zero (m : Nat) (sr tg : Nat → Nat) (w : Nat → Int) : BF m sr tg w 0 0 (fun _ => 0) (fun _ => 0) (fun _ => 0) :=
  ⟨fun v => ⟨Int.le_refl _, by dsimp only; omega⟩, fun v => Nat.zero_le _, fun v h => absurd h (Nat.lt_irrefl 0), fun e he => absurd he (by omega), fun e _ he h => by omega⟩
theorem BF.next {m : Nat} {sr tg : Nat → Nat} {w : Nat → Int} {rd : Nat} {L : Nat → Int} {P T : Nat → Nat} (h : BF m sr tg w rd m L P T) : BF m sr tg w (rd + 1) 0 L P T := by
  obtain ⟨h1, h2, h3, h4, h5⟩ := h
  have e : (rd + 1) * m = rd * m + m := by rw [Nat.add_mul, Nat.one_mul]
  refine ⟨fun v => ?_, fun v => ?_, h3, fun e he => absurd he (by omega), fun x hx he ht => h4 x he ?_⟩
  · rw [e, Nat.add_zero]; exact h1 v
  · rw [e, Nat.add_zero]; exact h2 v
  · rw [e] at ht; omega
theorem BF.stay {m : Nat} {sr tg : Nat → Nat} {w : Nat → Int} {rd a : Nat} {L : Nat → Int} {P T : Nat → Nat} (h : BF m sr tg w rd a L P T) (hc : L (sr a) + w a ≤ L (tg a)) : BF m sr tg w rd (a + 1) L P T := by
  obtain ⟨h1, h2, h3, h4, h5⟩ := h
  refine ⟨fun v => ⟨(h1 v).1, ?_⟩, fun v => ?_, h3, fun e he ht => ?_, fun e he hm ht => h5 e (by omega) hm ht⟩
  · have := (h1 v).2
    omega
  · have := h2 v
    omega
  · by_cases q : e = a
    · rw [q]; exact hc
    · exact h4 e (by omega) ht
theorem BF.grow {m : Nat} {sr tg : Nat → Nat} {w : Nat → Int} {rd a : Nat} {L : Nat → Int} {P T : Nat → Nat} (h : BF m sr tg w rd a L P T) (ha : a < m) (hw : w a ≤ 10000) (hc : L (tg a) < L (sr a) + w a) : BF m sr tg w rd (a + 1) (up L (tg a) (L (sr a) + w a)) (up P (tg a) a) (up T (tg a) (rd * m + a + 1)) := by
  obtain ⟨h1, h2, h3, h4, h5⟩ := h
  have hL : ∀ v, L v ≤ up L (tg a) (L (sr a) + w a) v := fun v => by
    by_cases q : v = tg a
    · rw [q, up_s]; omega
    · rw [up_n _ _ q]; exact Int.le_refl _
  refine ⟨fun v => ?_, fun v => ?_, fun v hv => ?_, fun e he ht => ?_, fun e he hm ht => ?_⟩
  · have a1 := h1 (tg a)
    have a2 := h1 (sr a)
    have a3 := h1 v
    by_cases q : v = tg a
    · rw [q, up_s]
      omega
    · rw [up_n _ _ q]
      omega
  · by_cases q : v = tg a
    · rw [q, up_s]; omega
    · rw [up_n _ _ q]
      have := h2 v
      omega
  · by_cases q : v = tg a
    · subst q
      rw [up_s, up_s, up_s]
      by_cases z : sr a = tg a
      · rw [z, up_s, up_s]
        rw [z] at hc
        exact ⟨ha, rfl, fun _ => by omega, by omega, by omega⟩
      · rw [up_n _ _ z, up_n _ _ z]
        refine ⟨ha, rfl, fun y => ?_, Int.le_refl _, ?_⟩
        · have := h2 (sr a)
          omega
        · rcases Nat.lt_or_ge (T (sr a) + m) (rd * m + a + 1) with y | y
          · have := h5 a (Nat.le_refl _) ha y
            omega
          · exact y
    · rw [up_n _ _ q] at hv
      obtain ⟨p1, p2, p3, p4, p5⟩ := h3 v hv
      rw [up_n _ _ q, up_n _ _ q, up_n _ _ q]
      by_cases z : sr (P v) = tg a
      · rw [z, up_s, up_s]
        rw [z] at p3 p4 p5
        have := h2 v
        exact ⟨p1, p2, fun _ => by omega, by omega, by omega⟩
      · rw [up_n _ _ z, up_n _ _ z]
        exact ⟨p1, p2, p3, p4, p5⟩
  · by_cases z : sr e = tg a
    · rw [z, up_s] at ht
      omega
    · rw [up_n _ _ z] at ht ⊢
      by_cases q : e = a
      · subst q
        rw [up_s]; exact Int.le_refl _
      · exact Int.le_trans (h4 e (by omega) ht) (hL _)
  · by_cases z : sr e = tg a
    · rw [z, up_s] at ht
      omega
    · rw [up_n _ _ z] at ht ⊢
      exact Int.le_trans (h5 e (by omega) hm ht) (hL _)
theorem cs_up {φ f : Nat → Int} {g : Nat → Nat} {c : Nat} : ∀ k, (∀ i, i < k → φ (itr g i c) + 1 ≤ φ (itr g (i + 1) c) + f (itr g i c)) → φ c + k ≤ φ (itr g k c) + cs f g k c
  | 0, _ => by simp [itr, cs]
  | k + 1, h => by
    have h1 := cs_up k (fun i hi => h i (by omega))
    have h2 := h k (by omega)
    show φ c + ((k + 1 : Nat) : Int) ≤ φ (itr g (k + 1) c) + (cs f g k c + f (itr g k c))
    omega
theorem cs_mul (K : Int) {f : Nat → Int} {g : Nat → Nat} {c : Nat} : ∀ k, cs (fun x => K * f x) g k c = K * cs f g k c
  | 0 => by simp [cs]
  | k + 1 => by
    show cs (fun x => K * f x) g k c + K * f (itr g k c) = K * (cs f g k c + f (itr g k c))
    rw [cs_mul K k, Int.mul_add]
/-- a node that still grows in the last of as many rounds as there are nodes leads back to a ring above 0 -/
theorem BF.back {n m : Nat} {sr tg : Nat → Nat} {w : Nat → Int} {L : Nat → Int} {P T : Nat → Nat} {rd a : Nat} (h : BF m sr tg w rd a L P T) (hn : n ≤ 10) (hs : ∀ e, e < m → sr e < n) {v : Nat} (hv : v < n) (hT : (n - 1) * m < T v) : (∀ i, i < n → P (itr (fun x => sr (P x)) i v) < m ∧ 0 < T (itr (fun x => sr (P x)) i v) ∧ tg (P (itr (fun x => sr (P x)) i v)) = itr (fun x => sr (P x)) i v) ∧ (∀ i, itr (fun x => sr (P x)) i v < n) ∧
    ∃ k, 1 ≤ k ∧ k ≤ n ∧ itr (fun x => sr (P x)) k (itr (fun x => sr (P x)) n v) = itr (fun x => sr (P x)) n v ∧ (∀ i, 1 ≤ i → i < k → itr (fun x => sr (P x)) i (itr (fun x => sr (P x)) n v) ≠ itr (fun x => sr (P x)) n v) ∧ (∀ i, P (itr (fun x => sr (P x)) i (itr (fun x => sr (P x)) n v)) < m ∧ 0 < T (itr (fun x => sr (P x)) i (itr (fun x => sr (P x)) n v)) ∧ tg (P (itr (fun x => sr (P x)) i (itr (fun x => sr (P x)) n v))) = itr (fun x => sr (P x)) i (itr (fun x => sr (P x)) n v)) ∧
    ∃ r ∈ rgs n m sr tg, (∀ f, ws f r = cs (fun x => f (P x)) (fun x => sr (P x)) k (itr (fun x => sr (P x)) n v)) ∧ 0 < ws w r := by
  obtain ⟨h1, h2, h3, h4, h5⟩ := h
  generalize hg : (fun x => sr (P x)) = g
  have hgx : ∀ x, g x = sr (P x) := fun x => by rw [← hg]
  have hlow : ∀ i, i < n → (n - 1 - i) * m < T (itr g i v) := fun i => by
    induction i with
    | zero => intro _; exact hT
    | succ i ih =>
      intro hi
      have i1 := ih (by omega)
      have i2 := (h3 (itr g i v) (by omega)).2.2.2.2
      show (n - 1 - (i + 1)) * m < T (g (itr g i v))
      rw [hgx]
      have e : (n - 1 - i) * m = (n - 1 - (i + 1)) * m + m := by
        rw [show n - 1 - i = (n - 1 - (i + 1)) + 1 by omega, Nat.add_mul, Nat.one_mul]
      omega
  have hpos : ∀ i, i < n → 0 < T (itr g i v) := fun i hi => Nat.lt_of_le_of_lt (Nat.zero_le _) (hlow i hi)
  have hnn : ∀ i, i ≤ n → itr g i v < n := fun i hi => by
    cases i with
    | zero => exact hv
    | succ i =>
      show g (itr g i v) < n
      rw [hgx]
      exact hs _ (h3 _ (hpos i (by omega))).1
  obtain ⟨a1, b1, hab, hbn, hE⟩ := php2 (g := fun i => itr g i v) hnn
  have hred : ∀ i, ∃ j, j < n ∧ itr g i v = itr g j v := fun i => by
    induction i with
    | zero => exact ⟨0, by omega, rfl⟩
    | succ i ih =>
      obtain ⟨j, j1, j2⟩ := ih
      by_cases q : j + 1 < n
      · exact ⟨j + 1, q, by show g (itr g i v) = g (itr g j v); rw [j2]⟩
      · refine ⟨n - b1 + a1, by omega, ?_⟩
        show g (itr g i v) = _
        rw [j2]
        show itr g (j + 1) v = _
        rw [show j + 1 = (n - b1) + b1 by omega, itr_add, itr_add]
        rw [show itr g b1 v = itr g a1 v from hE.symm]
  have hok : ∀ i, P (itr g i v) < m ∧ 0 < T (itr g i v) ∧ tg (P (itr g i v)) = itr g i v := fun i => by
    obtain ⟨j, j1, j2⟩ := hred i
    rw [j2]
    have := h3 _ (hpos j j1)
    exact ⟨this.1, hpos j j1, this.2.1⟩
  have hlt : ∀ i, itr g i v < n := fun i => by
    obtain ⟨j, j1, j2⟩ := hred i
    rw [j2]
    exact hnn j (by omega)
  refine ⟨fun i _ => hok i, hlt, ?_⟩
  obtain ⟨k, k1, k2, k3, k4, k5, r, r1, r2, r3⟩ := ring_ex (n := n) (m := m) (sr := sr) (tg := tg) (p := P) (g := g) hn (N := fun x => ∃ i, x = itr g i v) (fun x ⟨i, hi⟩ => by
    rw [hi]
    exact ⟨hlt i, (hok i).1, (hok i).2.2, (hgx _).symm, i + 1, rfl⟩) (v := v) ⟨0, rfl⟩
  refine ⟨k, k1, k2, k3, k4, fun i => ?_, r, r1, r2, ?_⟩
  · rw [← itr_add]; exact hok _
  · rw [r2 w]
    have hK := cs_up (φ := fun x => ((rd * m + a + 1 : Nat) : Int) * L x - (T x : Int)) (f := fun x => ((rd * m + a + 1 : Nat) : Int) * w (P x)) (g := g) (c := itr g n v) k (fun i _ => by
      rw [← itr_add, ← itr_add]
      generalize hx : itr g (i + n) v = x
      have hxp : 0 < T x := by rw [← hx]; exact (hok _).2.1
      have e1 : itr g (i + 1 + n) v = sr (P x) := by
        rw [show i + 1 + n = (i + n) + 1 by omega]
        show g (itr g (i + n) v) = _
        rw [hx, hgx]
      rw [e1]
      obtain ⟨q1, q2, q3, q4, q5⟩ := h3 x hxp
      have t1 := h2 x
      have t2 := h2 (sr (P x))
      generalize L x = lx at q3 q4
      generalize L (sr (P x)) = ly at q3 q4
      generalize w (P x) = wx at q3 q4
      generalize T x = tx at q3 q5 t1
      generalize T (sr (P x)) = ty at q3 q5 t2
      generalize rd * m + a = K at t1 t2
      by_cases z : tx ≤ ty
      · have y := q3 z
        have : ((K + 1 : Nat) : Int) * (lx + 1) ≤ ((K + 1 : Nat) : Int) * (ly + wx) := Int.mul_le_mul_of_nonneg_left (by omega) (by omega)
        rw [Int.mul_add, Int.mul_add] at this
        omega
      · have : ((K + 1 : Nat) : Int) * lx ≤ ((K + 1 : Nat) : Int) * (ly + wx) := Int.mul_le_mul_of_nonneg_left q4 (by omega)
        rw [Int.mul_add] at this
        omega)
    rw [k3, cs_mul] at hK
    rcases Int.lt_or_le 0 (cs (fun x => w (P x)) g k (itr g n v)) with z | z
    · exact z
    · exfalso
      have : ((rd * m + a + 1 : Nat) : Int) * cs (fun x => w (P x)) g k (itr g n v) ≤ ((rd * m + a + 1 : Nat) : Int) * 0 := Int.mul_le_mul_of_nonneg_left z (by omega)
      rw [Int.mul_zero] at this
      omega
