/-! fractions in lowest terms; which arc helps most -/
theorem cop_eq {a b c d : Nat} (hb : 0 < b) (hd : 0 < d) (h1 : Nat.gcd a b = 1) (h2 : Nat.gcd c d = 1) (h : a * d = c * b) : a = c ∧ b = d := by
  have c1 : b ∣ d := by
    have : Nat.Coprime b a := by rw [Nat.coprime_comm]; exact h1
    exact this.dvd_of_dvd_mul_left ⟨c, by rw [h, Nat.mul_comm]⟩
  have c2 : d ∣ b := by
    have : Nat.Coprime d c := by rw [Nat.coprime_comm]; exact h2
    exact this.dvd_of_dvd_mul_left ⟨a, by rw [← h, Nat.mul_comm]⟩
  have e := Nat.dvd_antisymm c1 c2
  subst e
  exact ⟨Nat.eq_of_mul_eq_mul_right hb h, rfl⟩
theorem low_eq {a b X Y : Nat} (hb : 0 < b) (hY : 0 < Y) (h1 : Nat.gcd a b = 1) (h : a * Y = X * b) : a = X / Nat.gcd X Y ∧ b = Y / Nat.gcd X Y := by
  have hgp : 0 < Nat.gcd X Y := Nat.gcd_pos_of_pos_right _ hY
  have d1 : Nat.gcd X Y * (X / Nat.gcd X Y) = X := Nat.mul_div_cancel' (Nat.gcd_dvd_left _ _)
  have d2 : Nat.gcd X Y * (Y / Nat.gcd X Y) = Y := Nat.mul_div_cancel' (Nat.gcd_dvd_right _ _)
  have hc : Nat.gcd (X / Nat.gcd X Y) (Y / Nat.gcd X Y) = 1 := by
    have := Nat.gcd_div (Nat.gcd_dvd_left X Y) (Nat.gcd_dvd_right X Y)
    rw [this, Nat.div_self hgp]
  have hp : 0 < Y / Nat.gcd X Y := by
    rcases Nat.eq_zero_or_pos (Y / Nat.gcd X Y) with w | w
    · rw [w, Nat.mul_zero] at d2; omega
    · exact w
  refine cop_eq hb hp h1 hc ?_
  generalize Nat.gcd X Y = g at *
  generalize X / g = x at *
  generalize Y / g = y at *
  apply Nat.eq_of_mul_eq_mul_left hgp
  have e1 : g * (a * y) = a * (g * y) := by ac_rfl
  have e2 : g * (x * b) = (g * x) * b := by ac_rfl
  rw [e1, e2, d1, d2, h]
theorem Lw.uniq {n m : Nat} {sr tg tk dl : Nat → Nat} {a b c d : Nat} (h : Lw n m sr tg tk dl a b) (g : Lw n m sr tg tk dl c d) : a = c ∧ b = d := by
  obtain ⟨h1, h2, ⟨r, r1, r2, r3⟩, h4⟩ := h
  obtain ⟨g1, g2, ⟨s, s1, s2, s3⟩, g4⟩ := g
  have k1 : a * d ≤ c * b := frac_tr r2 (Nat.le_of_eq r3) (g4 r r1)
  have k2 : c * b ≤ a * d := frac_tr s2 (Nat.le_of_eq s3) (h4 s s1)
  exact cop_eq h1 g1 h2 g2 (Nat.le_antisymm k1 k2)
theorem Lw.bst {n m : Nat} {sr tg tk dl : Nat → Nat} {a b : Nat} {q : Nat × Nat} (h : Lw n m sr tg tk dl a b) (g : Bst n m sr tg tk dl q) : a * q.2 = q.1 * b := by
  obtain ⟨h1, h2, ⟨r, r1, r2, r3⟩, h4⟩ := h
  obtain ⟨g1, ⟨s, s1, s2⟩, g3⟩ := g
  have k1 : a * q.2 ≤ q.1 * b := frac_tr r2 (Nat.le_of_eq r3) (g3 r r1)
  have k2 : q.1 * b ≤ a * q.2 := by
    have := h4 s s1
    rw [s2]
    exact this
  exact Nat.le_antisymm k1 k2
theorem Bst.low {n m : Nat} {sr tg tk dl : Nat → Nat} {X Y : Nat} (g : Bst n m sr tg tk dl (X, Y)) : Lw n m sr tg tk dl (X / Nat.gcd X Y) (Y / Nat.gcd X Y) := by
  obtain ⟨g1, ⟨s, s1, s2⟩, g3⟩ := g
  have g1 : 0 < Y := g1
  have g3 : ∀ r ∈ rgs n m sr tg, nsm (fun e => dl (tg e)) r * Y ≤ X * nsm tk r := g3
  obtain ⟨sX, sY⟩ := Prod.mk.inj s2
  have hgp : 0 < Nat.gcd X Y := Nat.gcd_pos_of_pos_right _ g1
  have d1 : Nat.gcd X Y * (X / Nat.gcd X Y) = X := Nat.mul_div_cancel' (Nat.gcd_dvd_left _ _)
  have d2 : Nat.gcd X Y * (Y / Nat.gcd X Y) = Y := Nat.mul_div_cancel' (Nat.gcd_dvd_right _ _)
  have hc : Nat.gcd (X / Nat.gcd X Y) (Y / Nat.gcd X Y) = 1 := by
    have := Nat.gcd_div (Nat.gcd_dvd_left X Y) (Nat.gcd_dvd_right X Y)
    rw [this, Nat.div_self hgp]
  have hp : 0 < Y / Nat.gcd X Y := by
    rcases Nat.eq_zero_or_pos (Y / Nat.gcd X Y) with w | w
    · rw [w, Nat.mul_zero] at d2; omega
    · exact w
  generalize Nat.gcd X Y = g at *
  generalize X / g = x at *
  generalize Y / g = y at *
  have key : ∀ D T : Nat, D * Y ≤ X * T → D * y ≤ x * T := fun D T hh => by
    apply Nat.le_of_mul_le_mul_left _ hgp
    have e1 : g * (D * y) = D * (g * y) := by ac_rfl
    have e2 : g * (x * T) = (g * x) * T := by ac_rfl
    rw [e1, e2, d1, d2]
    exact hh
  have key2 : ∀ D T : Nat, X * T ≤ D * Y → x * T ≤ D * y := fun D T hh => by
    apply Nat.le_of_mul_le_mul_left _ hgp
    have e1 : g * (D * y) = D * (g * y) := by ac_rfl
    have e2 : g * (x * T) = (g * x) * T := by ac_rfl
    rw [e1, e2, d1, d2]
    exact hh
  refine ⟨hp, hc, ⟨s, s1, by rw [← sY]; exact g1, ?_⟩, fun r hr => key _ _ (g3 r hr)⟩
  rw [← sX, ← sY]
  exact Nat.le_antisymm (key2 _ _ (Nat.le_of_eq rfl)) (key _ _ (Nat.le_of_eq rfl))
theorem nsm_cg {f h : Nat → Nat} : ∀ r : List Nat, (∀ e ∈ r, f e = h e) → nsm f r = nsm h r
  | [], _ => rfl
  | a :: r, e => by
    show f a + nsm f r = h a + nsm h r
    rw [e a List.mem_cons_self, nsm_cg r (fun x hx => e x (List.mem_cons_of_mem _ hx))]
theorem nsm_mo {f h : Nat → Nat} : ∀ r : List Nat, (∀ e ∈ r, f e ≤ h e) → nsm f r ≤ nsm h r
  | [], _ => Nat.le_refl _
  | a :: r, e => by
    show f a + nsm f r ≤ h a + nsm h r
    have h1 := e a List.mem_cons_self
    have h2 := nsm_mo r (fun x hx => e x (List.mem_cons_of_mem _ hx))
    omega
theorem Lw.cg {n m : Nat} {sr tg tk tk' dl : Nat → Nat} {a b : Nat} (h : Lw n m sr tg tk dl a b) (e : ∀ x, x < m → tk x = tk' x) : Lw n m sr tg tk' dl a b := by
  obtain ⟨h1, h2, ⟨r, r1, r2, r3⟩, h4⟩ := h
  have hh : ∀ r ∈ rgs n m sr tg, nsm tk r = nsm tk' r := fun r hr => nsm_cg r (fun x hx => e x ((rgs_in r hr).1 x hx))
  refine ⟨h1, h2, ⟨r, r1, by rw [← hh r r1]; exact r2, by rw [← hh r r1]; exact r3⟩, fun r hr => by rw [← hh r hr]; exact h4 r hr⟩
theorem tkq_m1 {tk : Nat → Nat} {m : Nat} (hm : m ≤ 20) {x : Nat} (hx : x < m) : tkq tk (-1) x = tk x := by
  unfold tkq
  rw [if_neg (nI_ne_m1 (by omega))]; rfl
/-- the arcs in order: which one is best so far, and the least fraction in lowest terms -/
def HS (n m : Nat) (sr tg tk dl : Nat → Nat) : Nat → Int32 → Nat → Nat → Prop
  | 0, x, a, b => x = -1 ∧ Lw n m sr tg tk dl a b
  | j + 1, x, a, b => ∃ x0 a0 b0 a1 b1, HS n m sr tg tk dl j x0 a0 b0 ∧ Lw n m sr tg (tkq tk (nI j)) dl a1 b1 ∧ ((a1 * b0 < a0 * b1 ∧ x = nI j ∧ a = a1 ∧ b = b1) ∨ (¬ a1 * b0 < a0 * b1 ∧ x = x0 ∧ a = a0 ∧ b = b0))
theorem HS.uniq {n m : Nat} {sr tg tk dl : Nat → Nat} : ∀ (j : Nat) (x y : Int32) (a b c d : Nat), HS n m sr tg tk dl j x a b → HS n m sr tg tk dl j y c d → x = y ∧ a = c ∧ b = d
  | 0, x, y, a, b, c, d, h, g => ⟨h.1.trans g.1.symm, h.2.uniq g.2⟩
  | j + 1, x, y, a, b, c, d, h, g => by
    obtain ⟨x0, a0, b0, a1, b1, h1, h2, h3⟩ := h
    obtain ⟨y0, c0, d0, c1, d1, g1, g2, g3⟩ := g
    obtain ⟨e1, e2, e3⟩ := HS.uniq j _ _ _ _ _ _ h1 g1
    obtain ⟨e4, e5⟩ := h2.uniq g2
    subst e1; subst e2; subst e3; subst e4; subst e5
    rcases h3 with ⟨z1, z2, z3, z4⟩ | ⟨z1, z2, z3, z4⟩
    · rcases g3 with ⟨w1, w2, w3, w4⟩ | ⟨w1, w2, w3, w4⟩
      · exact ⟨z2.trans w2.symm, z3.trans w3.symm, z4.trans w4.symm⟩
      · exact absurd z1 w1
    · rcases g3 with ⟨w1, w2, w3, w4⟩ | ⟨w1, w2, w3, w4⟩
      · exact absurd w1 z1
      · exact ⟨z2.trans w2.symm, z3.trans w3.symm, z4.trans w4.symm⟩
theorem HS.pos {n m : Nat} {sr tg tk dl : Nat → Nat} : ∀ (j : Nat) (x : Int32) (a b : Nat), HS n m sr tg tk dl j x a b → 0 < b
  | 0, x, a, b, h => h.2.1
  | j + 1, x, a, b, ⟨x0, a0, b0, a1, b1, h1, h2, h3⟩ => by
    rcases h3 with ⟨_, _, _, z⟩ | ⟨_, _, _, z⟩
    · rw [z]; exact h2.1
    · rw [z]; exact HS.pos j _ _ _ h1
theorem ddq {n m : Nat} {sr tg tk : Nat → Nat} (h : ¬ ddR n m sr tg tk) (y : Int32) : ∀ r ∈ rgs n m sr tg, 0 < nsm (tkq tk y) r := fun r hr => by
  have h1 : nsm tk r ≠ 0 := fun z => h ⟨r, hr, z⟩
  have h2 : nsm tk r ≤ nsm (tkq tk y) r := nsm_mo r (fun e _ => by unfold tkq; omega)
  omega
/-- two fractions alike compare alike -/
theorem frac_lt {a b p q c d r s : Nat} (hb : 0 < b) (hq : 0 < q) (hd : 0 < d) (hs : 0 < s) (e1 : a * q = p * b) (e2 : c * s = r * d) : r * q < p * s ↔ c * b < a * d := by
  have i1 : (r * q) * (d * b) = (c * b) * (s * q) := by
    have : (r * q) * (d * b) = (r * d) * (q * b) := by ac_rfl
    rw [this, ← e2]; ac_rfl
  have i2 : (p * s) * (d * b) = (a * d) * (s * q) := by
    have : (p * s) * (d * b) = (p * b) * (s * d) := by ac_rfl
    rw [this, ← e1]; ac_rfl
  have p1 : 0 < d * b := Nat.mul_pos hd hb
  have p2 : 0 < s * q := Nat.mul_pos hs hq
  constructor
  · intro h
    have := Nat.mul_lt_mul_of_pos_right h p1
    rw [i1, i2] at this
    exact Nat.lt_of_mul_lt_mul_right this
  · intro h
    have := Nat.mul_lt_mul_of_pos_right h p2
    rw [← i1, ← i2] at this
    exact Nat.lt_of_mul_lt_mul_right this
