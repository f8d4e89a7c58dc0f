/-! the system's way back to a ring, its fraction, and the greatest one -/
theorem l_nor (F : Nat) {u : St} {n m : Nat} {sr tg tk dl : Nat → Nat} (hS : SN u n m sr tg tk dl) {L : Nat → Int} {P T : Nat → Nat} (hL : LR u L P T) {v : Nat} (hlt : ∀ i, itr (fun x => sr (P x)) i v < n) (hok : ∀ i, i < n → P (itr (fun x => sr (P x)) i v) < m ∧ 0 < T (itr (fun x => sr (P x)) i v)) : ∀ (c i k : Nat), i + c = n → c < k → l_X9_nodeOnRing_4 F k (nI (itr (fun x => sr (P x)) i v)) (nI i) u = some (nI (itr (fun x => sr (P x)) n v), nI n, u)
  | c, i, 0, hc, hk => absurd hk (by omega)
  | c, i, k + 1, hc, hk => by
    have hn10 := hS.1
    have hm20 := hS.2.1
    show b_X9_nodeOnRing_4 F (l_X9_nodeOnRing_4 F k) _ _ u = _
    unfold b_X9_nodeOnRing_4
    rw [show f_X4_nodes F u = some (u.1 22 4, u) from rfl, Option.bind_some]
    dsimp only
    rw [hS.2.2.1]
    cases c with
    | zero =>
      have : i = n := by omega
      subst this
      rw [if_pos (nI_le (by omega) (by omega))]
    | succ c =>
      have hx := hlt i
      obtain ⟨o1, o2⟩ := hok i (by omega)
      have hx10 : itr (fun x => sr (P x)) i v < 10 := by omega
      rw [if_neg (nI_ge (show i < n by omega) (by omega)), nI_clamp (by omega), if_neg (gin hx10 (by decide)), (hL _ hx10).2, if_neg (show ¬ T (itr (fun x => sr (P x)) i v) = 0 by omega), if_neg (nI_ne_m1 (by omega)), if_neg (gin hx10 (by decide)), p_srO F hS o1, Option.bind_some, nI_1]
      exact l_nor F hS hL hlt hok c (i + 1) k (by omega) (by omega)
theorem l_putR (F : Nat) {q : Nat} {u : St} {n m : Nat} {sr tg tk dl : Nat → Nat} (hS : SN u n m sr tg tk dl) {L : Nat → Int} {P T : Nat → Nat} (hL : LR u L P T) {c0 K : Nat} (hK : K ≤ n) (hlt : ∀ i, itr (fun x => sr (P x)) i c0 < n) (hok : ∀ i, P (itr (fun x => sr (P x)) i c0) < m ∧ 0 < T (itr (fun x => sr (P x)) i c0)) (hcl : itr (fun x => sr (P x)) K c0 = c0) (hne : ∀ i, 1 ≤ i → i < K → itr (fun x => sr (P x)) i c0 ≠ c0) : ∀ (c i k : Nat), i + c + 1 = K → c + 1 ≤ k → ∃ z, l_X9_putRing_11 F (nI c0) q k (iI (cs (fun x => (dl x : Int)) (fun x => sr (P x)) i c0)) (iI (cs (fun x => ((tkq tk (u.1 27 10) (P x) : Nat) : Int)) (fun x => sr (P x)) i c0)) (nI (itr (fun x => sr (P x)) i c0)) (nI i) u = some (iI (cs (fun x => (dl x : Int)) (fun x => sr (P x)) K c0), iI (cs (fun x => ((tkq tk (u.1 27 10) (P x) : Nat) : Int)) (fun x => sr (P x)) K c0), nI c0, z, u)
  | c, i, 0, hc, hk => absurd hk (by omega)
  | c, i, k + 1, hc, hk => by
    have hn10 := hS.1
    have hm20 := hS.2.1
    show ∃ z, b_X9_putRing_11 F (nI c0) q (l_X9_putRing_11 F (nI c0) q k) _ _ _ _ u = _
    unfold b_X9_putRing_11
    rw [show f_X4_nodes F u = some (u.1 22 4, u) from rfl, Option.bind_some]
    dsimp only
    have hx := hlt i
    obtain ⟨o1, o2⟩ := hok i
    have hx10 : itr (fun x => sr (P x)) i c0 < 10 := by omega
    rw [hS.2.2.1, if_neg (nI_ge (show i < n by omega) (by omega)), nI_clamp (by omega), if_neg (gin hx10 (by decide)), (hL _ hx10).2, if_neg (show ¬ T (itr (fun x => sr (P x)) i c0) = 0 by omega), if_neg (nI_ne_m1 (by omega)), p_dlO F hS hx, Option.bind_some]
    dsimp only
    rw [if_neg (gin hx10 (by decide)), (hL _ hx10).2, if_neg (show ¬ T (itr (fun x => sr (P x)) i c0) = 0 by omega), p_tkR F hS o1, Option.bind_some]
    dsimp only
    rw [if_neg (gin hx10 (by decide)), (hL _ hx10).2, if_neg (show ¬ T (itr (fun x => sr (P x)) i c0) = 0 by omega), p_srO F hS o1, Option.bind_some]
    dsimp only
    rw [← iI_nat (dl (itr (fun x => sr (P x)) i c0)), ← iI_nat (tkq tk (u.1 27 10) (P (itr (fun x => sr (P x)) i c0))), iI_add, iI_add, nI_1]
    have e1 : cs (fun x => (dl x : Int)) (fun x => sr (P x)) i c0 + (dl (itr (fun x => sr (P x)) i c0) : Int) = cs (fun x => (dl x : Int)) (fun x => sr (P x)) (i + 1) c0 := rfl
    have e2 : cs (fun x => ((tkq tk (u.1 27 10) (P x) : Nat) : Int)) (fun x => sr (P x)) i c0 + ((tkq tk (u.1 27 10) (P (itr (fun x => sr (P x)) i c0)) : Nat) : Int) = cs (fun x => ((tkq tk (u.1 27 10) (P x) : Nat) : Int)) (fun x => sr (P x)) (i + 1) c0 := rfl
    have e3 : sr (P (itr (fun x => sr (P x)) i c0)) = itr (fun x => sr (P x)) (i + 1) c0 := rfl
    rw [e1, e2, e3]
    cases c with
    | zero =>
      have hi : i + 1 = K := by omega
      rw [hi, hcl, if_pos rfl]
      exact ⟨_, rfl⟩
    | succ c =>
      have hc0 := hlt 0
      have hc0 : c0 < n := hc0
      have hx1 := hlt (i + 1)
      rw [if_neg (fun z => hne (i + 1) (by omega) (by omega) (nI_inj (by omega) (by omega) z))]
      exact l_putR F hS hL hK hlt hok hcl hne c (i + 1) k (by omega) (by omega)
theorem mod_half {a b : Nat} (hb : 0 < b) (hr : 0 < a % b) : 2 * (b % (a % b)) < b := by
  have h1 := Nat.mod_lt a hb
  generalize a % b = r at hr h1
  by_cases q : 2 * r ≤ b
  · have := Nat.mod_lt b hr
    omega
  · have : b % r = b - r := by
      rw [Nat.mod_eq_sub_mod (by omega), Nat.mod_eq_of_lt (by omega)]
    omega
theorem gcd_st (a b : Nat) : Nat.gcd a b = Nat.gcd b (a % b) := by
  rw [Nat.gcd_comm a b, Nat.gcd_rec b a, Nat.gcd_comm]
theorem s_gcd (F : Nat) (u : St) {a b i k : Nat} (ha : a < 2 ^ 31) (hb : 0 < b) (hb2 : b < 2 ^ 31) (hi : i < 64) : l_X5_commonDivisor_7 F (k + 1) (nI a) (nI b) (nI i) u = l_X5_commonDivisor_7 F k (nI b) (nI (a % b)) (nI (i + 1)) u := by
  show b_X5_commonDivisor_7 F (l_X5_commonDivisor_7 F k) _ _ _ u = _
  unfold b_X5_commonDivisor_7
  rw [show (64 : Int32) = nI 64 from rfl, if_neg (nI_ge hi (by decide)), if_neg (nI_ne0 hb hb2), if_neg (nI_ne0 hb hb2), pk_rem ha hb hb2, nI_1]
theorem e_gcd (F : Nat) (u : St) {a i k : Nat} (hi : i < 64) : l_X5_commonDivisor_7 F (k + 1) (nI a) (nI 0) (nI i) u = some (nI a, nI 0, nI i, u) := by
  show b_X5_commonDivisor_7 F (l_X5_commonDivisor_7 F k) _ _ _ u = _
  unfold b_X5_commonDivisor_7
  rw [show (64 : Int32) = nI 64 from rfl, if_neg (nI_ge hi (by decide)), if_pos (show nI 0 = 0 from rfl)]
theorem l_gcd (F : Nat) (u : St) : ∀ (j a b i k : Nat), a < 2 ^ 31 → b < 2 ^ j → j ≤ 20 → i + 2 * j + 1 ≤ 64 → 2 * j + 1 ≤ k → ∃ y z, l_X5_commonDivisor_7 F k (nI a) (nI b) (nI i) u = some (nI (Nat.gcd a b), y, z, u)
  | 0, a, b, i, k, ha, hb, hj, hi, hk => by
    obtain ⟨k, rfl⟩ : ∃ k', k = k' + 1 := ⟨k - 1, by omega⟩
    have : b = 0 := by omega
    subst this
    exact ⟨_, _, by rw [e_gcd F u (by omega), Nat.gcd_zero_right]⟩
  | j + 1, a, b, i, k, ha, hb, hj, hi, hk => by
    obtain ⟨k, rfl⟩ : ∃ k', k = k' + 1 + 1 := ⟨k - 2, by omega⟩
    have hp : 2 ^ (j + 1) ≤ 2 ^ 20 := Nat.pow_le_pow_right (by decide) hj
    rcases Nat.eq_zero_or_pos b with z | z
    · subst z
      exact ⟨_, _, by rw [e_gcd F u (by omega), Nat.gcd_zero_right]⟩
    · have hr := Nat.mod_lt a z
      rw [s_gcd F u ha z (by omega) (by omega), gcd_st a b]
      rcases Nat.eq_zero_or_pos (a % b) with y | y
      · rw [y]
        exact ⟨_, _, by rw [e_gcd F u (by omega), Nat.gcd_zero_right]⟩
      · have hh := mod_half z y
        rw [s_gcd F u (by omega) y (by omega) (by omega), gcd_st b (a % b)]
        rw [Nat.pow_succ] at hb
        exact l_gcd F u j _ _ _ _ (by omega) (by omega) (by omega) (by omega) (by omega)
theorem p_putF (F : Nat) (hF : 100 ≤ F) (q : Nat) (u : St) {D T : Nat} (hD : D ≤ 2000) (hT0 : 0 < T) (hT : T ≤ 2000) : f_X5_put F q (nI D) (nI T) u = some (wr (wr u q 0 (nI (D / Nat.gcd D T))) q 1 (nI (T / Nat.gcd D T))) := by
  obtain ⟨y, z, h⟩ := l_gcd F u 11 D T 0 F (by omega) (by omega) (by decide) (by decide) (by omega)
  have hg : 0 < Nat.gcd D T := Nat.gcd_pos_of_pos_right _ hT0
  have hg2 : Nat.gcd D T ≤ T := Nat.le_of_dvd hT0 (Nat.gcd_dvd_right _ _)
  have h : l_X5_commonDivisor_7 F F (nI D) (nI T) 0 u = some (nI (Nat.gcd D T), y, z, u) := h
  unfold f_X5_put f_X5_commonDivisor
  rw [h, Option.bind_some, Option.bind_some]
  dsimp only
  rw [if_neg (nI_ne0 hg (by omega)), if_neg (nI_ne0 hg (by omega)), if_neg (nI_ne0 hg (by omega)), pk_div (by omega) hg (by omega), pk_div (by omega) hg (by omega)]
theorem nsm_ws {f : Nat → Nat} : ∀ r : List Nat, ((nsm f r : Nat) : Int) = ws (fun e => (f e : Int)) r
  | [] => rfl
  | a :: r => by
    show ((f a + nsm f r : Nat) : Int) = (f a : Int) + ws _ r
    rw [← nsm_ws r]
    omega
theorem ws_wt {A B : Int} {x : Int32} {tg tk dl : Nat → Nat} : ∀ r : List Nat, ws (wt A B x tg tk dl) r = B * ((nsm (fun e => dl (tg e)) r : Nat) : Int) - A * ((nsm (tkq tk x) r : Nat) : Int)
  | [] => by simp [ws, nsm]
  | a :: r => by
    show wt A B x tg tk dl a + ws _ r = B * ((dl (tg a) + nsm (fun e => dl (tg e)) r : Nat) : Int) - A * ((tkq tk x a + nsm (tkq tk x) r : Nat) : Int)
    rw [ws_wt r]
    unfold wt
    rw [Int.natCast_add, Int.natCast_add, Int.mul_add, Int.mul_add]
    omega
theorem ws_one : ∀ r : List Nat, ws (fun _ => 1) r = (r.length : Int)
  | [] => rfl
  | a :: r => by
    show 1 + ws _ r = _
    rw [ws_one r, List.length_cons]
    omega
theorem cs_one (g : Nat → Nat) (c : Nat) : ∀ k : Nat, cs (fun _ => 1) g k c = (k : Int)
  | 0 => rfl
  | k + 1 => by
    show cs _ g k c + 1 = _
    rw [cs_one g c k]
    omega
theorem cs_cg {f h : Nat → Int} {g : Nat → Nat} {c : Nat} (e : ∀ i, f (itr g i c) = h (itr g i c)) : ∀ k, cs f g k c = cs h g k c
  | 0 => rfl
  | k + 1 => by
    show cs f g k c + f (itr g k c) = cs h g k c + h (itr g k c)
    rw [cs_cg e k, e k]
def mu (Z : Nat) (A B : Int) : Nat := cn (fun i => decide (A * ((i / 1001 + 1 : Nat) : Int) < B * ((i % 1001 : Nat) : Int))) Z
theorem mu_lt {Z : Nat} (hZ : Z = 100100) {A B : Int} {a b D T : Nat} (hB : 0 < B) (hb : 0 < b) (hT : 0 < T) (hT2 : T ≤ 100) (hD : D ≤ 1000) (he : a * T = D * b) (hlt : A * (T : Int) < B * (D : Int)) : mu Z (a : Int) (b : Int) + 1 ≤ mu Z A B := by
  have heI : (a : Int) * (T : Int) = (D : Int) * (b : Int) := by
    rw [← Int.natCast_mul, ← Int.natCast_mul, he]
  unfold mu
  refine cn_st Z (fun i hi hp => ?_) ⟨(T - 1) * 1001 + D, by omega, ?_, ?_⟩
  · have h1 : (a : Int) * ((i / 1001 + 1 : Nat) : Int) < (b : Int) * ((i % 1001 : Nat) : Int) := of_decide_eq_true hp
    apply decide_eq_true
    have ht : (0 : Int) < ((i / 1001 + 1 : Nat) : Int) := by omega
    generalize ((i / 1001 + 1 : Nat) : Int) = t at h1 ht
    generalize ((i % 1001 : Nat) : Int) = d at h1
    have hbI : (0 : Int) < (b : Int) := by omega
    have hTI : (0 : Int) < (T : Int) := by omega
    generalize (b : Int) = b at heI h1 hbI
    generalize (T : Int) = T at heI hlt hTI
    generalize (a : Int) = a at heI h1
    generalize (D : Int) = D at heI hlt
    rcases Int.lt_or_le (A * t) (B * d) with z | z
    · exact z
    · exfalso
      have k1 : B * d * (T * b) ≤ A * t * (T * b) := Int.mul_le_mul_of_nonneg_right z (Int.mul_nonneg (by omega) (by omega))
      have k2 : (A * T) * (t * b) < (B * D) * (t * b) := Int.mul_lt_mul_of_pos_right hlt (Int.mul_pos ht hbI)
      have k3 : (B * T) * (a * t) < (B * T) * (b * d) := Int.mul_lt_mul_of_pos_left h1 (Int.mul_pos hB hTI)
      have i1 : A * t * (T * b) = (A * T) * (t * b) := by ac_rfl
      have i2 : (B * D) * (t * b) = (B * T) * (a * t) := by
        have : (B * D) * (t * b) = (B * t) * (D * b) := by ac_rfl
        rw [this, ← heI]
        ac_rfl
      have i3 : B * d * (T * b) = (B * T) * (b * d) := by ac_rfl
      rw [i1, i3] at k1
      rw [i2] at k2
      exact Int.lt_irrefl _ (Int.lt_of_lt_of_le (Int.lt_trans k2 k3) k1)
  · have e1 : ((T - 1) * 1001 + D) / 1001 + 1 = T := by omega
    have e2 : ((T - 1) * 1001 + D) % 1001 = D := by omega
    rw [e1, e2]
    exact decide_eq_true hlt
  · have e1 : ((T - 1) * 1001 + D) / 1001 + 1 = T := by omega
    have e2 : ((T - 1) * 1001 + D) % 1001 = D := by omega
    rw [e1, e2]
    apply decide_eq_false
    rw [heI, Int.mul_comm]
    exact Int.lt_irrefl _
def At (n m : Nat) (sr tg tk dl : Nat → Nat) (y : Int32) (A B : Int) : Prop := (A = -1 ∧ B = 1) ∨ ∃ a b : Nat, A = (a : Int) ∧ B = (b : Int) ∧ 0 < b ∧ Nat.gcd a b = 1 ∧ ∃ r ∈ rgs n m sr tg, a * nsm (tkq tk y) r = nsm (fun e => dl (tg e)) r * b
theorem l_find (F : Nat) (hF : 100 ≤ F) {Z : Nat} (hZ : Z = 100100) {q : Nat} {y : Int32} {n m : Nat} {sr tg tk dl : Nat → Nat} (hd : ∀ r ∈ rgs n m sr tg, 0 < nsm (tkq tk y) r) : ∀ (k N i : Nat) (u : St) (A B : Int), mu Z A B ≤ N → i + N < 1000000 → N < k → SQ q y A B u n m sr tg tk dl → At n m sr tg tk dl y A B → ∃ (u' : St) (A' B' : Int) (L : Nat → Int), l_X9_findGreatest_6 F q k (nI i) u = some (Sum.inl u') ∧ Fr [q, 31, 32] u u' ∧ SQ q y A' B' u' n m sr tg tk dl ∧ At n m sr tg tk dl y A' B' ∧ ∀ e, e < m → L (sr e) + wt A' B' y tg tk dl e ≤ L (tg e)
  | 0, N, i, u, A, B, hm, hi, hk, hS, hA => absurd hk (by omega)
  | k + 1, N, i, u, A, B, hm, hi, hk, hS, hA => by
    have hn10 := hS.1.1
    have hm20 := hS.1.2.1
    show ∃ (u' : St) (A' B' : Int) (L : Nat → Int), b_X9_findGreatest_6 F q (l_X9_findGreatest_6 F q k) (nI i) u = _ ∧ _
    unfold b_X9_findGreatest_6
    rw [show (1000000 : Int32) = nI 1000000 from rfl, if_neg (nI_ge (show i < 1000000 by omega) (by decide))]
    rcases p_nbg F hF hS with ⟨u', L, h1, h2, h3⟩ | ⟨g, u', L, P, T, hg, h1, h2, h3, h4, h5⟩
    · rw [h1, Option.bind_some]
      dsimp only
      rw [if_pos rfl]
      exact ⟨u', A, B, L, rfl, h2.mono (by intro z hz; simp at hz ⊢; omega), hS.fr h2, hA, h3⟩
    · rw [h1, Option.bind_some]
      dsimp only
      rw [if_neg (nI_ne_m1 (by omega))]
      have hS' := hS.fr h2
      obtain ⟨b1, b2, K, K1, K2, K3, K4, K5, r, r1, r2, r3⟩ := h4.back hn10 (fun e he => (hS.1.2.2.2.2.1 e he).2.2.2.1) hg h5
      have e1 : f_X9_nodeOnRing F (nI g) u' = some (nI (itr (fun x => sr (P x)) n g), u') := by
        unfold f_X9_nodeOnRing
        have := l_nor F hS'.1 h3 b2 (fun i hi => ⟨(b1 i hi).1, (b1 i hi).2.1⟩) n 0 F (by omega) (by omega)
        rw [show (0 : Int32) = nI 0 from rfl]
        have this : l_X9_nodeOnRing_4 F F (nI g) (nI 0) u' = _ := this
        rw [this]
        rfl
      rw [e1, Option.bind_some]
      dsimp only
      have hlt : ∀ i, itr (fun x => sr (P x)) i (itr (fun x => sr (P x)) n g) < n := fun i => by rw [← itr_add]; exact b2 _
      obtain ⟨z, hz⟩ := l_putR F (q := q) hS'.1 h3 (c0 := itr (fun x => sr (P x)) n g) (K := K) K2 hlt (fun i => ⟨(K5 i).1, (K5 i).2.1⟩) K3 K4 (K - 1) 0 F (by omega) (by omega)
      have hz : l_X9_putRing_11 F (nI (itr (fun x => sr (P x)) n g)) q F 0 0 (nI (itr (fun x => sr (P x)) n g)) 0 u' = _ := hz
      have eT : u'.1 27 10 = y := hS'.2.1
      rw [eT] at hz
      have eD : cs (fun x => (dl x : Int)) (fun x => sr (P x)) K (itr (fun x => sr (P x)) n g) = ((nsm (fun e => dl (tg e)) r : Nat) : Int) := by
        rw [nsm_ws, r2]
        refine cs_cg (fun i => ?_) K
        show _ = ((dl (tg (P (itr (fun x => sr (P x)) i (itr (fun x => sr (P x)) n g)))) : Nat) : Int)
        rw [(K5 i).2.2]
      have eT2 : cs (fun x => ((tkq tk y (P x) : Nat) : Int)) (fun x => sr (P x)) K (itr (fun x => sr (P x)) n g) = ((nsm (tkq tk y) r : Nat) : Int) := by
        rw [nsm_ws, r2]
      rw [eD, eT2, iI_nat, iI_nat] at hz
      have hlen : r.length = K := by
        have q1 := r2 (fun _ => 1)
        rw [ws_one, cs_one] at q1
        omega
      have hin := (rgs_in r r1).1
      have hDle : nsm (fun e => dl (tg e)) r ≤ 100 * r.length := nsm_le r (fun e he => (hS.1.2.2.2.2.2 _ (hS.1.2.2.2.2.1 e (hin e he)).2.2.2.2.1).2)
      have hTle : nsm (tkq tk y) r ≤ 10 * r.length := nsm_le r (fun e he => tkq_le (hS.1.2.2.2.2.1 e (hin e he)).2.2.2.2.2)
      have hT0 := hd r r1
      have hD1 : nsm (fun e => dl (tg e)) r ≤ 1000 := by omega
      have hT1 : nsm (tkq tk y) r ≤ 100 := by omega
      rw [ws_wt] at r3
      generalize hDD : nsm (fun e => dl (tg e)) r = D at *
      generalize hTT : nsm (tkq tk y) r = Tt at *
      have hgp : 0 < Nat.gcd D Tt := Nat.gcd_pos_of_pos_right _ hT0
      have hdv1 : Nat.gcd D Tt * (D / Nat.gcd D Tt) = D := Nat.mul_div_cancel' (Nat.gcd_dvd_left _ _)
      have hdv2 : Nat.gcd D Tt * (Tt / Nat.gcd D Tt) = Tt := Nat.mul_div_cancel' (Nat.gcd_dvd_right _ _)
      have hcop : Nat.gcd (D / Nat.gcd D Tt) (Tt / Nat.gcd D Tt) = 1 := by
        have := Nat.gcd_div (Nat.gcd_dvd_left D Tt) (Nat.gcd_dvd_right D Tt)
        rw [this, Nat.div_self hgp]
      have hbp : 0 < Tt / Nat.gcd D Tt := by
        rcases Nat.eq_zero_or_pos (Tt / Nat.gcd D Tt) with w | w
        · rw [w, Nat.mul_zero] at hdv2; omega
        · exact w
      have heq : D / Nat.gcd D Tt * Tt = D * (Tt / Nat.gcd D Tt) := by
        generalize Nat.gcd D Tt = gg at hdv1 hdv2
        generalize D / gg = a' at hdv1
        generalize Tt / gg = b' at hdv2
        rw [← hdv1, ← hdv2]
        ac_rfl
      have ha1 : D / Nat.gcd D Tt ≤ D := Nat.div_le_self _ _
      have hb1 : Tt / Nat.gcd D Tt ≤ Tt := Nat.div_le_self _ _
      have e2 : f_X9_putRing F (nI (itr (fun x => sr (P x)) n g)) q u' = some (wr (wr u' q 0 (nI (D / Nat.gcd D Tt))) q 1 (nI (Tt / Nat.gcd D Tt))) := by
        unfold f_X9_putRing
        rw [hz, Option.bind_some]
        dsimp only
        rw [p_putF F hF q u' (by omega) hT0 (by omega)]
        rfl
      rw [e2, Option.bind_some, nI_1]
      generalize D / Nat.gcd D Tt = a' at *
      generalize Tt / Nat.gcd D Tt = b' at *
      have hB0 : 0 < B := by
        rcases hS.2.2.2.2.1 with w | w <;> omega
      have hmu := mu_lt hZ (A := A) hB0 hbp hT0 hT1 hD1 heq (by omega)
      have fw : Fr [q, 31, 32] u' (wr (wr u' q 0 (nI a')) q 1 (nI b')) := ((Fr.rf _ u').w (by simp)).w (by simp)
      have hq := hS.2.2.2.2.2
      obtain ⟨v, A2, B2, L2, v1, v2, v3, v4, v5⟩ := l_find F hF hZ hd k (N - 1) (i + 1) (wr (wr u' q 0 (nI a')) q 1 (nI b')) (a' : Int) (b' : Int) (by omega) (by omega) (by omega) ⟨hS'.1.fr fw (by rcases hq with w | w <;> rw [w] <;> decide) (by rcases hq with w | w <;> rw [w] <;> decide) (by rcases hq with w | w <;> rw [w] <;> decide) (by rcases hq with w | w <;> rw [w] <;> decide) (by rcases hq with w | w <;> rw [w] <;> decide), by
          rw [fw.2 27 (by rcases hq with w | w <;> rw [w] <;> decide)]; exact eT, by rw [wr_nek _ (by decide), wr_eq, iI_nat], by rw [wr_eq, iI_nat], Or.inr ⟨by omega, by omega, by omega, by omega⟩, hq⟩ (Or.inr ⟨a', b', rfl, rfl, hbp, hcop, r, r1, by rw [hDD, hTT]; exact heq⟩)
      exact ⟨v, A2, B2, L2, v1, (h2.mono (by intro z hz; simp at hz ⊢; omega)).tr (fw.tr v2), v3, v4, v5⟩
/-- a fraction in lowest terms, the greatest of all rings' -/
def Lw (n m : Nat) (sr tg tk dl : Nat → Nat) (a b : Nat) : Prop := 0 < b ∧ Nat.gcd a b = 1 ∧ (∃ r ∈ rgs n m sr tg, 0 < nsm tk r ∧ a * nsm tk r = nsm (fun e => dl (tg e)) r * b) ∧ ∀ r ∈ rgs n m sr tg, nsm (fun e => dl (tg e)) r * b ≤ a * nsm tk r
theorem p_findG (F : Nat) (hF : 200000 ≤ F) {q : Nat} (hq : q = 28 ∨ q = 29) {u : St} {n m : Nat} {sr tg tk dl : Nat → Nat} (hS : SN u n m sr tg tk dl) (hd : ∀ r ∈ rgs n m sr tg, 0 < nsm (tkq tk (u.1 27 10)) r) (hr : ¬ noR n m sr tg) : ∃ (u' : St) (a b : Nat), f_X9_findGreatest F q u = some u' ∧ Fr [q, 31, 32] u u' ∧ u'.1 q 0 = nI a ∧ u'.1 q 1 = nI b ∧ Lw n m sr tg (tkq tk (u.1 27 10)) dl a b ∧ a ≤ 1000 ∧ b ≤ 100 := by
  have fw : Fr [q, 31, 32] u (wr (wr u q 0 (-1)) q 1 1) := ((Fr.rf _ u).w (by simp)).w (by simp)
  have h27 : (wr (wr u q 0 (-1)) q 1 1).1 27 10 = u.1 27 10 := by rw [fw.2 27 (by rcases hq with w | w <;> rw [w] <;> decide)]
  obtain ⟨Z, hZ⟩ : ∃ Z : Nat, Z = 100100 := ⟨_, rfl⟩
  have hmu : mu Z (-1) 1 ≤ Z := cn_le _ _
  obtain ⟨v, A, B, L, v1, v2, v3, v4, v5⟩ := l_find F (by omega) hZ (q := q) (y := u.1 27 10) hd F Z 0 (wr (wr u q 0 (-1)) q 1 1) (-1) 1 hmu (by omega) (by omega) ⟨hS.fr fw (by rcases hq with w | w <;> rw [w] <;> decide) (by rcases hq with w | w <;> rw [w] <;> decide) (by rcases hq with w | w <;> rw [w] <;> decide) (by rcases hq with w | w <;> rw [w] <;> decide) (by rcases hq with w | w <;> rw [w] <;> decide), h27, by rw [wr_nek _ (by decide), wr_eq]; rfl, by rw [wr_eq]; rfl, Or.inl ⟨rfl, rfl⟩, hq⟩ (Or.inl ⟨rfl, rfl⟩)
  have hall : ∀ r ∈ rgs n m sr tg, B * ((nsm (fun e => dl (tg e)) r : Nat) : Int) ≤ A * ((nsm (tkq tk (u.1 27 10)) r : Nat) : Int) := fun r hr => by
    have := rgs_pot (n := n) v5 r hr
    rw [ws_wt] at this
    omega
  have e : f_X9_findGreatest F q u = some v := by
    unfold f_X9_findGreatest
    rw [show f_X5_putBelowAll F q u = some (wr (wr u q 0 (-1)) q 1 1) from rfl, Option.bind_some]
    rw [show (0 : Int32) = nI 0 from rfl, v1]
    rfl
  rcases v4 with ⟨z1, z2⟩ | ⟨a, b, z1, z2, z3, z4, z5⟩
  · exfalso
    cases hrr : rgs n m sr tg with
    | nil => exact hr hrr
    | cons r R =>
      have hm : r ∈ rgs n m sr tg := by rw [hrr]; exact List.mem_cons_self
      have h1 := hall r hm
      have h2 := hd r hm
      rw [z1, z2] at h1
      omega
  · subst z1
    subst z2
    have hbd := v3.2.2.2.2.1
    refine ⟨v, a, b, e, fw.tr v2, by rw [v3.2.2.1, iI_nat], by rw [v3.2.2.2.1, iI_nat], ⟨z3, z4, ?_, fun r hr => ?_⟩, by omega, by omega⟩
    · obtain ⟨r, r1, r2⟩ := z5
      exact ⟨r, r1, hd r r1, r2⟩
    rw [Nat.mul_comm]
    refine Int.ofNat_le.mp ?_
    rw [Int.natCast_mul, Int.natCast_mul]
    exact hall r hr
