/-! the model's search over all nodes, and what it found -/
theorem l_goR (F : Nat) (hF : 100 ≤ F) {n m : Nat} {sr tg tk dl : Nat → Nat} {s0 : RS} : ∀ (c i k : Nat) (u : St), i + c = n → c < k → MN u n m sr tg tk dl → RM (rfo tg tk dl s0 ((List.range i).flatMap (fun v => dfs m sr tg 12 v v [v] []))) u → ∃ u', l_X12_goRound_24 F k (nI i) u = some (nI n, u') ∧ RM (rfo tg tk dl s0 ((List.range n).flatMap (fun v => dfs m sr tg 12 v v [v] []))) u' ∧ FG u u'
  | c, i, 0, u, hc, hk, hN, hR => absurd hk (by omega)
  | c, i, k + 1, u, hc, hk, hN, hR => by
    obtain ⟨h1, h2, h3, h4, h5, h6⟩ := id hN
    show ∃ u', b_X12_goRound_24 F (l_X12_goRound_24 F k) _ u = _ ∧ _
    unfold b_X12_goRound_24
    rw [h3]
    cases c with
    | zero =>
      have : i = n := by omega
      subst this
      rw [if_pos (nI_le (by omega) (by omega))]
      exact ⟨u, rfl, hR, FG.rf u⟩
    | succ c =>
      obtain ⟨b1, b2⟩ := h6 i (by omega)
      rw [if_neg (nI_ge (show i < n by omega) (by omega)), nI_clamp (by omega), if_neg (gin (show i < 10 by omega) (by decide)), b1, nI_1]
      obtain ⟨v, v1, v2, v3⟩ := k_round F hF h1 h2 (fun e he => ⟨(h5 e he).2.2.2.2.1, (h6 _ (h5 e he).2.2.2.2.1).2, (h5 e he).2.2.2.2.2⟩) (f := i) (by omega) b2 12 i [i] [] ((1 : Int32) <<< (nI i &&& 31)) (by omega) (by simp) (by intro x hx; rw [List.mem_singleton.mp hx]; omega) rfl rfl (by intro e he; cases he) (fun j => by rw [bt_shl1 (by omega)]; simp) _ u hN hR
      have v1 : f_X12_round F 12 (nI i) (nI i) ((1 : Int32) <<< (nI i &&& 31)) (nI (dl i)) 0 u = some v := v1
      rw [v1, Option.bind_some]
      obtain ⟨w, w1, w2, w3⟩ := l_goR F hF (s0 := s0) c (i + 1) k v (by omega) (by omega) (hN.fg v3) (by
        rw [List.range_succ, List.flatMap_append, rfo_app, List.flatMap_singleton]
        exact v2)
      exact ⟨w, w1, w2, v3.tr w3⟩
theorem p_goR (F : Nat) (hF : 100 ≤ F) {u : St} {n m : Nat} {sr tg tk dl : Nat → Nat} (h : MN u n m sr tg tk dl) : ∃ u', f_X12_goRound F u = some u' ∧ RM (rfo tg tk dl (false, 0, none) (rgs n m sr tg)) u' ∧ FG u u' := by
  have fg : FG u (wl (wl (wr (wr u 50 26 (0 : Int32)) 50 27 (0 : Int32)) 50 28 (-1 : Int64)) 50 29 (1 : Int64)) := ⟨fun q hq => by rw [wl_1, wl_1, wr_ne _ hq, wr_ne _ hq], fun k k1 k2 => by rw [wl_1, wl_1, wr_nek _ k2, wr_nek _ k1]⟩
  have hn := h.1
  obtain ⟨w, w1, w2, w3⟩ := l_goR F hF (s0 := (false, 0, none)) n 0 F _ (by omega) (by omega) (h.fg fg) (by
    show RM (false, 0, none) _
    refine ⟨?_, ?_, ?_, ?_⟩
    · rw [wl_1, wl_1, wr_nek _ (by decide), wr_eq]; rfl
    · rw [wl_1, wl_1, wr_eq]; rfl
    · rw [wl_nek _ (by decide), wl_eq]
    · rw [wl_eq])
  refine ⟨w, ?_, w2, fg.tr w3⟩
  unfold f_X12_goRound
  rw [show (0 : Int32) = nI 0 from rfl] at w1 ⊢
  rw [w1]
  rfl
def Gst (D T : List Nat → Nat) (L : List (List Nat)) (s : RS) : Prop := (s.1 = true ↔ ∃ r ∈ L, T r = 0) ∧ s.2.1 = L.length ∧ match s.2.2 with
  | none => ∀ r ∈ L, T r = 0
  | some q => 0 < q.2 ∧ (∃ r ∈ L, q = (D r, T r)) ∧ ∀ r ∈ L, T r ≠ 0 → D r * q.2 ≤ q.1 * T r
theorem frac_tr {a b c d e f : Nat} (hd : 0 < d) (h1 : a * d ≤ c * b) (h2 : c * f ≤ e * d) : a * f ≤ e * b := by
  apply Nat.le_of_mul_le_mul_left _ hd
  calc d * (a * f) = (a * d) * f := by rw [Nat.mul_comm d (a * f), Nat.mul_assoc, Nat.mul_comm f d, ← Nat.mul_assoc]
    _ ≤ (c * b) * f := Nat.mul_le_mul_right _ h1
    _ = (c * f) * b := by rw [Nat.mul_assoc, Nat.mul_comm b f, ← Nat.mul_assoc]
    _ ≤ (e * d) * b := Nat.mul_le_mul_right _ h2
    _ = d * (e * b) := by rw [Nat.mul_comm e d, Nat.mul_assoc]
theorem Gst.step {D T : List Nat → Nat} {L : List (List Nat)} {s : RS} (h : Gst D T L s) (r : List Nat) : Gst D T (L ++ [r]) (rst s (D r) (T r)) := by
  obtain ⟨h1, h2, h3⟩ := h
  have hmem : ∀ P : List Nat → Prop, (∃ x ∈ L ++ [r], P x) ↔ (∃ x ∈ L, P x) ∨ P r := fun P => by simp [or_and_right, exists_or]
  have hall : ∀ P : List Nat → Prop, (∀ x ∈ L, P x) → P r → ∀ x ∈ L ++ [r], P x := fun P p1 p2 x hx => by
    rcases List.mem_append.mp hx with q | q
    · exact p1 x q
    · rw [List.mem_singleton.mp q]; exact p2
  unfold rst
  by_cases hT : T r = 0
  · rw [if_pos hT]
    refine ⟨?_, ?_, ?_⟩
    · rw [hmem]; simp [hT]
    · show s.2.1 + 1 = _
      rw [h2, List.length_append, List.length_singleton]
    · show (match s.2.2 with
        | none => ∀ x ∈ L ++ [r], T x = 0
        | some q => 0 < q.2 ∧ (∃ x ∈ L ++ [r], q = (D x, T x)) ∧ ∀ x ∈ L ++ [r], T x ≠ 0 → D x * q.2 ≤ q.1 * T x)
      cases hs : s.2.2 with
      | none =>
        rw [hs] at h3
        exact hall _ h3 hT
      | some q =>
        rw [hs] at h3
        exact ⟨h3.1, (hmem _).mpr (Or.inl h3.2.1), hall _ h3.2.2 (fun z => absurd hT z)⟩
  · rw [if_neg hT]
    refine ⟨?_, ?_, ?_⟩
    · show s.1 = true ↔ _
      rw [hmem, h1]; simp [hT]
    · show s.2.1 + 1 = _
      rw [h2, List.length_append, List.length_singleton]
    · cases hs : s.2.2 with
      | none =>
        rw [hs] at h3
        refine ⟨Nat.pos_of_ne_zero hT, (hmem _).mpr (Or.inr rfl), hall _ (fun x hx z => absurd (h3 x hx) z) (fun _ => Nat.le_refl _)⟩
      | some q =>
        rw [hs] at h3
        obtain ⟨q1, q2, q3⟩ := h3
        by_cases hc : q.1 * T r < D r * q.2
        · simp only [if_pos hc]
          exact ⟨Nat.pos_of_ne_zero hT, (hmem _).mpr (Or.inr rfl), hall _ (fun x hx z => frac_tr q1 (q3 x hx z) (Nat.le_of_lt hc)) (fun _ => Nat.le_refl _)⟩
        · simp only [if_neg hc]
          exact ⟨q1, (hmem _).mpr (Or.inl q2), hall _ q3 (fun _ => by omega)⟩
theorem Gst.fold {tg tk dl : Nat → Nat} : ∀ (M L : List (List Nat)) (s : RS), Gst (nsm (fun e => dl (tg e))) (nsm tk) L s → Gst (nsm (fun e => dl (tg e))) (nsm tk) (L ++ M) (rfo tg tk dl s M)
  | [], L, s, h => by rw [List.append_nil]; exact h
  | r :: M, L, s, h => by
    have := Gst.fold M (L ++ [r]) _ (h.step r)
    rw [List.append_assoc] at this
    exact this
theorem Gst.all {tg tk dl : Nat → Nat} (L : List (List Nat)) : Gst (nsm (fun e => dl (tg e))) (nsm tk) L (rfo tg tk dl (false, 0, none) L) := by
  have := Gst.fold (tg := tg) (tk := tk) (dl := dl) L [] (false, 0, none) ⟨by simp, rfl, by simp⟩
  rwa [List.nil_append] at this
/-- q is the greatest of all rings' fractions -/
def Bst (n m : Nat) (sr tg tk dl : Nat → Nat) (q : Nat × Nat) : Prop := 0 < q.2 ∧ (∃ r ∈ rgs n m sr tg, q = (nsm (fun e => dl (tg e)) r, nsm tk r)) ∧ ∀ r ∈ rgs n m sr tg, nsm (fun e => dl (tg e)) r * q.2 ≤ q.1 * nsm tk r
def ddR (n m : Nat) (sr tg tk : Nat → Nat) : Prop := ∃ r ∈ rgs n m sr tg, nsm tk r = 0
def noR (n m : Nat) (sr tg : Nat → Nat) : Prop := rgs n m sr tg = []
/-- what the model's search leaves -/
theorem k_goR (F : Nat) (hF : 100 ≤ F) {u : St} {n m : Nat} {sr tg tk dl : Nat → Nat} (h : MN u n m sr tg tk dl) : ∃ u', f_X12_goRound F u = some u' ∧ FG u u' ∧ ((u'.1 50 26 = 0 ∧ ¬ ddR n m sr tg tk) ∨ (u'.1 50 26 = 1 ∧ ddR n m sr tg tk)) ∧ (u'.1 50 27 = 0 ↔ noR n m sr tg) ∧ (¬ ddR n m sr tg tk → ¬ noR n m sr tg → ∃ q, Bst n m sr tg tk dl q ∧ u'.2 50 28 = lN q.1 ∧ u'.2 50 29 = lN q.2 ∧ q.1 ≤ 2000 ∧ q.2 ≤ 2000) := by
  obtain ⟨u', h1, ⟨r1, r2, r3⟩, h3⟩ := p_goR F hF h
  obtain ⟨g1, g2, g3⟩ := Gst.all (tg := tg) (tk := tk) (dl := dl) (rgs n m sr tg)
  refine ⟨u', h1, h3, ?_, ?_, fun hd hn => ?_⟩
  · rw [r1]
    by_cases hd : ddR n m sr tg tk
    · rw [g1.mpr hd]; exact Or.inr ⟨rfl, hd⟩
    · left
      refine ⟨?_, hd⟩
      rw [b2i_0]
      cases hz : (rfo tg tk dl (false, 0, none) (rgs n m sr tg)).1 with
      | false => rfl
      | true => exact absurd (g1.mp hz) hd
  · rw [r2, g2]
    have hl := rgs_len (sr := sr) (tg := tg) h.1 h.2.1
    constructor
    · intro z
      exact List.length_eq_zero_iff.mp (nI_inj (b := 0) (by omega) (by decide) z)
    · intro z
      rw [show rgs n m sr tg = [] from z]; rfl
  · cases hs : (rfo tg tk dl (false, 0, none) (rgs n m sr tg)).2.2 with
    | none =>
      rw [hs] at g3
      exfalso
      cases hr : rgs n m sr tg with
      | nil => exact hn hr
      | cons r L => exact hd ⟨r, by rw [hr]; exact List.mem_cons_self, g3 r (by rw [hr]; exact List.mem_cons_self)⟩
    | some q =>
      rw [hs] at g3 r3
      exact ⟨q, ⟨g3.1, g3.2.1, fun r hr => g3.2.2 r hr (fun z => hd ⟨r, hr, z⟩)⟩, r3⟩
theorem nsm_0 {f : Nat → Nat} : ∀ (r : List Nat), nsm f r = 0 ↔ ∀ e ∈ r, f e = 0
  | [] => by simp [nsm]
  | a :: r => by
    show f a + nsm f r = 0 ↔ _
    rw [Nat.add_eq_zero_iff, nsm_0 r]
    simp
theorem p_dead (F : Nat) (hF : 100 ≤ F) {u : St} {n m : Nat} {sr tg tk dl : Nat → Nat} (h : SN u n m sr tg tk dl) : (f_X4_hasDeadRing F u = some (1, u) ∧ ddR n m sr tg tk) ∨ (f_X4_hasDeadRing F u = some (0, u) ∧ ¬ ddR n m sr tg tk) := by
  obtain ⟨z, z1, z2⟩ := p_behind F hF h (most := 0) (by decide)
  have z1 : f_X4_nodesBehindRings F 0 u = some (z, u) := z1
  unfold f_X4_hasDeadRing
  rw [z1, Option.bind_some]
  dsimp only
  by_cases hz : z = 0
  · right
    rw [if_pos hz]
    refine ⟨rfl, fun ⟨r, hr, ht⟩ => ?_⟩
    obtain ⟨e, e1, e2⟩ := z2.mp hz r hr
    have := (nsm_0 r).mp ht e e1
    omega
  · left
    rw [if_neg hz]
    refine ⟨rfl, ?_⟩
    by_cases q : ddR n m sr tg tk
    · exact q
    · refine absurd (z2.mpr (fun r hr => ?_)) hz
      by_cases w : ∃ e ∈ r, 0 < tk e
      · exact w
      · exact absurd ⟨r, hr, (nsm_0 r).mpr (fun e he => by
          rcases Nat.eq_zero_or_pos (tk e) with a | a
          · exact a
          · exact absurd ⟨e, he, a⟩ w)⟩ q
theorem p_hasR (F : Nat) (hF : 100 ≤ F) {u : St} {n m : Nat} {sr tg tk dl : Nat → Nat} (h : SN u n m sr tg tk dl) : (f_X4_hasRing F u = some (1, u) ∧ ¬ noR n m sr tg) ∨ (f_X4_hasRing F u = some (0, u) ∧ noR n m sr tg) := by
  obtain ⟨z, z1, z2⟩ := p_behind F hF h (most := 9) (by decide)
  unfold f_X4_hasRing
  rw [show (9 : Int32) = nI 9 from rfl, z1, Option.bind_some]
  dsimp only
  by_cases hz : z = 0
  · right
    rw [if_pos hz]
    refine ⟨rfl, ?_⟩
    cases hr : rgs n m sr tg with
    | nil => exact hr
    | cons r L =>
      have hm : r ∈ rgs n m sr tg := by rw [hr]; exact List.mem_cons_self
      obtain ⟨e, e1, e2⟩ := z2.mp hz r hm
      have := (h.2.2.2.2.1 e ((rgs_in r hm).1 e e1)).2.2.2.2.2
      omega
  · left
    rw [if_neg hz]
    refine ⟨rfl, fun q => hz (z2.mpr (fun r hr => ?_))⟩
    rw [show rgs n m sr tg = [] from q] at hr
    cases hr
/-- what calls about rings leave -/
def RP : List Nat := [27, 28, 29, 30, 31, 32, 33, 34, 35, 36, 37, 38, 39, 40, 41, 42, 43, 44, 45, 50, 70, 71]
def RK (u v : St) : Prop := (∀ q, q ∉ RP → v.1 q = u.1 q) ∧ ∀ k, k ≠ 0 → k ≠ 26 → k ≠ 27 → v.1 50 k = u.1 50 k
theorem RK.rf (u : St) : RK u u := ⟨fun _ _ => rfl, fun _ _ _ _ => rfl⟩
theorem RK.tr {u v w : St} (h : RK u v) (g : RK v w) : RK u w := ⟨fun q hq => (g.1 q hq).trans (h.1 q hq), fun k h0 h1 h2 => (g.2 k h0 h1 h2).trans (h.2 k h0 h1 h2)⟩
theorem FG.rk {u v : St} (h : FG u v) : RK u v := ⟨fun q hq => h.1 q (fun e => hq (by rw [e]; decide)), fun k _ h1 h2 => h.2 k h1 h2⟩
theorem RK.z (u : St) (x : Int32) : RK u (wr u 50 0 x) := ⟨fun q hq => wr_ne _ (fun e => hq (by rw [e]; decide)), fun k h0 _ _ => wr_nek _ h0⟩
theorem NtB.rk {u v : St} {n m : Nat} (h : NtB u n m) (f : RK u v) : NtB v n m := by
  unfold NtB NdK ArK
  rw [f.1 22 (by decide), f.1 23 (by decide), f.1 24 (by decide), f.1 25 (by decide), f.1 26 (by decide), f.1 66 (by decide), f.1 67 (by decide), f.1 68 (by decide), f.1 69 (by decide), f.2 24 (by decide) (by decide) (by decide), f.2 25 (by decide) (by decide) (by decide)]
  exact h
/-- promise 24 -/
theorem op_dead (F : Nat) (hF : 100 ≤ F) {u : St} {n m : Nat} (h : NtB u n m) : ∃ r u2, f_X11_dead F u = some (r, u) ∧ f_X12_dead F u = some (r, u2) ∧ FG (wr u 50 0 0) u2 := by
  obtain ⟨u2, g1, g2, g3, _⟩ := k_goR F hF ((h.rk (RK.z u 0)).mn)
  have e : srN (wr u 50 0 0) = srN u ∧ tgN (wr u 50 0 0) = tgN u ∧ tkN (wr u 50 0 0) = tkN u := ⟨by unfold srN; rw [wr_ne _ (by decide)], by unfold tgN; rw [wr_ne _ (by decide)], by unfold tkN; rw [wr_ne _ (by decide)]⟩
  rw [e.1, e.2.1, e.2.2] at g3
  unfold f_X11_dead f_X12_dead
  rw [g1, Option.bind_some]
  rcases p_dead F hF h.sn with ⟨d1, d2⟩ | ⟨d1, d2⟩
  · rcases g3 with ⟨z1, z2⟩ | ⟨z1, z2⟩
    · exact absurd d2 z2
    · refine ⟨1, u2, ?_, ?_, g2⟩
      · rw [d1, Option.bind_some]; rfl
      · rw [z1]; rfl
  · rcases g3 with ⟨z1, z2⟩ | ⟨z1, z2⟩
    · refine ⟨0, u2, ?_, ?_, g2⟩
      · rw [d1, Option.bind_some]; rfl
      · rw [z1]; rfl
    · exact absurd z2 d2
