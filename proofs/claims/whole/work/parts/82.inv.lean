/-! the invariant between the calls -/
def NetI (u : St) : Prop := ∃ n m, NtT u n m ∧ TmI u n m (srN u) (tgN u) (tkN u) (dlN u)
def Inv (u : St) : Prop := TpI u ∧ CirI u ∧ BoI u ∧ CntI u ∧ NetI u
theorem TmI.cg {u v : St} {n m : Nat} {sr tg tk dl : Nat → Nat} (h : TmI u n m sr tg tk dl) (hn : n ≤ 10) (e33 : v.1 33 = u.1 33) (e45 : v.1 45 = u.1 45) (eB : ∀ x, x < 10 → v.1 (35 + x) = u.1 (35 + x)) : TmI v n m sr tg tk dl := by
  unfold TmI TmK OL CB
  rw [e33, e45]
  rcases h with q | ⟨O, B, K, k1, k2, t1, t2, t3, t4, t5, t6⟩
  · exact Or.inl q
  · exact Or.inr ⟨O, B, K, k1, k2, t1, t2, t3, t4, t5, fun j j1 j2 x hx => by rw [eB x (by omega)]; exact t6 j j1 j2 x hx⟩
theorem nf_same {u v : St} (h : ∀ q, q ∈ [23, 24, 25, 26] → v.1 q = u.1 q) : srN v = srN u ∧ tgN v = tgN u ∧ tkN v = tkN u ∧ dlN v = dlN u := by
  unfold srN tgN tkN dlN
  rw [h 23 (by decide), h 24 (by decide), h 25 (by decide), h 26 (by decide)]
  exact ⟨rfl, rfl, rfl, rfl⟩
theorem NtB.same {u v : St} {n m : Nat} (h : NtB u n m) (e : ∀ q, q ∈ [22, 23, 24, 25, 26, 66, 67, 68, 69] → v.1 q = u.1 q) (k1 : v.1 50 24 = u.1 50 24) (k2 : v.1 50 25 = u.1 50 25) : NtB v n m := by
  unfold NtB NdK ArK
  rw [e 22 (by decide), e 23 (by decide), e 24 (by decide), e 25 (by decide), e 26 (by decide), e 66 (by decide), e 67 (by decide), e 68 (by decide), e 69 (by decide), k1, k2]
  exact h
theorem NetI.nk {u v : St} (h : NetI u) (k : NK u v) : NetI v := by
  obtain ⟨n, m, ⟨h1, h2⟩, h3⟩ := h
  obtain ⟨e1, e2, e3, e4⟩ := nf_same (u := u) (v := v) (fun q hq => k.1 q (by
    simp only [NP, List.mem_cons, List.not_mem_nil, or_false] at hq ⊢
    omega))
  refine ⟨n, m, ⟨h1.same (fun q hq => k.1 q (by
    simp only [NP, List.mem_cons, List.not_mem_nil, or_false] at hq ⊢
    omega)) (k.2 24 (by decide)) (k.2 25 (by decide)), ?_⟩, ?_⟩
  · rw [e1, e2, e3, e4]
    exact h2.cg (k.1 27 (by decide)) (k.1 28 (by decide))
  · rw [e1, e2, e3, e4]
    exact h3.cg h1.1 (k.1 33 (by decide)) (k.1 45 (by decide)) (fun x hx => k.1 _ (by
      simp only [NP, List.mem_cons, List.not_mem_nil, or_false]
      omega))
theorem CirI.same {u v : St} (h : CirI u) (e : ∀ q, q ∈ CP → v.1 q = u.1 q) (h9 : v.1 50 9 = u.1 50 9) : CirI v := by
  refine h.frT (fun q hq => e q (by
    simp only [CQ, CP, List.mem_cons, List.not_mem_nil, or_false] at hq ⊢
    omega)) (fun i hi => e _ ?_) h9
  rcases h.1.1 with q | q
  · rw [q]
    simp only [CP, List.mem_cons, List.not_mem_nil, or_false]
    omega
  · rw [q]
    simp only [CP, List.mem_cons, List.not_mem_nil, or_false]
    omega
theorem TpI.same {u v : St} (h : TpI u) (e1 : v.1 1 = u.1 1) (e2 : v.1 2 = u.1 2) (e3 : v.1 51 = u.1 51) (e4 : v.1 50 2 = u.1 50 2) : TpI v := by
  obtain ⟨l, h1, h2, h3, h4⟩ := h
  exact ⟨l, h1, h2, h3.fr (by rw [e1]) e2, h4.fr e4 e3⟩
theorem CntI.same {u v : St} (h : CntI u) (hI : CirI u) (e : ∀ q, q ∈ [4, 7, 46, 52] → v.1 q = u.1 q) : CntI v := h.fr (by rw [e 4 (by decide)]) (by rw [e _ (by rcases hI.1.1 with q | q <;> rw [q] <;> decide)]) (e 52 (by decide))
theorem Inv.kpn {u v : St} (h : Inv u) (hc : CirI v) (hb : BoI v) (k : KpN u v) : Inv v := ⟨h.1.kp k, hc, hb, k.cnt h.2.1.1.1 h.2.2.2.1, h.2.2.2.2.nk k.nk⟩
theorem Inv.kp {u v : St} (h : Inv u) (hc : CirI v) (k : Kp u v) : Inv v := h.kpn hc (k.bo h.2.2.1) k.n
theorem Inv.tape {u v : St} (h : Inv u) (ht : TpI v) (f : Fr [1, 2, 50, 51] u v) (k : ∀ j, j ≠ 2 → j ≠ 0 → v.1 50 j = u.1 50 j) : Inv v :=
  ⟨ht, h.2.1.same (fun q hq => f.2 q (by
    simp only [CP, List.mem_cons, List.not_mem_nil, or_false] at hq ⊢
    omega)) (k 9 (by decide) (by decide)), h.2.2.1.fr (f.2 58 (by decide)) (f.2 59 (by decide)), h.2.2.2.1.same h.2.1 (fun q hq => f.2 q (by
    simp only [List.mem_cons, List.not_mem_nil, or_false] at hq ⊢
    omega)), h.2.2.2.2.nk ⟨fun q hq => f.2 q (by
    simp only [NP, List.mem_cons, List.not_mem_nil, or_false] at hq ⊢
    omega), fun j hj => k j (by simp at hj; omega) (by simp at hj; omega)⟩⟩
/-- what is no ring's: a call about rings leaves it -/
theorem Inv.ring {u v : St} (h : Inv u) (e : ∀ q, q ∉ [22, 23, 24, 25, 26, 66, 67, 68, 69] → q ∉ RP → v.1 q = u.1 q) (k : ∀ j, j ∈ [2, 9] → v.1 50 j = u.1 50 j) (hn : NetI v) : Inv v :=
  ⟨h.1.same (e 1 (by decide) (by decide)) (e 2 (by decide) (by decide)) (e 51 (by decide) (by decide)) (k 2 (by decide)), h.2.1.same (fun q hq => e q (by
    simp only [CP, List.mem_cons, List.not_mem_nil, or_false] at hq ⊢
    omega) (by
    simp only [CP, RP, List.mem_cons, List.not_mem_nil, or_false] at hq ⊢
    omega)) (k 9 (by decide)), h.2.2.1.fr (e 58 (by decide) (by decide)) (e 59 (by decide) (by decide)), h.2.2.2.1.same h.2.1 (fun q hq => e q (by
    simp only [List.mem_cons, List.not_mem_nil, or_false] at hq ⊢
    omega) (by
    simp only [RP, List.mem_cons, List.not_mem_nil, or_false] at hq ⊢
    omega)), hn⟩
theorem Inv.ntf {u v : St} (h : Inv u) {n m : Nat} (hn : NtB v n m) (f : NtF u v) : Inv v := by
  obtain ⟨f1, f2, f3, f4, f5, f6, f7⟩ := f
  exact h.ring (fun q h1 h2 => f1.2 q (by
    simp only [RP, List.mem_cons, List.not_mem_nil, or_false] at h1 h2 ⊢
    omega)) (fun j hj => f7 j (by simp at hj; omega) (by simp at hj; omega) (by simp at hj; omega)) ⟨n, m, ⟨hn, Or.inl ⟨f2, f3⟩⟩, Or.inl f4⟩
theorem Inv.rt {u v : St} (h : Inv u) {n m : Nat} (hn : NtT v n m) (hm : TmI u n m (srN u) (tgN u) (tkN u) (dlN u)) (f : RT u v) : Inv v := by
  refine h.ring (fun q h1 h2 => f.1 q (by
    simp only [RP, List.mem_cons, List.not_mem_nil, or_false] at h2 ⊢
    omega)) (fun j hj => f.2 j (by simp at hj; omega) (by simp at hj; omega) (by simp at hj; omega)) ⟨n, m, hn, ?_⟩
  obtain ⟨e1, e2, e3, e4⟩ := nf_eq f.rk
  rw [e1, e2, e3, e4]
  exact hm.cg hn.1.1 (f.1 33 (by decide)) (f.1 45 (by decide)) (fun x hx => f.1 _ (by
    simp only [List.mem_cons, List.not_mem_nil, or_false]
    omega))
/-- the model's longs don't matter -/
theorem Inv.c1 {u v : St} (h : Inv u) (e : v.1 = u.1) : Inv v := h.ring (fun q _ _ => by rw [e]) (fun j _ => by rw [e]) (h.2.2.2.2.nk ⟨fun q _ => by rw [e], fun j _ => by rw [e]⟩)
theorem isIn_k (F : Nat) {y : Int32} (h : ∀ k, 1 ≤ k → k ≤ 200 → y ≠ nI k) (u : St) : f_X12_isIn F y 1 200 u = some (0, u) := by
  unfold f_X12_isIn
  rcases wl_ix y with q | ⟨j, hj, rfl⟩
  · rw [if_pos (Int32.lt_iff_toInt_lt.mpr (by
      have z := Int32.lt_iff_toInt_lt.mp q
      have z1 : (0 : Int32).toInt = 0 := rfl
      have z2 : (1 : Int32).toInt = 1 := rfl
      omega))]
  · by_cases h0 : j = 0
    · subst h0
      rw [if_pos (show nI 0 < 1 by decide)]
    · by_cases h1 : j ≤ 200
      · exact absurd rfl (h j (by omega) h1)
      · rw [if_neg (show ¬ nI j < 1 from nI_nlt (b := 1) (by omega) hj), if_pos (show (200 : Int32) < nI j from nI_lt (a := 200) (by omega) hj)]
theorem tim_k {y : Int32} (h : ∀ k, 1 ≤ k → k ≤ 200 → y ≠ nI k) : y < 1 ∨ (¬ y < 1 ∧ ¬ y ≤ 200) := by
  rcases wl_ix y with q | ⟨j, hj, rfl⟩
  · left
    refine Int32.lt_iff_toInt_lt.mpr ?_
    have z := Int32.lt_iff_toInt_lt.mp q
    have z1 : (0 : Int32).toInt = 0 := rfl
    have z2 : (1 : Int32).toInt = 1 := rfl
    omega
  · by_cases h0 : j = 0
    · subst h0
      left
      decide
    · by_cases h1 : j ≤ 200
      · exact absurd rfl (h j (by omega) h1)
      · exact Or.inr ⟨nI_nlt (b := 1) (by omega) hj, nI_ge (a := 200) (by omega) hj⟩
/-- what the two sides' times tell -/
def TmA (o : Option Int32) (b : Int32) (v : St) : Prop := match o with
  | none => v.1 50 0 = 1
  | some r => v.1 50 0 = 0 ∧ b = r
theorem op_time (F : Nat) (hF : 1000 ≤ F) {u : St} (h : Inv u) (x y : Int32) : ∃ o u1, timF F x y u = some (o, u1) ∧ ∀ w : St, w.1 = u1.1 → ∃ b u2, f_X12_time F x y w = some (b, u2) ∧ Inv u2 ∧ u2.2 = w.2 ∧ TmA o b u2 := by
  obtain ⟨n, m, ⟨hB, hTn⟩, hTm⟩ := h.2.2.2.2
  have hn10 := hB.1
  have h22 := hB.2.2.1
  have h50 := hB.2.2.2.1
  -- both refuse
  have bad : timF F x y u = some (none, u) → (∀ w : St, w.1 = u.1 → f_X12_time F x y w = some (0, wr w 50 0 1)) → ∃ o u1, timF F x y u = some (o, u1) ∧ ∀ w : St, w.1 = u1.1 → ∃ b u2, f_X12_time F x y w = some (b, u2) ∧ Inv u2 ∧ u2.2 = w.2 ∧ TmA o b u2 := fun h1 h2 => by
    refine ⟨none, u, h1, fun w hw => ⟨0, wr w 50 0 1, h2 w hw, ?_, rfl, wr_eq _⟩⟩
    have hI := h.c1 hw
    exact hI.ring (fun q _ hq => wr_ne _ (fun z => hq (by rw [z]; decide))) (fun j hj => wr_nek _ (by simp at hj; omega)) (hI.2.2.2.2.nk ⟨fun q hq => wr_ne _ (fun z => by rw [z] at hq; exact absurd hq (by decide)), fun j hj => wr_nek _ (by simp at hj; omega)⟩)
  have e24 : ∀ w : St, w.1 = u.1 → (wr w 50 0 (1 : Int32)).1 50 24 = nI n := fun w hw => by rw [wr_nek _ (by decide), hw, h50]
  rcases lt_ix x (n := n) (by omega) with ⟨a, ha, rfl⟩ | hx
  · by_cases hy : ∃ k, 1 ≤ k ∧ k ≤ 200 ∧ y = nI k
    · obtain ⟨k, k1, k2, rfl⟩ := hy
      obtain ⟨u1, O, B, K, g1, g2, g3, g4, g5⟩ := p_filT F hF hB.sn hTm k1 k2
      have hN1 := hB.sn.fr g4 (by decide) (by decide) (by decide) (by decide) (by decide)
      have hcol := g5.2.2.2.2.2 k k1 g2 a ha
      have hbd : ∀ b, B k a = some b → b < 2 ^ 31 := fun b hb => by
        have := (g5.2.2.2.2.1 k k1 g2 a ha).2.2 b hb
        omega
      have hdone := p_done F hN1 ha k1 k2 hcol hbd
      -- the invariant behind the system's part
      have nf := nf_same (u := u) (v := u1) (fun q hq => g4.2 q (by
        simp only [TmP, List.mem_cons, List.not_mem_nil, or_false] at hq ⊢
        omega))
      have hI1 : Inv u1 := by
        refine h.ring (fun q h1 h2 => g4.2 q (by
          simp only [RP, TmP, List.mem_cons, List.not_mem_nil, or_false] at h2 ⊢
          omega)) (fun j _ => by rw [g4.2 50 (by decide)]) ⟨n, m, ⟨hB.same (fun q hq => g4.2 q (by
          simp only [TmP, List.mem_cons, List.not_mem_nil, or_false] at hq ⊢
          omega)) (by rw [g4.2 50 (by decide)]) (by rw [g4.2 50 (by decide)]), ?_⟩, ?_⟩
        · rw [nf.1, nf.2.1, nf.2.2.1, nf.2.2.2]
          exact hTn.cg (g4.2 27 (by decide)) (g4.2 28 (by decide))
        · rw [nf.1, nf.2.1, nf.2.2.1, nf.2.2.2]
          exact Or.inr ⟨O, B, K, by omega, g3, g5⟩
      have hsys : ∀ o, (match TT (dlN u) B k a with
          | none => (none : Option Int32)
          | some t => some (nI t)) = o → timF F (nI a) (nI k) u = some (o, u1) := fun o ho => by
        unfold timF
        rw [nd_in F (by omega) h22 ha, Option.bind_some]
        dsimp only
        rw [if_neg (by decide), if_neg (show ¬ nI k < 1 from nI_nlt (b := 1) (by omega) (by omega)), if_pos (show nI k ≤ 200 from nI_le (b := 200) k2 (by decide)), g1, Option.bind_some, hdone, Option.bind_some]
        dsimp only
        have hTT : (B k a).map (fun b => b + dlN u a) = TT (dlN u) B k a := rfl
        rw [hTT]
        subst ho
        cases hT : TT (dlN u) B k a with
        | none => rw [if_pos (show eN none = -1 from rfl)]
        | some t =>
          have := g5.2.2.2.2.1.tt (j := k) (v := a) k1 g2 g3 ha (hB.sn.2.2.2.2.2 a ha).2 t hT
          rw [if_neg (show ¬ eN (some t) = -1 from nI_ne_m1 (by omega))]
          rfl
      refine ⟨_, u1, hsys _ rfl, fun w hw => ?_⟩
      -- the model
      have hMB : NtB u1 n m := hB.same (fun q hq => g4.2 q (by
          simp only [TmP, List.mem_cons, List.not_mem_nil, or_false] at hq ⊢
          omega)) (by rw [g4.2 50 (by decide)]) (by rw [g4.2 50 (by decide)])
      have hMN : MN (wr w 50 0 1) n m (srN u) (tgN u) (tkN u) (dlN u) := by
        have hq := (hMB.same (v := wr w 50 0 1) (fun q hq => by
          rw [wr_ne _ (by
            simp only [List.mem_cons, List.not_mem_nil, or_false] at hq
            omega), hw]) (by rw [wr_nek _ (by decide), hw]) (by rw [wr_nek _ (by decide), hw])).mn
        have nf2 := nf_same (u := u1) (v := wr w 50 0 1) (fun q hq => by
          rw [wr_ne _ (by
            simp only [List.mem_cons, List.not_mem_nil, or_false] at hq
            omega), hw])
        rw [nf2.1, nf2.2.1, nf2.2.2.1, nf2.2.2.2, nf.1, nf.2.1, nf.2.2.1, nf.2.2.2] at hq
        exact hq
      obtain ⟨v, v1, v2, v3⟩ := p_times F hF hMN g5.2.2.2.2.1 g3 g2
      have hv := v3 k k1 (Nat.le_refl _) a ha
      have eidx : (201 : Int32) * nI a + nI k = nI (201 * a + k) := by
        rw [show (201 : Int32) = nI 201 from rfl, pk_mul, nI_add]
      have e24w : (wr w 50 0 (1 : Int32)).1 50 24 = nI n := hMN.2.2.1
      have hmod : ∀ z, f_X12_time F (nI a) (nI k) w = (if (v.1 70 (201 * a + k)) = (-1 : Int32) then some ((0 : Int32), v) else some ((v.1 70 (201 * a + k)), (wr v 50 0 (0 : Int32)))) → z = f_X12_time F (nI a) (nI k) w → z = (if (v.1 70 (201 * a + k)) = (-1 : Int32) then some ((0 : Int32), v) else some ((v.1 70 (201 * a + k)), (wr v 50 0 (0 : Int32)))) := fun z h1 h2 => h2.trans h1
      have hmm : f_X12_time F (nI a) (nI k) w = (if (v.1 70 (201 * a + k)) = (-1 : Int32) then some ((0 : Int32), v) else some ((v.1 70 (201 * a + k)), (wr v 50 0 (0 : Int32)))) := by
        unfold f_X12_time
        rw [e24w, isIn_lt F (by omega) ha, Option.bind_some]
        dsimp only
        have ki : f_X12_isIn F (nI k) 1 200 (wr w 50 0 1) = some (1, wr w 50 0 1) := isIn_in F (lo := 1) (hi := 200) k1 k2 (by decide) _
        rw [if_neg (by decide), ki, Option.bind_some]
        dsimp only
        rw [if_neg (by decide), v1, Option.bind_some, eidx, nI_clamp (by omega), if_neg (gin (show 201 * a + k < 2010 by omega) (by decide))]
      have hIw : Inv (wr w 50 0 1) := by
        have hI := hI1.c1 hw
        exact hI.ring (fun q _ hq => wr_ne _ (fun z => hq (by rw [z]; decide))) (fun j hj => wr_nek _ (by simp at hj; omega)) (hI.2.2.2.2.nk ⟨fun q hq => wr_ne _ (fun z => by rw [z] at hq; exact absurd hq (by decide)), fun j hj => wr_nek _ (by simp at hj; omega)⟩)
      have hIv : Inv v := hIw.ring (fun q _ hq => v2.2 q (by
        simp only [RP, List.mem_cons, List.not_mem_nil, or_false] at hq ⊢
        omega)) (fun j _ => by rw [v2.2 50 (by decide)]) (hIw.2.2.2.2.nk ⟨fun q hq => v2.2 q (by
        simp only [NP, List.mem_cons, List.not_mem_nil, or_false] at hq ⊢
        omega), fun j _ => by rw [v2.2 50 (by decide)]⟩)
      rw [hmm, hv]
      cases hT : TT (dlN u) B k a with
      | none =>
        rw [if_pos (show eN none = -1 from rfl)]
        exact ⟨0, v, rfl, hIv, by rw [v2.1]; rfl, by show v.1 50 0 = 1; rw [v2.2 50 (by decide), wr_eq]⟩
      | some t =>
        have := g5.2.2.2.2.1.tt (j := k) (v := a) k1 g2 g3 ha (hB.sn.2.2.2.2.2 a ha).2 t hT
        rw [if_neg (show ¬ eN (some t) = -1 from nI_ne_m1 (by omega))]
        refine ⟨_, _, rfl, ?_, by show v.2 = w.2; rw [v2.1]; rfl, wr_eq _, rfl⟩
        exact hIv.ring (fun q _ hq => wr_ne _ (fun z => hq (by rw [z]; decide))) (fun j hj => wr_nek _ (by simp at hj; omega)) (hIv.2.2.2.2.nk ⟨fun q hq => wr_ne _ (fun z => by rw [z] at hq; exact absurd hq (by decide)), fun j hj => wr_nek _ (by simp at hj; omega)⟩)
    · have hy : ∀ k, 1 ≤ k → k ≤ 200 → y ≠ nI k := fun k k1 k2 e => hy ⟨k, k1, k2, e⟩
      refine bad ?_ (fun w hw => ?_)
      · unfold timF
        rw [nd_in F (by omega) h22 ha, Option.bind_some]
        dsimp only
        rw [if_neg (by decide)]
        rcases tim_k hy with q | ⟨q1, q2⟩
        · rw [if_pos q]
        · rw [if_neg q1, if_neg q2]
      · unfold f_X12_time
        rw [e24 w hw, isIn_lt F (by omega) ha, Option.bind_some]
        dsimp only
        rw [if_neg (by decide), isIn_k F hy, Option.bind_some]
        dsimp only
        rw [if_pos rfl]
  · refine bad ?_ (fun w hw => ?_)
    · unfold timF
      rw [nd_out F h22 hx, Option.bind_some]
      dsimp only
      rw [if_pos rfl]
    · unfold f_X12_time
      rw [e24 w hw, isIn_nlt F (by omega) hx, Option.bind_some]
      dsimp only
      rw [if_pos rfl]
