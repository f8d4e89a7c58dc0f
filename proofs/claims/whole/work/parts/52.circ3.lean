/-! circuit: the promise -/
theorem fil_o (u : St) {q n : Nat} {v : Int32} {p : Nat} (h : p ≠ q) : (fil u q n v).1 p = u.1 p := by
  funext k
  simp [fil, h]
theorem fil_i (u : St) {q n : Nat} {v : Int32} {k : Nat} (h : k < n) : (fil u q n v).1 q k = v := by simp [fil, h]
/-- the system has taken the text -/
def swC (u : St) (q : Nat) (x : Int32) (t : Nat) : St := wr (wr (wr (wr (wr (wr (fil (fil (wr (wr (wr u 4 2 (nI q)) 4 3 x) 4 4 (0 : Int32)) 5 4096 (-1 : Int32)) 6 12 (0 : Int32)) 0 10 (nI t)) 1 1 0) 11 7 0) 16 4 0) 18 5 0) 18 6 0
theorem swC_o (u : St) (q : Nat) (x : Int32) (t : Nat) {r : Nat} (h : r ∉ [0, 1, 4, 5, 6, 11, 16, 18]) : (swC u q x t).1 r = u.1 r := by
  simp only [List.mem_cons, List.not_mem_nil, or_false, not_or] at h
  obtain ⟨a1, a2, a3, a4, a5, a6, a7, a8⟩ := h
  unfold swC
  rw [wr_ne _ a8, wr_ne _ a8, wr_ne _ a7, wr_ne _ a6, wr_ne _ a2, wr_ne _ a1, fil_o _ a5, fil_o _ a4, wr_ne _ a3, wr_ne _ a3, wr_ne _ a3]
theorem swC_4 (u : St) (q : Nat) (x : Int32) (t : Nat) : (swC u q x t).1 4 2 = nI q ∧ (swC u q x t).1 4 3 = x ∧ (swC u q x t).1 4 4 = 0 := by
  unfold swC
  rw [wr_ne _ (by decide), wr_ne _ (by decide), wr_ne _ (by decide), wr_ne _ (by decide), wr_ne _ (by decide), wr_ne _ (by decide), fil_o _ (by decide), fil_o _ (by decide)]
  refine ⟨?_, ?_, wr_eq _⟩
  · rw [wr_nek _ (by decide), wr_nek _ (by decide), wr_eq]
  · rw [wr_nek _ (by decide), wr_eq]
theorem swC_5 (u : St) (q : Nat) (x : Int32) (t : Nat) {n : Nat} (h : n < 4096) : (swC u q x t).1 5 n = -1 := by
  unfold swC
  rw [wr_ne _ (by decide), wr_ne _ (by decide), wr_ne _ (by decide), wr_ne _ (by decide), wr_ne _ (by decide), wr_ne _ (by decide), fil_o _ (by decide), fil_i _ h]
theorem swC_6 (u : St) (q : Nat) (x : Int32) (t : Nat) {n : Nat} (h : n < 12) : (swC u q x t).1 6 n = 0 := by
  unfold swC
  rw [wr_ne _ (by decide), wr_ne _ (by decide), wr_ne _ (by decide), wr_ne _ (by decide), wr_ne _ (by decide), wr_ne _ (by decide), fil_i _ h]
theorem swC_r (u : St) (q : Nat) (x : Int32) (t : Nat) : (swC u q x t).1 0 10 = nI t ∧ (swC u q x t).1 1 1 = 0 ∧ (swC u q x t).1 11 7 = 0 ∧ (swC u q x t).1 16 4 = 0 ∧ (swC u q x t).1 18 5 = 0 ∧ (swC u q x t).1 18 6 = 0 := by
  unfold swC
  refine ⟨?_, ?_, ?_, ?_, ?_, wr_eq _⟩
  · rw [wr_ne _ (by decide), wr_ne _ (by decide), wr_ne _ (by decide), wr_ne _ (by decide), wr_ne _ (by decide), wr_eq]
  · rw [wr_ne _ (by decide), wr_ne _ (by decide), wr_ne _ (by decide), wr_ne _ (by decide), wr_eq]
  · rw [wr_ne _ (by decide), wr_ne _ (by decide), wr_ne _ (by decide), wr_eq]
  · rw [wr_ne _ (by decide), wr_ne _ (by decide), wr_eq]
  · rw [wr_nek _ (by decide), wr_eq]
theorem EC.sw {q : Nat} (hq : IsE q) {E : EL} {sg : Int32} {u v : St} (h : EC q E sg u) (e : ∀ i, i < 4 → v.1 (q + i) = u.1 (q + i)) : EC q E sg v := by
  unfold EC
  rw [show v.1 q = u.1 q from e 0 (by decide), e 1 (by decide), e 2 (by decide), e 3 (by decide)]
  exact h
theorem trmS_le {l : List Nat} (x : Nat) : ∀ (d p : Nat) (E : EL), p ≤ l.length → (trmS l x d p E).2.1 ≤ l.length
  | 0, p, E, h => h
  | d + 1, p, E, h => by
    have h0 := litS_le 8 p 0 0 h
    unfold trmS
    by_cases h1 : ltr l p = none
    · rw [if_pos h1]; exact h
    · rw [if_neg h1]
      by_cases h2 : ltr l (litS l 8 p 0 0).1 = none
      · rw [if_pos h2]
        by_cases h3 : bvN l (litS l 8 p 0 0).1 = 43
        · rw [if_pos h3]
          have := bvN_lt (by decide) h3
          exact trmS_le x d _ _ (pbk_le (by omega))
        · rw [if_neg h3]; exact h0
      · rw [if_neg h2]; exact h0
theorem eqS_le {l : List Nat} {p : Nat} {E : EL} {sg : Int32} (h : p ≤ l.length) : (eqS l p E sg).2.1 ≤ l.length := by
  unfold eqS
  cases hj : ltr l p with
  | none => exact h
  | some x =>
    have hp := (ltr_lt hj).2
    have hp2 : pbk l (p + 1) ≤ l.length := pbk_le (by omega)
    simp only
    by_cases hs : bt sg x = true
    · rw [if_pos hs]; exact h
    · rw [if_neg hs]
      by_cases h61 : bvN l (pbk l (p + 1)) = 61
      · rw [if_pos h61]
        have h1 := bvN_lt (by decide) h61
        have hp3 : pbk l (pbk l (p + 1) + 1) ≤ l.length := pbk_le (by omega)
        by_cases h48 : bvN l (pbk l (pbk l (p + 1) + 1)) = 48
        · rw [if_pos h48]
          have h2 := bvN_lt (by decide) h48
          exact pbk_le (by omega)
        · rw [if_neg h48]
          by_cases h49 : bvN l (pbk l (pbk l (p + 1) + 1)) = 49
          · rw [if_pos h49]
            have h2 := bvN_lt (by decide) h49
            exact pbk_le (by omega)
          · rw [if_neg h49]; exact trmS_le x 12 _ _ hp3
      · rw [if_neg h61]; exact hp2
theorem rdS_le {l : List Nat} : ∀ (d p : Nat) (E : EL) (sg : Int32), p ≤ l.length → ∀ r, (rdS l d p E sg).1 = some r → r ≤ l.length
  | 0, p, E, sg, h, r, hr => by cases hr; exact h
  | d + 1, p, E, sg, h, r, hr => by
    have h2 := eqS_le (E := E) (sg := sg) h
    unfold rdS at hr
    by_cases hb : (eqS l p E sg).1 = false
    · rw [if_pos hb] at hr; cases hr; exact h2
    · rw [if_neg hb] at hr
      by_cases he : l.length ≤ (eqS l p E sg).2.1
      · rw [if_pos he] at hr; cases hr
      · rw [if_neg he] at hr
        by_cases h59 : bvN l (eqS l p E sg).2.1 = 59
        · rw [if_pos h59] at hr
          exact rdS_le d _ _ _ (pbk_le (by omega)) r hr
        · rw [if_neg h59] at hr; cases hr; exact h2
theorem rdA_le {l : List Nat} {p : Nat} (h : (rdA l).1 = some p) : p ≤ l.length := by
  unfold rdA at h
  by_cases he : l.length ≤ pbk l 0
  · rw [if_pos he] at h; cases h
  · rw [if_neg he] at h
    exact rdS_le 12 _ _ _ (pbk_le (by omega)) p h
/-- promise 5 -/
theorem op_circuit (F : Nat) (hF : 1000 ≤ F) {u : St} (h : CirI u) (hB : BoI u) (hC : CntI u) (hTp : TpI u) (x : Int32) : ∃ r u1 u2, f_X11_circuit F x u = some (r, u1) ∧ f_X12_circuit F x u1 = some (r, u2) ∧ CirI u2 ∧ BoI u2 ∧ CntI u2 ∧ TpI u2 ∧ NK u u2 := by
  rcases ix4096 x with hx | ⟨s, hs, rfl⟩
  · have no := h.w0
    refine ⟨0, u, wr u 50 0 0, ?_, ?_, no.1, hB.w0, no.2.1.n.cnt h.1.1 hC, hTp.kp no.2.1.n, no.2.1.n.nk⟩
    · unfold f_X11_circuit
      rw [st_out F hx]
      rfl
    · unfold f_X12_circuit
      rw [mst_out F hx]
      rfl
  · obtain ⟨hq, hqt⟩ := id h.2.2.2.2.2.2
    obtain ⟨l, l1, l2, l3, l4⟩ := id hTp
    obtain ⟨u1, g1, g2, g3⟩ := c_read F hF hq l1 (fun b hb => (l2 b hb).2) l3
    generalize hqq : (u.1 0 10).toNatClampNeg = q at hq hqt g1 g2 g3
    have e10 : u1.1 0 = u.1 0 := g3.2 0 (by rcases hq with rfl | rfl <;> decide)
    have e14 : u1.1 4 = u.1 4 := g3.2 4 (by rcases hq with rfl | rfl <;> decide)
    have hT := h.1.1
    obtain ⟨w1, w2⟩ := rdA_we l
    have sys : f_X11_circuit F (nI s) u = if ftI (rdA l).1 = -1 then some (1, swC u1 q (nI s) (txt u)) else some (0, u1) := by
      unfold f_X11_circuit
      rw [st_in F hs, Option.bind_some]
      dsimp only
      rw [if_neg (by decide), hqq, if_pos (show _ ∨ _ from hq), g1, Option.bind_some]
      dsimp only
      by_cases hn : ftI (rdA l).1 = -1
      · rw [if_pos hn, if_pos hn, e10, hqq, if_pos (show _ ∨ _ from hq)]
        have hb : f_X0_begin F q (nI s) u1 = some (txt u, fil (fil (wr (wr (wr u1 4 2 (nI q)) 4 3 (nI s)) 4 4 (0 : Int32)) 5 4096 (-1 : Int32)) 6 12 (0 : Int32)) := by
          unfold f_X0_begin
          rw [e14, if_pos (show (u.1 4 2).toNatClampNeg = 7 ∨ (u.1 4 2).toNatClampNeg = 46 from hT)]
          rfl
        rw [hb, Option.bind_some]
        dsimp only
        rw [if_pos (show _ ∨ _ from hT)]
        rfl
      · rw [if_neg hn, if_neg hn]
    rw [sys]
    cases hr : (rdA l).1 with
    | some p =>
      have M1 : TM l (wr u1 50 0 0) := l4.fr (by rw [wr_nek _ (by decide), g3.2 50 (by rcases hq with rfl | rfl <;> decide)]) (by rw [wr_ne _ (by decide), g3.2 51 (by rcases hq with rfl | rfl <;> decide)])
      obtain ⟨u2, k1, k2, k3⟩ := k_read F hF l1 l2 M1
      rw [hr] at k1
      by_cases hm : ftI (some p) = -1
      · exact absurd hm (nI_ne_m1 (by have := rdA_le hr; omega))
      · rw [if_neg hm]
        refine ⟨0, u1, u2, rfl, ?_, rd_inv h hB hC hTp hq hqt g3 k2⟩
        unfold f_X12_circuit
        rw [mst_in F hs, Option.bind_some]
        dsimp only
        rw [if_neg (by decide), k1, Option.bind_some]
        dsimp only
        rw [if_neg hm]
    | none =>
      rw [if_pos (show ftI none = -1 from rfl)]
      generalize hue : swC u1 q (nI s) (txt u) = ue
      have eo : ∀ r, r ∉ [0, 1, 4, 5, 6, 11, 16, 18] → ue.1 r = u1.1 r := fun r hr => by rw [← hue]; exact swC_o _ _ _ _ hr
      have e50 : ue.1 50 = u.1 50 := by rw [eo 50 (by decide), g3.2 50 (by rcases hq with rfl | rfl <;> decide)]
      have e51 : ue.1 51 = u.1 51 := by rw [eo 51 (by decide), g3.2 51 (by rcases hq with rfl | rfl <;> decide)]
      have hEC : EC q (rdA l).2.1 (rdA l).2.2 ue := g2.sw hq (fun i hi => eo _ (by
        simp only [List.mem_cons, List.not_mem_nil, or_false]
        rcases hq with rfl | rfl <;> omega))
      obtain ⟨e42, e43, e44⟩ := swC_4 u1 q (nI s) (txt u)
      obtain ⟨e010, e11, e117, e164, e185, e186⟩ := swC_r u1 q (nI s) (txt u)
      have e5 : ∀ n, n < 4096 → ue.1 5 n = -1 := fun n hn => by rw [← hue]; exact swC_5 _ _ _ _ hn
      have e6 : ∀ n, n < 12 → ue.1 6 n = 0 := fun n hn => by rw [← hue]; exact swC_6 _ _ _ _ hn
      rw [hue] at e42 e43 e44 e010 e11 e117 e164 e185 e186
      have M1 : TM l (wr ue 50 0 0) := l4.fr (by rw [wr_nek _ (by decide), e50]) (by rw [wr_ne _ (by decide), e51])
      obtain ⟨u2, k1, k2, k3⟩ := k_read F hF l1 l2 M1
      rw [hr] at k1
      obtain ⟨y3, u3, a1, a2, a3⟩ := l_c24 F (nI s) 12 0 F u2 (by omega) (by omega) (fun j hj => absurd hj (by omega))
      obtain ⟨y4, u4, b1, b2, b3⟩ := l_c57 F (nI s) 144 0 F u3 (by omega) (by omega) (fun j hj => absurd hj (by omega))
      obtain ⟨y5, u5, c1, c2, c3⟩ := l_c96 F (nI s) 144 0 F u4 (by omega) (by omega) (fun j hj => absurd hj (by omega))
      rw [show nI 0 = 0 from rfl] at a1 b1 c1
      have model : f_X12_circuit F (nI s) ue = some (1, wr (wr u5 50 9 (nI s)) 50 2 0) := by
        unfold f_X12_circuit
        rw [mst_in F hs, Option.bind_some]
        dsimp only
        rw [if_neg (by decide), k1, Option.bind_some]
        dsimp only
        rw [if_pos (show ftI none = -1 from rfl), a1, Option.bind_some]
        dsimp only
        rw [b1, Option.bind_some]
        dsimp only
        rw [c1, Option.bind_some]
      generalize hu6 : wr (wr u5 50 9 (nI s)) 50 2 0 = u6 at model
      have f6 : ∀ r, r ∉ [50, 52, 53, 54, 55, 56, 57, 58, 59] → u6.1 r = ue.1 r := fun r hr => by
        simp only [List.mem_cons, List.not_mem_nil, or_false, not_or] at hr
        rw [← hu6, wr_ne _ (by omega), wr_ne _ (by omega), c2.2 r (by simp; omega), b2.2 r (by simp; omega), a2.2 r (by simp; omega), k2.1.2 r (by simp; omega), wr_ne _ (by omega)]
      have r52 : ∀ j, j < 12 → u6.1 52 j = u2.1 55 j := fun j hj => by
        rw [← hu6, wr_ne _ (by decide), wr_ne _ (by decide), c2.2 52 (by decide), b2.2 52 (by decide)]
        exact (a3 j hj).1
      have r58 : ∀ j, j < 12 → u6.1 58 j = 0 := fun j hj => by
        rw [← hu6, wr_ne _ (by decide), wr_ne _ (by decide), c2.2 58 (by decide), b2.2 58 (by decide)]
        exact (a3 j hj).2
      have r53 : ∀ j, j < 144 → u6.1 53 j = u2.1 56 j := fun j hj => by
        rw [← hu6, wr_ne _ (by decide), wr_ne _ (by decide), c2.2 53 (by decide), (b3 j hj).1, a2.2 56 (by decide)]
      have r54 : ∀ j, j < 144 → u6.1 54 j = u2.1 57 j := fun j hj => by
        rw [← hu6, wr_ne _ (by decide), wr_ne _ (by decide), c2.2 54 (by decide), (b3 j hj).2, a2.2 57 (by decide)]
      have r59 : ∀ j, j < 144 → u6.1 59 j = 0 := fun j hj => by
        rw [← hu6, wr_ne _ (by decide), wr_ne _ (by decide)]
        exact c3 j hj
      have r509 : u6.1 50 9 = nI s := by rw [← hu6, wr_nek _ (by decide), wr_eq]
      have r502 : u6.1 50 2 = 0 := by rw [← hu6, wr_eq]
      have r50 : ∀ k, k ∈ [24, 25] → u6.1 50 k = u.1 50 k := fun k hk => by
        simp only [List.mem_cons, List.not_mem_nil, or_false] at hk
        rw [← hu6, wr_nek _ (by omega), wr_nek _ (by omega), c2.2 50 (by decide), b2.2 50 (by decide), a2.2 50 (by decide), k2.2 k (by omega), wr_nek _ (by omega), e50]
      have MRf := k3 hr
      have hEC6 : EC q (rdA l).2.1 (rdA l).2.2 u6 := hEC.sw hq (fun i hi => f6 _ (by
        simp only [List.mem_cons, List.not_mem_nil, or_false]
        rcases hq with rfl | rfl <;> omega))
      have t6 : txt u6 = q := by
        unfold txt
        rw [f6 4 (by decide), e42, nI_clamp (by rcases hq with rfl | rfl <;> decide)]
      have ow : ∀ j, j < 12 → (bt (rdA l).2.2 j = false ∧ u6.1 52 j = -1 ∧ own (rdA l).2.1 j = []) ∨ (bt (rdA l).2.2 j = true ∧ u6.1 52 j = nI (own (rdA l).2.1 j).length ∧ (own (rdA l).2.1 j).length ≤ 12) := fun j hj => by
        rw [r52 j hj]
        cases hbj : bt (rdA l).2.2 j with
        | false => exact Or.inl ⟨rfl, (MRf j hj).1 hbj⟩
        | true => exact Or.inr ⟨rfl, ((MRf j hj).2 hbj).1, ((MRf j hj).2 hbj).2.1⟩
      refine ⟨1, ue, u6, rfl, model, ⟨⟨?_, ?_, ?_, ?_, ?_, ?_⟩, ?_, ?_, ?_, ?_, ?_, ?_⟩, ⟨fun j hj => Or.inl (r58 j hj), fun i hi => Or.inl (r59 i hi)⟩, ?_, ?_, ⟨fun r hr => ?_, r50⟩⟩
      · rw [t6]; exact hq
      · intro j hj
        rcases ow j hj with ⟨_, z, _⟩ | ⟨_, z1, z2⟩
        · exact Or.inl z
        · exact Or.inr ⟨_, z2, z1⟩
      · refine ⟨(rdA l).2.1.length, w2, by rw [t6]; exact hEC6.1, fun j hj => ?_⟩
        rw [t6, hEC6.2.1]
        rcases ow j hj with ⟨z0, z1, z2⟩ | ⟨z0, z1, z2⟩
        · rw [z0, z1]
          exact ⟨by simp, fun q => absurd rfl q⟩
        · have hne : nI (own (rdA l).2.1 j).length ≠ -1 := nI_ne_m1 (by omega)
          rw [z0, z1]
          refine ⟨by simp [hne], fun _ st => ?_⟩
          rw [vl_own hEC6 w1.1 st hj _ (Nat.le_refl _), List.take_length]
          unfold mVal
          rw [z1, nI_clamp (by omega)]
          have := anyF_list (A := own (rdA l).2.1 j) (m := fun t => mtc (u6.1 53 (12 * j + t)) (u6.1 54 (12 * j + t)) st) (f := fun p => mtc p.1 p.2 st) (fun t p hp => by
            have htl := (List.getElem?_eq_some_iff.mp hp).1
            obtain ⟨i1, i2⟩ := ((MRf j hj).2 z0).2.2 t p.1 p.2 hp
            rw [r53 _ (by omega), r54 _ (by omega), i1, i2]) _ (Nat.le_refl _)
          rw [this, List.take_length]
      · rw [t6, hEC6.2.1]; exact w1.2
      · intro j hj
        rw [f6 4 (by decide), e44, bt_zero, r58 j hj]
        rfl
      · intro n hn
        left
        rw [f6 5 (by decide)]
        exact e5 n hn
      · exact ⟨s, hs, by rw [f6 4 (by decide)]; exact e43, r509⟩
      · left
        rw [f6 11 (by decide)]; exact e117
      · left
        rw [f6 16 (by decide)]; exact e164
      · refine ⟨fun n hn => ?_, fun j hj => ?_⟩
        · rw [f6 19 (by decide), eo 19 (by decide), g3.2 19 (by rcases hq with rfl | rfl <;> decide)]
          exact h.2.2.2.2.1.1 n hn
        · rw [f6 18 (by decide), e185, e186, bt_zero]
          exact ⟨fun z => Bool.noConfusion z, fun z => z⟩
      · intro a b ha hb
        rw [f6 6 (by decide), e6 a ha, bt_zero]
        unfold pbF
        rw [r59 _ (by omega), r59 _ (by omega)]
        exact ⟨rfl, rfl⟩
      · unfold DrK
        rw [t6, f6 0 (by decide), e010, nI_clamp (by rcases hT with z | z <;> rw [z] <;> decide)]
        exact ⟨hT, fun z => hqt z.symm⟩
      · unfold CntI
        rw [t6, hEC6.1, ← sm_own _ w1.1]
        congr 1
        refine sm_congr 12 (fun j hj => ?_)
        unfold tmF
        rcases ow j hj with ⟨z0, z1, z2⟩ | ⟨z0, z1, z2⟩
        · rw [z1, z2, if_pos rfl]
          rfl
        · rw [z1, if_neg (nI_ne_m1 (by omega)), nI_clamp (by omega)]
      · refine ⟨[], by simp, fun b hb => by simp at hb, ⟨?_, fun i b hi => by simp at hi⟩, ⟨r502, fun i b hi => by simp at hi⟩⟩
        rw [f6 1 (by decide)]
        exact e11
      · simp only [NP, List.mem_cons, List.not_mem_nil, or_false] at hr
        rw [f6 r (by simp; omega), eo r (by simp; omega), g3.2 r (by
          simp only [List.mem_cons, List.not_mem_nil, or_false]
          rcases hq with rfl | rfl <;> omega)]
