/-! fault and circuit -/
theorem CirK.frT {u v : St} (h : CirK u) (e : ∀ q, q ∈ [4, 5, 52, 53, 54, 58] → v.1 q = u.1 q) (eT : ∀ i, i < 4 → v.1 (txt u + i) = u.1 (txt u + i)) : CirK v ∧ asM v = asM u := by
  obtain ⟨hE, hW, hR, hS, hK, hC⟩ := h
  have ht : txt v = txt u := by
    unfold txt
    rw [e 4 (by decide)]
  have e0 : v.1 (txt u) = u.1 (txt u) := eT 0 (by decide)
  have e1 : v.1 (txt u + 1) = u.1 (txt u + 1) := eT 1 (by decide)
  have e2 : v.1 (txt u + 2) = u.1 (txt u + 2) := eT 2 (by decide)
  have e3 : v.1 (txt u + 3) = u.1 (txt u + 3) := eT 3 (by decide)
  have ev : ∀ s T, vlC v (txt u) s T = vlC u (txt u) s T := fun s T => vlC_congr e1 e2 e3 s T
  have em : ∀ s x, mVal v s x = mVal u s x := fun s x => by
    unfold mVal
    rw [e 52 (by decide), e 53 (by decide), e 54 (by decide)]
  refine ⟨⟨by rw [ht]; exact hE, ?_, ?_, ?_, ?_, ?_⟩, asM_congr (e _ (by decide)) (e _ (by decide)) (e _ (by decide)) (e _ (by decide))⟩
  · intro x hx
    rw [e 52 (by decide)]
    exact hW x hx
  · obtain ⟨T, h1, h2, h3⟩ := hR
    refine ⟨T, h1, ?_, ?_⟩
    · rw [ht, e0]; exact h2
    · intro x hx
      rw [ht, e0, e 52 (by decide)]
      refine ⟨(h3 x hx).1, fun hne s => ?_⟩
      rw [ev, em]
      exact (h3 x hx).2 hne s
  · rw [ht, e0]; exact hS
  · intro x hx
    rw [e 4 (by decide), e 58 (by decide)]
    exact hK x hx
  · intro j hj
    rw [ht, e0, e 5 (by decide)]
    rcases hC j hj with h | h
    · exact Or.inl h
    · right
      intro T hT hT2
      rw [ev]
      exact h T hT hT2
def CQ : List Nat := [0, 4, 5, 6, 11, 12, 13, 14, 15, 16, 17, 18, 19, 52, 53, 54, 58, 59]
theorem CirI.frT {u v : St} (h : CirI u) (e : ∀ q, q ∈ CQ → v.1 q = u.1 q) (eT : ∀ i, i < 4 → v.1 (txt u + i) = u.1 (txt u + i)) (h9 : v.1 50 9 = u.1 50 9) : CirI v := by
  obtain ⟨h1, h2, h3, h4, h5, h6, h7⟩ := h
  obtain ⟨c1, c2⟩ := h1.frT (fun q hq => e q (by
    simp only [CQ, List.mem_cons, List.not_mem_nil, or_false] at hq ⊢
    omega)) eT
  have ha := aF_eq c2
  have hr : rsN v = rsN u := by unfold rsN; rw [e 4 (by decide)]
  have hL : LL v = LL u := by unfold LL; rw [ha, hr]
  have hp : pbF v = pbF u := by unfold pbF; rw [e 59 (by decide)]
  refine ⟨c1, ?_, ?_, ?_, ?_, ?_, ?_⟩
  · obtain ⟨r, r1, r2, r3⟩ := h2
    exact ⟨r, r1, by rw [e 4 (by decide)]; exact r2, by rw [h9]; exact r3⟩
  · rcases h3 with q | ⟨q1, q2, q3⟩
    · exact Or.inl (by rw [e 11 (by decide)]; exact q)
    · refine Or.inr ⟨by rw [e 11 (by decide)]; exact q1, ?_, ?_⟩
      · rw [ha, show (v.1 4 3).toNatClampNeg = (u.1 4 3).toNatClampNeg from hr]
        exact q2.congr (by rw [e 11 (by decide)]) (e 12 (by decide)) (e 13 (by decide)) (e 14 (by decide))
      · rw [ha, show (v.1 4 3).toNatClampNeg = (u.1 4 3).toNatClampNeg from hr]
        exact q3.congr (by rw [e 11 (by decide)]) (e 15 (by decide))
  · unfold HzK
    rw [ha, hL, hp, e 16 (by decide), e 17 (by decide), e 11 (by decide)]
    exact h4
  · unfold LvK
    rw [ha, hL, e 18 (by decide), e 19 (by decide)]
    exact h5
  · unfold PtK
    rw [hp, e 6 (by decide)]
    exact h6
  · unfold DrK txt
    rw [e 0 (by decide), e 4 (by decide)]
    exact h7
/-- the places of the net -/
def NP : List Nat := [22, 23, 24, 25, 26, 27, 28, 29, 30, 31, 32, 33, 34, 35, 36, 37, 38, 39, 40, 41, 42, 43, 44, 45, 66, 67, 68, 69]
def NK (u v : St) : Prop := (∀ q, q ∈ NP → v.1 q = u.1 q) ∧ ∀ k, k ∈ [24, 25] → v.1 50 k = u.1 50 k
theorem KpN.nk {u v : St} (h : KpN u v) : NK u v := ⟨fun q hq => h.1 q (by
    simp only [NP, List.mem_cons, List.not_mem_nil, or_false] at hq ⊢
    omega), fun k hk => h.2.1 k (by simp at hk ⊢; omega)⟩
/-- how many terms the equations have -/
def tmF (u : St) : Nat → Nat := fun x => if u.1 52 x = -1 then 0 else (u.1 52 x).toNatClampNeg
def CntI (u : St) : Prop := u.1 (txt u) 3 = nI (sm (tmF u) 12)
theorem CntI.fr {u v : St} (h : CntI u) (h4 : v.1 4 2 = u.1 4 2) (hq : v.1 (txt u) 3 = u.1 (txt u) 3) (h52 : v.1 52 = u.1 52) : CntI v := by
  have ht : txt v = txt u := by unfold txt; rw [h4]
  unfold CntI
  rw [ht, hq, h, sm_congr 12 (f := tmF v) (g := tmF u) (fun i _ => by unfold tmF; rw [h52])]
theorem KpN.cnt {u v : St} (h : KpN u v) (hE : IsE (txt u)) (c : CntI u) : CntI v := c.fr h.2.2 (by rw [h.1 _ (by rcases hE with q | q <;> rw [q] <;> decide)]) (h.1 52 (by decide))
theorem BoI.fr {u v : St} (h : BoI u) (h1 : v.1 58 = u.1 58) (h2 : v.1 59 = u.1 59) : BoI v := by unfold BoI; rw [h1, h2]; exact h
/-- what a reading of the text leaves -/
theorem rd_keeps {u u1 u2 : St} {q : Nat} (hI : CirI u) (hq : IsE q) (hqt : q ≠ txt u) (f1 : FrE q u u1) (f2 : FN (wr u1 50 0 0) u2) : (∀ r, r ∈ CQ → u2.1 r = u.1 r) ∧ (∀ i, i < 4 → u2.1 (txt u + i) = u.1 (txt u + i)) ∧ (∀ k, k ≠ 12 → k ≠ 0 → u2.1 50 k = u.1 50 k) ∧ NK u u2 ∧ u2.1 1 = u.1 1 ∧ u2.1 2 = u.1 2 ∧ u2.1 51 = u.1 51 := by
  have hT := hI.1.1
  have e : ∀ r, r ∉ [3, q, q + 1, q + 2, q + 3] → r ∉ [50, 55, 56, 57] → u2.1 r = u.1 r := fun r h1 h2 => by
    rw [f2.1.2 r h2, wr_ne _ (by simp at h2; omega), f1.2 r h1]
  have e50 : ∀ k, k ≠ 12 → k ≠ 0 → u2.1 50 k = u.1 50 k := fun k h1 h2 => by
    rw [f2.2 k h1, wr_nek _ h2, f1.2 50 (by rcases hq with rfl | rfl <;> decide)]
  refine ⟨fun r hr => e r ?_ ?_, fun i hi => e _ ?_ ?_, e50, ⟨fun r hr => e r ?_ ?_, fun k hk => e50 k ?_ ?_⟩, e 1 ?_ ?_, e 2 ?_ ?_, e 51 ?_ ?_⟩
  · simp only [CQ, List.mem_cons, List.not_mem_nil, or_false] at hr ⊢
    rcases hq with rfl | rfl <;> omega
  · simp only [CQ, List.mem_cons, List.not_mem_nil, or_false] at hr ⊢
    omega
  · simp only [List.mem_cons, List.not_mem_nil, or_false]
    rcases hq with rfl | rfl <;> rcases hT with z | z <;> omega
  · simp only [List.mem_cons, List.not_mem_nil, or_false]
    rcases hq with rfl | rfl <;> rcases hT with z | z <;> omega
  · simp only [NP, List.mem_cons, List.not_mem_nil, or_false] at hr ⊢
    rcases hq with rfl | rfl <;> omega
  · simp only [NP, List.mem_cons, List.not_mem_nil, or_false] at hr ⊢
    omega
  · simp at hk; omega
  · simp at hk; omega
  · rcases hq with rfl | rfl <;> decide
  · decide
  · rcases hq with rfl | rfl <;> decide
  · decide
  · rcases hq with rfl | rfl <;> decide
  · decide
theorem rd_inv {u u1 u2 : St} {q : Nat} (hI : CirI u) (hB : BoI u) (hC : CntI u) (hTp : TpI u) (hq : IsE q) (hqt : q ≠ txt u) (f1 : FrE q u u1) (f2 : FN (wr u1 50 0 0) u2) : CirI u2 ∧ BoI u2 ∧ CntI u2 ∧ TpI u2 ∧ NK u u2 := by
  obtain ⟨e, eT, e50, nk, g1, g2, g3⟩ := rd_keeps hI hq hqt f1 f2
  refine ⟨hI.frT e eT (e50 9 (by decide) (by decide)), hB.fr (e 58 (by decide)) (e 59 (by decide)), hC.fr (by rw [e 4 (by decide)]) (by rw [show u2.1 (txt u) = u.1 (txt u) from eT 0 (by decide)]) (e 52 (by decide)), ?_, nk⟩
  obtain ⟨l, h1, h2, h3, h4⟩ := hTp
  exact ⟨l, h1, h2, h3.fr (by rw [g1]) g2, h4.fr (e50 2 (by decide) (by decide)) g3⟩
/-- promise 4 -/
theorem op_fault (F : Nat) (hF : 1000 ≤ F) {u : St} (h : CirI u) (hB : BoI u) (hC : CntI u) (hTp : TpI u) : ∃ r u1 u2, f_X11_fault F u = some (r, u1) ∧ f_X12_fault F u1 = some (r, u2) ∧ CirI u2 ∧ BoI u2 ∧ CntI u2 ∧ TpI u2 ∧ NK u u2 := by
  obtain ⟨hq, hqt⟩ := id h.2.2.2.2.2.2
  obtain ⟨l, l1, l2, l3, l4⟩ := id hTp
  obtain ⟨u1, g1, g2, g3⟩ := c_read F hF hq l1 (fun b hb => (l2 b hb).2) l3
  have M1 : TM l (wr u1 50 0 0) := l4.fr (by rw [wr_nek _ (by decide), g3.2 50 (by rcases hq with q | q <;> rw [q] <;> decide)]) (by rw [wr_ne _ (by decide), g3.2 51 (by rcases hq with q | q <;> rw [q] <;> decide)])
  obtain ⟨u2, k1, k2, k3⟩ := k_read F hF l1 l2 M1
  refine ⟨ftI (rdA l).1, u1, u2, ?_, ?_, rd_inv h hB hC hTp hq hqt g3 k2⟩
  · unfold f_X11_fault
    rw [if_pos (show _ ∨ _ from hq), g1]
    rfl
  · unfold f_X12_fault
    rw [k1]
    rfl
