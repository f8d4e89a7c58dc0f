/-! the circuit's side of what holds between two calls -/
def hzP (a : Nat → Int32) (pb : Nat → Nat → Bool) (s x y : Nat) : Bool := decide (x ≠ y) && (bt (a s) x && (bt (a s) y && (!pb x y && !bt (a (s ^^^ 2 ^ y)) x)))
def hzQ (a : Nat → Int32) (pb : Nat → Nat → Bool) (s : Nat) : Nat → Bool := fun i => hzP a pb s (i / 12) (i % 12)
def cn (P : Nat → Bool) : Nat → Nat
  | 0 => 0
  | n + 1 => cn P n + (if P n then 1 else 0)
def cum (a : Nat → Int32) (pb : Nat → Nat → Bool) (L : WL) : Nat → Nat
  | 0 => 0
  | i + 1 => cum a pb L i + (match L[i]? with
    | none => 0
    | some e => cn (hzQ a pb e.1) 144)
def lead (a : Nat → Int32) (x : Nat) : Nat → Nat → Prop
  | 0, s => bt (a s) x = true
  | n + 1, s => lead a x n s ∨ ∃ y, y < 12 ∧ bt (a s) y = true ∧ lead a x n (s ^^^ 2 ^ y)
def Lds (a : Nat → Int32) (x s : Nat) : Prop := ∃ n, lead a x n s
def pbF (u : St) : Nat → Nat → Bool := fun x y => !decide (u.1 59 (12 * x + y) = 0)
def rsN (u : St) : Nat := (u.1 4 3).toNatClampNeg
def LL (u : St) : WL := bfE (aF u) (rsN u)
def HzK (u : St) : Prop := u.1 16 4 = 0 ∨ (u.1 16 4 = 1 ∧ u.1 11 7 = 1 ∧ u.1 16 3 = nI (cum (aF u) (pbF u) (LL u) (LL u).length) ∧ ∀ i, i < (LL u).length → u.1 17 i = nI (cum (aF u) (pbF u) (LL u) (i + 1)))
def LvK (u : St) : Prop := (∀ n, n < 4096 → u.1 19 n = 0) ∧ ∀ x, x < 12 → (bt (u.1 18 5) x = true → (bt (u.1 18 6) x = true ↔ ∀ s ∈ (LL u).map Prod.fst, Lds (aF u) x s)) ∧ (bt (u.1 18 5) x = false → bt (u.1 18 6) x = false)
def PtK (u : St) : Prop := ∀ x y, x < 12 → y < 12 → bt (u.1 6 x) y = pbF u x y ∧ pbF u x y = pbF u y x
def RsK (u : St) : Prop := ∃ r, r < 4096 ∧ u.1 4 3 = nI r ∧ u.1 50 9 = nI r
def DrK (u : St) : Prop := IsE (u.1 0 10).toNatClampNeg ∧ (u.1 0 10).toNatClampNeg ≠ txt u
def CirI (u : St) : Prop := CirK u ∧ RsK u ∧ WkK u ∧ HzK u ∧ LvK u ∧ PtK u ∧ DrK u
def CP : List Nat := [0, 4, 5, 6, 7, 8, 9, 10, 11, 12, 13, 14, 15, 16, 17, 18, 19, 46, 47, 48, 49, 52, 53, 54, 58, 59]
theorem CirI.fr {u v : St} (h : CirI u) {P : List Nat} (hf : Fr P u v) (hP : ∀ q, q ∈ P → q ∉ CP) (h9 : v.1 50 9 = u.1 50 9) : CirI v ∧ asM v = asM u ∧ LL v = LL u := by
  have e : ∀ q, q ∈ CP → v.1 q = u.1 q := fun q hq => hf.2 q (fun z => hP q z hq)
  obtain ⟨h1, h2, h3, h4, h5, h6, h7⟩ := h
  obtain ⟨c1, c2⟩ := h1.fr hf (fun q hq hz => hP q hq (by
    simp only [CP, List.mem_cons, List.not_mem_nil, or_false] at hz ⊢
    omega))
  have ha := aF_eq c2
  have hr : rsN v = rsN u := by unfold rsN; rw [e 4 (by decide)]
  have hL : LL v = LL u := by unfold LL; rw [ha, hr]
  have hp : pbF v = pbF u := by unfold pbF; rw [e 59 (by decide)]
  refine ⟨⟨c1, ?_, ?_, ?_, ?_, ?_, ?_⟩, c2, hL⟩
  · obtain ⟨r, r1, r2, r3⟩ := h2
    exact ⟨r, r1, by rw [e 4 (by decide)]; exact r2, by rw [h9]; exact r3⟩
  · rcases h3 with q | ⟨q1, q2, q3⟩
    · exact Or.inl (by rw [e 11 (by decide)]; exact q)
    · refine Or.inr ⟨by rw [e 11 (by decide)]; exact q1, ?_, ?_⟩
      · rw [ha, show (v.1 4 3).toNatClampNeg = (u.1 4 3).toNatClampNeg from hr]
        exact q2.congr (by rw [e 11 (by decide)]) (e 12 (by decide)) (e 13 (by decide)) (e 14 (by decide))
      · rw [ha, show (v.1 4 3).toNatClampNeg = (u.1 4 3).toNatClampNeg from hr]
        exact q3.congr (by rw [e 11 (by decide)]) (e 15 (by decide))
  · unfold HzK
    rw [ha, hL, hp, e 16 (by decide), e 17 (by decide), e 11 (by decide)]
    exact h4
  · unfold LvK
    rw [ha, hL, e 18 (by decide), e 19 (by decide)]
    exact h5
  · unfold PtK
    rw [hp, e 6 (by decide)]
    exact h6
  · unfold DrK txt
    rw [e 0 (by decide), e 4 (by decide)]
    exact h7
/-- the walk is made; all else of the circuit stays -/
theorem p_ren (F : Nat) (hF : 5000 ≤ F) {u : St} (h : CirI u) : ∃ u', f_X10_renew F u = some u' ∧ CirI u' ∧ aF u' = aF u ∧ LL u' = LL u ∧ u'.1 11 7 = 1 ∧ WC (LL u) u' ∧ ST (aF u) (LL u) 4096 u' ∧ Fr [5, 11, 12, 13, 14, 15] u u' := by
  obtain ⟨h1, h2, h3, h4, h5, h6, h7⟩ := h
  obtain ⟨r, r1, r2, r3⟩ := h2
  obtain ⟨u', g1, g2, g3, g4, g5, g6, g7, g8⟩ := p_renew F hF h1 r1 r2 h3
  have ha := aF_eq g3
  have e4 : u'.1 4 = u.1 4 := g7.2 4 (by decide)
  have hrn : rsN u = r := by unfold rsN; rw [r2, nI_clamp (by omega)]
  have hr : rsN u' = rsN u := by unfold rsN; rw [e4]
  have hL : LL u' = LL u := by unfold LL; rw [ha, hr]
  have hp : pbF u' = pbF u := by unfold pbF; rw [g7.2 59 (by decide)]
  have hLr : LL u = bfE (aF u) r := by unfold LL; rw [hrn]
  refine ⟨u', g1, ⟨g2, ⟨r, r1, by rw [e4]; exact r2, by rw [g7.2 50 (by decide)]; exact r3⟩, ?_, ?_, ?_, ?_, ?_⟩, ha, hL, g4, by rw [hLr]; exact g5, by rw [hLr]; exact g6, g7⟩
  · refine Or.inr ⟨g4, ?_, ?_⟩
    · rw [ha, show (u'.1 4 3).toNatClampNeg = r by rw [e4]; exact hrn]; exact g5
    · rw [ha, show (u'.1 4 3).toNatClampNeg = r by rw [e4]; exact hrn]; exact g6
  · rcases h4 with q | ⟨q1, q2, q3⟩
    · exact Or.inl (by rw [g7.2 16 (by decide)]; exact q)
    · rw [g8 q2]
      exact Or.inr ⟨q1, q2, q3⟩
  · unfold LvK
    rw [ha, hL, g7.2 18 (by decide), g7.2 19 (by decide)]
    exact h5
  · unfold PtK
    rw [hp, g7.2 6 (by decide)]
    exact h6
  · unfold DrK txt
    rw [g7.2 0 (by decide), e4]
    exact h7
theorem CirI.gl {u : St} (h : CirI u) : GL (LL u) := by
  obtain ⟨r, r1, r2, r3⟩ := h.2.1
  unfold LL bfE
  exact GLbf (by unfold rsN; rw [r2, nI_clamp (by omega)]; exact r1) _
/-- the model's walk beside it -/
theorem p_mw (F : Nat) (hF : 5000 ≤ F) {u : St} (h : CirI u) : ∃ u', f_X12_walks F u = some u' ∧ CirI u' ∧ aF u' = aF u ∧ LL u' = LL u ∧ WM (LL u) u' ∧ Fr [50, 60, 61, 62, 63] u u' ∧ u'.1 50 0 = 0 ∧ ∀ j, j ≠ 17 → j ≠ 0 → u'.1 50 j = u.1 50 j := by
  obtain ⟨r, r1, r2, r3⟩ := h.2.1
  obtain ⟨u', g1, g2, g3, g4, g5⟩ := p_walks F hF h.1.2.1 r1 r3
  have hrn : rsN u = r := by unfold rsN; rw [r2, nI_clamp (by omega)]
  have hLr : LL u = bfE (aF u) r := by unfold LL; rw [hrn]
  obtain ⟨k1, k2, k3⟩ := h.fr g3 (by decide) (g5 9 (by decide) (by decide))
  exact ⟨u', g1, k1, aF_eq k2, k3, by rw [hLr]; exact g2, g3, g4, g5⟩
/-- what a call leaves: the circuit's side, and nothing of the tape's or the net's -/
def Kp (u v : St) : Prop := (∀ q, q ∈ [1, 2, 4, 7, 46, 52, 22, 23, 24, 25, 26, 27, 28, 29, 30, 31, 32, 33, 34, 35, 36, 37, 38, 39, 40, 41, 42, 43, 44, 45, 51, 58, 59, 66, 67, 68, 69] → v.1 q = u.1 q) ∧ ∀ k, k ∈ [2, 24, 25] → v.1 50 k = u.1 50 k
theorem Kp.rf (u : St) : Kp u u := ⟨fun _ _ => rfl, fun _ _ => rfl⟩
theorem Kp.tr {u v w : St} (h : Kp u v) (g : Kp v w) : Kp u w := ⟨fun q hq => (g.1 q hq).trans (h.1 q hq), fun k hk => (g.2 k hk).trans (h.2 k hk)⟩
theorem Kp.of {u v : St} {P : List Nat} (hf : Fr P u v) (hP : ∀ q, q ∈ P → q ∉ [1, 2, 4, 7, 46, 52, 22, 23, 24, 25, 26, 27, 28, 29, 30, 31, 32, 33, 34, 35, 36, 37, 38, 39, 40, 41, 42, 43, 44, 45, 51, 58, 59, 66, 67, 68, 69]) (hk : ∀ k, k ∈ [2, 24, 25] → v.1 50 k = u.1 50 k) : Kp u v := ⟨fun q hq => hf.2 q (fun z => hP q z hq), hk⟩
theorem Kp.ren {u v : St} (hf : Fr [5, 11, 12, 13, 14, 15] u v) : Kp u v := Kp.of hf (by decide) (fun k _ => by rw [hf.2 50 (by decide)])
theorem Kp.mw {u v : St} (hf : Fr [50, 60, 61, 62, 63] u v) (h : ∀ j, j ≠ 17 → j ≠ 0 → v.1 50 j = u.1 50 j) : Kp u v := Kp.of hf (by decide) (fun k hk => h k (by rintro rfl; exact absurd hk (by decide)) (by rintro rfl; exact absurd hk (by decide)))
theorem wl_ix (x : Int32) : x < 0 ∨ ∃ j : Nat, j < 2 ^ 31 ∧ x = nI j := by
  by_cases h : x < 0
  · exact Or.inl h
  · exact Or.inr (nI_of h)
theorem gin {j n : Nat} (h : j < n) (hn : n ≤ 2 ^ 31) : ¬ (nI j < 0 ∨ n ≤ j) := by rw [not_or]; exact ⟨nI_pos (by omega), by omega⟩
/-- promise 9 -/
theorem op_states (F : Nat) (hF : 5000 ≤ F) {u : St} (h : CirI u) : ∃ r u1 u2, f_X11_states F u = some (r, u1) ∧ f_X12_states F u1 = some (r, u2) ∧ CirI u2 ∧ Kp u u2 := by
  obtain ⟨u1, a1, a2, a3, a4, a5, a6, a7, a8⟩ := p_ren F hF h
  obtain ⟨u2, b1, b2, b3, b4, b5, b6, b7, b8⟩ := p_mw F hF a2
  refine ⟨nI (LL u).length, u1, u2, ?_, ?_, b2, (Kp.ren a8).tr (Kp.mw b6 b8)⟩
  · unfold f_X11_states
    rw [a1]
    show some (u1.1 11 5, u1) = _
    rw [a6.1]
  · unfold f_X12_states
    rw [b1]
    show some (u2.1 50 17, u2) = _
    rw [b5.1, a4]
/-- promise 10 -/
theorem op_state (F : Nat) (hF : 5000 ≤ F) {u : St} (h : CirI u) (x : Int32) : ∃ r u1 u2, f_X11_state F x u = some (r, u1) ∧ f_X12_state F x u1 = some (r, u2) ∧ CirI u2 ∧ Kp u u2 := by
  obtain ⟨u1, a1, a2, a3, a4, a5, a6, a7, a8⟩ := p_ren F hF h
  obtain ⟨u2, b1, b2, b3, b4, b5, b6, b7, b8⟩ := p_mw F hF a2
  have hk := (Kp.ren a8).tr (Kp.mw b6 b8)
  have hl := h.gl.len
  unfold f_X11_state f_X12_state f_X10_stateAt
  rw [a1]
  simp only [Option.bind_some]
  rcases wl_ix x with hx | ⟨j, hj, rfl⟩
  · rw [if_pos hx]
    refine ⟨-1, u1, u2, rfl, ?_, b2, hk⟩
    rw [b1]
    simp only [Option.bind_some]
    rw [if_pos hx]
  · rw [if_neg (nI_pos hj), a6.1]
    by_cases hjl : (LL u).length ≤ j
    · rw [if_pos (nI_le hjl hj)]
      refine ⟨-1, u1, u2, rfl, ?_, b2, hk⟩
      rw [b1]
      simp only [Option.bind_some]
      rw [if_neg (nI_pos hj), b5.1, a4, if_pos (nI_le hjl hj)]
    · rw [if_neg (nI_ge (by omega) (by omega)), nI_clamp hj, if_neg (gin (by omega) (by decide))]
      obtain ⟨e, he⟩ : ∃ e, (LL u)[j]? = some e := ⟨_, List.getElem?_eq_getElem (show j < (LL u).length by omega)⟩
      refine ⟨nI e.1, u1, u2, ?_, ?_, b2, hk⟩
      · simp only [Option.bind_some]
        rw [(a6.2.1 j e.1 e.2 he).1]
      · rw [b1]
        simp only [Option.bind_some]
        rw [if_neg (nI_pos hj), b5.1, a4, if_neg (nI_ge (by omega) (by omega)), if_neg (gin (by omega) (by decide))]
        rw [a4] at b5
        rw [(b5.2.1 j e.1 e.2 he).1]
theorem st_in (F : Nat) {n : Nat} (h : n < 4096) (u : St) : f_X11_isState F (nI n) u = some (1, u) := by
  unfold f_X11_isState
  rw [if_neg (nI_pos (by omega)), show (4096 : Int32) = nI 4096 from rfl, if_neg (nI_ge h (by decide))]
theorem st_out (F : Nat) {x : Int32} (h : x < 0 ∨ nI 4096 ≤ x) (u : St) : f_X11_isState F x u = some (0, u) := by
  unfold f_X11_isState
  by_cases h0 : x < 0
  · rw [if_pos h0]
  · rw [if_neg h0, show (4096 : Int32) = nI 4096 from rfl, if_pos (h.resolve_left h0)]
theorem mst_in (F : Nat) {n : Nat} (h : n < 4096) (u : St) : f_X12_isState F (nI n) u = some (1, u) := st_in F h u
theorem mst_out (F : Nat) {x : Int32} (h : x < 0 ∨ nI 4096 ≤ x) (u : St) : f_X12_isState F x u = some (0, u) := st_out F h u
theorem sg_in (F : Nat) {n : Nat} (h : n < 12) (u : St) : f_X11_isSignal F (nI n) u = some (1, u) := by
  unfold f_X11_isSignal
  rw [if_neg (nI_pos (by omega)), show (12 : Int32) = nI 12 from rfl, if_neg (nI_ge h (by decide))]
theorem sg_out (F : Nat) {x : Int32} (h : x < 0 ∨ nI 12 ≤ x) (u : St) : f_X11_isSignal F x u = some (0, u) := by
  unfold f_X11_isSignal
  by_cases h0 : x < 0
  · rw [if_pos h0]
  · rw [if_neg h0, show (12 : Int32) = nI 12 from rfl, if_pos (h.resolve_left h0)]
theorem msg_in (F : Nat) {n : Nat} (h : n < 12) (u : St) : f_X12_isSignal F (nI n) u = some (1, u) := sg_in F h u
theorem msg_out (F : Nat) {x : Int32} (h : x < 0 ∨ nI 12 ≤ x) (u : St) : f_X12_isSignal F x u = some (0, u) := sg_out F h u
theorem ix4096 (x : Int32) : (x < 0 ∨ nI 4096 ≤ x) ∨ ∃ j : Nat, j < 4096 ∧ x = nI j := by
  rcases pk_ix x (n := 4096) (by decide) with h | h | h
  · exact Or.inl (Or.inl h)
  · exact Or.inl (Or.inr h)
  · exact Or.inr h
theorem ix12 (x : Int32) : (x < 0 ∨ nI 12 ≤ x) ∨ ∃ j : Nat, j < 12 ∧ x = nI j := by
  rcases pk_ix x (n := 12) (by decide) with h | h | h
  · exact Or.inl (Or.inl h)
  · exact Or.inl (Or.inr h)
  · exact Or.inr h
/-- the two places of a state are alike -/
theorem plc_eq {L : WL} {u v : St} (h1 : WC L u) (h2 : WM L v) {n : Nat} (hn : n < 4096) : u.1 13 n = v.1 61 n := by
  by_cases hm : n ∈ L.map Prod.fst
  · obtain ⟨i, b, hi⟩ := mem_fst hm
    rw [(h1.2.1 i n b hi).2.1, (h2.2.1 i n b hi).2.1]
  · rw [h1.2.2 n hn hm, h2.2.2 n hn hm]
theorem p_placeOf (F : Nat) {n : Nat} (hn : n < 4096) (u : St) : f_X10_placeOf F (nI n) u = some (u.1 13 n, u) := by
  unfold f_X10_placeOf
  rw [st_in F hn]
  simp only [Option.bind_some]
  rw [if_neg (by decide), nI_clamp (by omega), if_neg (gin hn (by decide))]
theorem p_placeOut (F : Nat) {x : Int32} (h : x < 0 ∨ nI 4096 ≤ x) (u : St) : f_X10_placeOf F x u = some (-1, u) := by
  unfold f_X10_placeOf
  rw [st_out F h]
  rfl
/-- promise 11 -/
theorem op_place (F : Nat) (hF : 5000 ≤ F) {u : St} (h : CirI u) (x : Int32) : ∃ r u1 u2, f_X11_place F x u = some (r, u1) ∧ f_X12_place F x u1 = some (r, u2) ∧ CirI u2 ∧ Kp u u2 := by
  obtain ⟨u1, a1, a2, a3, a4, a5, a6, a7, a8⟩ := p_ren F hF h
  obtain ⟨u2, b1, b2, b3, b4, b5, b6, b7, b8⟩ := p_mw F hF a2
  have hk := (Kp.ren a8).tr (Kp.mw b6 b8)
  rw [a4] at b5
  unfold f_X11_place f_X12_place
  rw [a1]
  simp only [Option.bind_some]
  rcases ix4096 x with hx | ⟨j, hj, rfl⟩
  · refine ⟨-1, u1, u2, ?_, ?_, b2, hk⟩
    · rw [p_placeOut F hx]; rfl
    · rw [b1]
      simp only [Option.bind_some]
      rw [mst_out F hx]; rfl
  · refine ⟨u1.1 13 j, u1, u2, ?_, ?_, b2, hk⟩
    · rw [p_placeOf F hj]; rfl
    · rw [b1]
      simp only [Option.bind_some]
      rw [mst_in F hj]
      simp only [Option.bind_some]
      rw [if_neg (by decide), nI_clamp (by omega), if_neg (gin hj (by decide)), plc_eq a6 b5 hj]
/-- the first state of a list that holds a set -/
def fst1 (v : Int32) : WL → Int32
  | [] => -1
  | e :: L => if nI e.1 &&& v = v then nI e.1 else fst1 v L
theorem l_first (F : Nat) (v : Int32) {L : WL} (hG : GL L) {u : St} (hW : WC L u) : ∀ (d i k : Nat), i + d = L.length → d < k → ∃ w, l_X10_firstWithAll_2 F v k (nI i) u = some w ∧ Sum.elim (fun r => some r) (fun v7 => some ((-1 : Int32), v7.2)) w = some (fst1 v (L.drop i), u)
  | d, i, 0, _, hk => absurd hk (by omega)
  | d, i, k + 1, hd, hk => by
    have hl := hG.len
    show ∃ w, b_X10_firstWithAll_2 F v (l_X10_firstWithAll_2 F v k) (nI i) u = _ ∧ _
    unfold b_X10_firstWithAll_2
    rw [hW.1]
    by_cases h0 : d = 0
    · rw [if_pos (nI_le (by omega) (by omega)), List.drop_eq_nil_of_le (by omega)]
      exact ⟨_, rfl, rfl⟩
    · obtain ⟨e, he⟩ : ∃ e, L[i]? = some e := ⟨_, List.getElem?_eq_getElem (show i < L.length by omega)⟩
      rw [if_neg (nI_ge (by omega) (by omega)), nI_clamp (by omega), if_neg (gin (by omega) (by decide)), (hW.2.1 i e.1 e.2 he).1, if_neg (gin (by omega) (by decide)), nI_1]
      have hd2 : L.drop i = e :: L.drop (i + 1) := by
        have hlt : i < L.length := by omega
        rw [List.drop_eq_getElem_cons hlt]
        congr 1
        exact Option.some.inj ((List.getElem?_eq_getElem hlt).symm.trans he)
      rw [hd2]
      unfold fst1
      by_cases hv : nI e.1 &&& v = v
      · rw [if_pos hv, if_pos hv]
        exact ⟨_, rfl, rfl⟩
      · rw [if_neg hv, if_neg hv]
        exact l_first F v hG hW (d - 1) (i + 1) k (by omega) (by omega)
theorem l_mfirst (F : Nat) (v : Int32) {L : WL} (hG : GL L) {u : St} (hW : WM L u) : ∀ (d i k : Nat), i + d = L.length → d < k → ∃ w, l_X12_both_15 F v k (nI i) u = some w ∧ Sum.elim (fun r => some r) (fun v7 => some ((-1 : Int32), v7.2)) w = some (fst1 v (L.drop i), u)
  | d, i, 0, _, hk => absurd hk (by omega)
  | d, i, k + 1, hd, hk => by
    have hl := hG.len
    show ∃ w, b_X12_both_15 F v (l_X12_both_15 F v k) (nI i) u = _ ∧ _
    unfold b_X12_both_15
    rw [hW.1]
    by_cases h0 : d = 0
    · rw [if_pos (nI_le (by omega) (by omega)), List.drop_eq_nil_of_le (by omega)]
      exact ⟨_, rfl, rfl⟩
    · obtain ⟨e, he⟩ : ∃ e, L[i]? = some e := ⟨_, List.getElem?_eq_getElem (show i < L.length by omega)⟩
      rw [if_neg (nI_ge (by omega) (by omega)), nI_clamp (by omega), if_neg (gin (by omega) (by decide)), (hW.2.1 i e.1 e.2 he).1, if_neg (gin (by omega) (by decide)), nI_1]
      have hd2 : L.drop i = e :: L.drop (i + 1) := by
        have hlt : i < L.length := by omega
        rw [List.drop_eq_getElem_cons hlt]
        congr 1
        exact Option.some.inj ((List.getElem?_eq_getElem hlt).symm.trans he)
      rw [hd2]
      unfold fst1
      by_cases hv : nI e.1 &&& v = v
      · rw [if_pos hv, if_pos hv]
        exact ⟨_, rfl, rfl⟩
      · rw [if_neg hv, if_neg hv]
        exact l_mfirst F v hG hW (d - 1) (i + 1) k (by omega) (by omega)
/-- promise 17 -/
theorem op_both (F : Nat) (hF : 5000 ≤ F) {u : St} (h : CirI u) (x : Int32) : ∃ r u1 u2, f_X11_both F x u = some (r, u1) ∧ f_X12_both F x u1 = some (r, u2) ∧ CirI u2 ∧ Kp u u2 := by
  rcases ix4096 x with hx | ⟨j, hj, rfl⟩
  · obtain ⟨u2, b1, b2, b3, b4, b5, b6, b7, b8⟩ := p_mw F hF h
    refine ⟨-1, u, u2, ?_, ?_, b2, Kp.mw b6 b8⟩
    · unfold f_X11_both
      rw [st_out F hx]; rfl
    · unfold f_X12_both
      rw [b1]
      simp only [Option.bind_some]
      rw [mst_out F hx]; rfl
  · obtain ⟨u1, a1, a2, a3, a4, a5, a6, a7, a8⟩ := p_ren F hF h
    obtain ⟨u2, b1, b2, b3, b4, b5, b6, b7, b8⟩ := p_mw F hF a2
    have hl := h.gl.len
    rw [a4] at b5
    obtain ⟨w, k1, k2⟩ := l_first F (nI j) h.gl a6 (LL u).length 0 F (by omega) (by omega)
    obtain ⟨w2, m1, m2⟩ := l_mfirst F (nI j) h.gl b5 (LL u).length 0 F (by omega) (by omega)
    rw [show nI 0 = 0 from rfl] at k1 m1
    refine ⟨fst1 (nI j) ((LL u).drop 0), u1, u2, ?_, ?_, b2, (Kp.ren a8).tr (Kp.mw b6 b8)⟩
    · unfold f_X11_both
      rw [st_in F hj]
      simp only [Option.bind_some]
      rw [if_neg (by decide), a1]
      simp only [Option.bind_some]
      unfold f_X10_firstWithAll
      rw [k1]
      simp only [Option.bind_some]
      rw [k2]
      simp only [Option.bind_some]
    · unfold f_X12_both
      rw [b1]
      simp only [Option.bind_some]
      rw [mst_in F hj]
      simp only [Option.bind_some]
      rw [if_neg (by decide), m1]
      simp only [Option.bind_some]
      rw [m2]
