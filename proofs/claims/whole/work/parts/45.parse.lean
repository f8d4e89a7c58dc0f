/-! the text: what both readers do -/
def bvN (l : List Nat) (p : Nat) : Int32 := match l[p]? with
  | some b => nI b
  | none => -1
def pbD (l : List Nat) : Nat → Nat → Nat
  | 0, i => i
  | d + 1, i => if l[i]? = some 32 then pbD l d (i + 1) else i
def pbk (l : List Nat) (i : Nat) : Nat := pbD l (l.length - i) i
theorem pbk_eq (l : List Nat) (i : Nat) : pbk l i = if l[i]? = some 32 then pbk l (i + 1) else i := by
  unfold pbk
  by_cases h : i < l.length
  · obtain ⟨d, hd⟩ : ∃ d, l.length - i = d + 1 := ⟨l.length - i - 1, by omega⟩
    rw [hd, show l.length - (i + 1) = d by omega]
    rfl
  · rw [show l.length - i = 0 by omega, if_neg (by rw [List.getElem?_eq_none (by omega)]; simp)]
    rfl
theorem pbD_nb (l : List Nat) : ∀ (d i : Nat), l.length ≤ i + d → l[pbD l d i]? ≠ some 32
  | 0, i, h => by
    unfold pbD
    rw [List.getElem?_eq_none (by omega)]
    simp
  | d + 1, i, h => by
    unfold pbD
    by_cases q : l[i]? = some 32
    · rw [if_pos q]; exact pbD_nb l d (i + 1) (by omega)
    · rw [if_neg q]; exact q
theorem pbD_le (l : List Nat) : ∀ (d i : Nat), i + d ≤ l.length → pbD l d i ≤ l.length
  | 0, i, h => by unfold pbD; omega
  | d + 1, i, h => by
    unfold pbD
    by_cases q : l[i]? = some 32
    · rw [if_pos q]; exact pbD_le l d (i + 1) (by omega)
    · rw [if_neg q]; omega
theorem pbk_le {l : List Nat} {i : Nat} (h : i ≤ l.length) : pbk l i ≤ l.length := pbD_le l _ i (by omega)
theorem pbk_nb (l : List Nat) (i : Nat) : l[pbk l i]? ≠ some 32 := pbD_nb l _ i (by omega)
theorem pbk_pk (l : List Nat) (i : Nat) : pbk l (pbk l i) = pbk l i := by
  rw [pbk_eq l (pbk l i), if_neg (pbk_nb l i)]
def ltr (l : List Nat) (p : Nat) : Option Nat := match l[p]? with
  | some b => if 97 ≤ b ∧ b < 109 then some (b - 97) else none
  | none => none
def onI (o : Option Nat) : Int32 := match o with
  | some j => nI j
  | none => -1
abbrev EL : Type := List (Nat × Int32 × Int32)
def bitI (j : Nat) : Int32 := (1 : Int32) <<< (nI j &&& 31)
def litS (l : List Nat) : Nat → Nat → Int32 → Int32 → Nat × Int32 × Int32
  | 0, p, o, z => (p, o, z)
  | d + 1, p, o, z => match ltr l p with
    | none => (p, o, z)
    | some j => if bvN l (pbk l (p + 1)) = 39 then litS l d (pbk l (pbk l (p + 1) + 1)) o (z ||| bitI j) else litS l d (pbk l (p + 1)) (o ||| bitI j) z
def trmS (l : List Nat) (x : Nat) : Nat → Nat → EL → Bool × Nat × EL
  | 0, p, E => (false, p, E)
  | d + 1, p, E => if ltr l p = none then (false, p, E) else
    if ltr l (litS l 8 p 0 0).1 = none then
      (if bvN l (litS l 8 p 0 0).1 = 43 then trmS l x d (pbk l ((litS l 8 p 0 0).1 + 1)) (E ++ [(x, (litS l 8 p 0 0).2)]) else (true, (litS l 8 p 0 0).1, E ++ [(x, (litS l 8 p 0 0).2)]))
    else (false, (litS l 8 p 0 0).1, E ++ [(x, (litS l 8 p 0 0).2)])
def eqS (l : List Nat) (p : Nat) (E : EL) (sg : Int32) : Bool × Nat × EL × Int32 := match ltr l p with
  | none => (false, p, E, sg)
  | some x => if bt sg x = true then (false, p, E, sg) else
    if bvN l (pbk l (p + 1)) = 61 then
      (if bvN l (pbk l (pbk l (p + 1) + 1)) = 48 then (true, pbk l (pbk l (pbk l (p + 1) + 1) + 1), E ++ [(x, 1, 1)], sg ||| bitI x)
      else if bvN l (pbk l (pbk l (p + 1) + 1)) = 49 then (true, pbk l (pbk l (pbk l (p + 1) + 1) + 1), E ++ [(x, 0, 0)], sg ||| bitI x)
      else ((trmS l x 12 (pbk l (pbk l (p + 1) + 1)) E).1, (trmS l x 12 (pbk l (pbk l (p + 1) + 1)) E).2.1, (trmS l x 12 (pbk l (pbk l (p + 1) + 1)) E).2.2, sg ||| bitI x))
    else (false, pbk l (p + 1), E, sg)
def rdS (l : List Nat) : Nat → Nat → EL → Int32 → Option Nat × EL × Int32
  | 0, p, E, sg => (some p, E, sg)
  | d + 1, p, E, sg => if (eqS l p E sg).1 = false then (some (eqS l p E sg).2.1, (eqS l p E sg).2.2) else
    if l.length ≤ (eqS l p E sg).2.1 then (none, (eqS l p E sg).2.2) else
    if bvN l (eqS l p E sg).2.1 = 59 then rdS l d (pbk l ((eqS l p E sg).2.1 + 1)) (eqS l p E sg).2.2.1 (eqS l p E sg).2.2.2 else (some (eqS l p E sg).2.1, (eqS l p E sg).2.2)
def rdA (l : List Nat) : Option Nat × EL × Int32 := if l.length ≤ pbk l 0 then (none, [], 0) else rdS l 12 (pbk l 0) [] 0
/-! the system's reader -/
theorem bvN_in {l : List Nat} {p b : Nat} (h : l[p]? = some b) : bvN l p = nI b := by unfold bvN; rw [h]
theorem bvN_out {l : List Nat} {p : Nat} (h : l.length ≤ p) : bvN l p = -1 := by unfold bvN; rw [List.getElem?_eq_none h]
theorem c_byteAt (F : Nat) {l : List Nat} {u : St} (hl : l.length ≤ 300) (hT : TC l u) {p : Nat} (hp : p ≤ 1000) : f_X7_byteAt F (nI p) u = some (bvN l p, u) := by
  unfold f_X7_byteAt
  rw [if_neg (nI_pos (by omega)), hT.1]
  by_cases h : l.length ≤ p
  · rw [if_pos (nI_le h (by omega)), bvN_out h]
  · obtain ⟨b, hb⟩ : ∃ b, l[p]? = some b := ⟨_, List.getElem?_eq_getElem (show p < l.length by omega)⟩
    rw [if_neg (nI_ge (by omega) (by omega)), nI_clamp (by omega), if_neg (gin (show p < 300 by omega) (by decide)), hT.2 p b hb, bvN_in hb]
theorem l_past (F : Nat) {l : List Nat} {u : St} (hl : l.length ≤ 300) (hb : ∀ b ∈ l, b < 256) (hT : TC l u) : ∀ (d i k : Nat), l.length - i = d → d < k → i ≤ 1000 → l_X7_pastBlanks_2 F k (nI i) u = some (nI (pbD l d i), u)
  | d, i, 0, _, hk, _ => absurd hk (by omega)
  | d, i, k + 1, hd, hk, hi => by
    show b_X7_pastBlanks_2 F (l_X7_pastBlanks_2 F k) _ u = _
    unfold b_X7_pastBlanks_2
    rw [if_neg (nI_pos (by omega)), hT.1]
    cases d with
    | zero =>
      rw [if_pos (nI_le (by omega) (by omega))]
      rfl
    | succ d =>
      obtain ⟨b, hbi⟩ : ∃ b, l[i]? = some b := ⟨_, List.getElem?_eq_getElem (show i < l.length by omega)⟩
      have hb2 := hb b (List.mem_of_getElem? hbi)
      rw [if_neg (nI_ge (by omega) (by omega)), nI_clamp (by omega), if_neg (gin (show i < 300 by omega) (by decide)), hT.2 i b hbi, nI_1]
      unfold pbD
      by_cases h32 : b = 32
      · subst h32
        rw [if_pos (show nI 32 = 32 from rfl), if_pos hbi]
        exact l_past F hl hb hT d (i + 1) k (by omega) (by omega) (by omega)
      · rw [if_neg (show ¬ nI b = 32 from fun q => h32 (nI_inj (b := 32) (by omega) (by decide) q)), if_neg (by rw [hbi]; simpa using h32)]
/-- the system's reader stands at p of the tape l -/
def RD (l : List Nat) (p : Nat) (u : St) : Prop := l.length ≤ 300 ∧ (∀ b ∈ l, b < 256) ∧ TC l u ∧ u.1 3 1 = nI p ∧ p ≤ l.length
theorem RD.at' {l : List Nat} {p q : Nat} {u v : St} (h : RD l p u) (hf : Fr [3] u v) (h3 : v.1 3 1 = nI q) (hq : q ≤ l.length) : RD l q v := ⟨h.1, h.2.1, h.2.2.1.fr (by rw [hf.2 1 (by decide)]) (hf.2 2 (by decide)), h3, hq⟩
theorem c_step (F : Nat) (hF : 1000 ≤ F) {l : List Nat} {p : Nat} {u : St} (h : RD l p u) (hp : p < l.length) : f_X6_step F u = some (wr u 3 1 (nI (pbk l (p + 1)))) ∧ RD l (pbk l (p + 1)) (wr u 3 1 (nI (pbk l (p + 1)))) := by
  obtain ⟨h1, h2, h3, h4, h5⟩ := id h
  refine ⟨?_, h.at' ((Fr.rf _ u).w (by decide)) (wr_eq _) (pbk_le (by omega))⟩
  unfold f_X6_step f_X7_pastBlanks
  rw [h4, nI_1, l_past F h1 h2 h3 _ (p + 1) F rfl (by omega) (by omega)]
  rfl
theorem c_isOn (F : Nat) {l : List Nat} {p : Nat} {u : St} (h : RD l p u) (ch : Int32) : f_X6_isOn F ch u = some (b2i (decide (bvN l p = ch)), u) := by
  unfold f_X6_isOn
  rw [h.2.2.2.1, c_byteAt F h.1 h.2.2.1 (by have := h.2.2.2.2; have := h.1; omega)]
  simp only [Option.bind_some]
  by_cases q : bvN l p = ch
  · rw [if_pos q]; simp [q, b2i]
  · rw [if_neg q]; simp [q, b2i]
theorem c_sig (F : Nat) {l : List Nat} {p : Nat} {u : St} (h : RD l p u) : f_X6_signalHere F u = some (onI (ltr l p), u) := by
  unfold f_X6_signalHere
  rw [h.2.2.2.1, c_byteAt F h.1 h.2.2.1 (by have := h.2.2.2.2; have := h.1; omega)]
  simp only [Option.bind_some]
  unfold bvN ltr onI
  cases hb : l[p]? with
  | none => rw [if_pos (by decide)]
  | some b =>
    have hb2 := h.2.1 b (List.mem_of_getElem? hb)
    simp only
    rw [show (97 : Int32) = nI 97 from rfl, show (109 : Int32) = nI 109 from rfl]
    by_cases h1 : b < 97
    · rw [if_pos (nI_lt h1 (by decide)), if_neg (by omega)]
    · rw [if_neg (nI_nlt (by omega) (by omega))]
      by_cases h2 : 109 ≤ b
      · rw [if_pos (nI_le h2 (by omega)), if_neg (by omega)]
      · rw [if_neg (nI_ge (by omega) (by decide)), if_pos ⟨by omega, by omega⟩, pk_sub (by omega)]
theorem ltr_lt {l : List Nat} {p j : Nat} (h : ltr l p = some j) : j < 12 ∧ p < l.length := by
  unfold ltr at h
  cases hb : l[p]? with
  | none => rw [hb] at h; cases h
  | some b =>
    rw [hb] at h
    simp only at h
    have hp := (List.getElem?_eq_some_iff.mp hb).1
    by_cases q : 97 ≤ b ∧ b < 109
    · rw [if_pos q] at h
      cases h
      exact ⟨by omega, hp⟩
    · rw [if_neg q] at h; cases h
theorem bvN_lt {l : List Nat} {p : Nat} {c : Int32} (hc : c ≠ -1) (h : bvN l p = c) : p < l.length := by
  rcases Nat.lt_or_ge p l.length with q | q
  · exact q
  · rw [bvN_out q] at h
    exact absurd h.symm hc
theorem litS_le {l : List Nat} : ∀ (d p : Nat) (o z : Int32), p ≤ l.length → (litS l d p o z).1 ≤ l.length
  | 0, p, _, _, h => h
  | d + 1, p, o, z, h => by
    unfold litS
    cases hj : ltr l p with
    | none => exact h
    | some j =>
      have hp := (ltr_lt hj).2
      simp only
      by_cases q : bvN l (pbk l (p + 1)) = 39
      · rw [if_pos q]
        have := bvN_lt (by decide) q
        exact litS_le d _ _ _ (pbk_le (by omega))
      · rw [if_neg q]
        exact litS_le d _ _ _ (pbk_le (by omega))
theorem l_cterm (F : Nat) (hF : 1000 ≤ F) (x1 : Int32) (q2 : Nat) {l : List Nat} : ∀ (d i k p : Nat) (o z : Int32) (u : St), i + d = 8 → d < k → RD l p u → ∃ y u', l_X6_readTerm_22 F x1 q2 k o z (onI (ltr l p)) (nI i) u = some ((litS l d p o z).2.1, (litS l d p o z).2.2, onI (ltr l (litS l d p o z).1), y, u') ∧ RD l (litS l d p o z).1 u' ∧ Fr [3] u u'
  | d, i, 0, _, _, _, _, _, hk, _ => absurd hk (by omega)
  | d, i, k + 1, p, o, z, u, hd, hk, hR => by
    show ∃ y u', b_X6_readTerm_22 F x1 q2 (l_X6_readTerm_22 F x1 q2 k) _ _ _ _ u = _ ∧ _
    unfold b_X6_readTerm_22
    rw [show (8 : Int32) = nI 8 from rfl]
    cases d with
    | zero =>
      rw [if_pos (nI_le (by omega) (by omega))]
      exact ⟨_, u, rfl, hR, Fr.rf _ _⟩
    | succ d =>
      rw [if_neg (nI_ge (show i < 8 by omega) (by decide))]
      unfold litS
      cases hj : ltr l p with
      | none =>
        rw [show onI none = -1 from rfl, if_pos rfl]
        simp only
        exact ⟨_, u, by rw [hj]; rfl, hR, Fr.rf _ _⟩
      | some j =>
        obtain ⟨hj12, hp⟩ := ltr_lt hj
        rw [show onI (some j) = nI j from rfl, if_neg (nI_ne_m1 (by omega))]
        obtain ⟨s1, s2⟩ := c_step F hF hR hp
        rw [s1]
        simp only [Option.bind_some]
        rw [c_isOn F s2]
        simp only [Option.bind_some, nI_1]
        have f1 : Fr [3] u (wr u 3 1 (nI (pbk l (p + 1)))) := (Fr.rf _ u).w (by decide)
        by_cases q : bvN l (pbk l (p + 1)) = 39
        · rw [if_neg (by simp [q, b2i]), if_pos q]
          obtain ⟨t1, t2⟩ := c_step F hF s2 (bvN_lt (by decide) q)
          rw [t1]
          simp only [Option.bind_some]
          rw [c_sig F t2]
          simp only [Option.bind_some]
          have f2 : Fr [3] (wr u 3 1 (nI (pbk l (p + 1)))) (wr (wr u 3 1 (nI (pbk l (p + 1)))) 3 1 (nI (pbk l (pbk l (p + 1) + 1)))) := (Fr.rf _ _).w (by decide)
          obtain ⟨y, u', k1, k2, k3⟩ := l_cterm F hF x1 q2 d (i + 1) k _ o (z ||| bitI j) _ (by omega) (by omega) t2
          exact ⟨y, u', k1, k2, (f1.tr f2).tr k3⟩
        · rw [if_pos (by simp [q, b2i]), if_neg q, c_sig F s2]
          simp only [Option.bind_some]
          obtain ⟨y, u', k1, k2, k3⟩ := l_cterm F hF x1 q2 d (i + 1) k _ (o ||| bitI j) z _ (by omega) (by omega) s2
          exact ⟨y, u', k1, k2, f1.tr k3⟩
/-- the list of terms that a text's place holds -/
def EC (q : Nat) (E : EL) (sg : Int32) (u : St) : Prop := u.1 q 3 = nI E.length ∧ u.1 q 4 = sg ∧ ∀ i x o z, E[i]? = some (x, o, z) → u.1 (q + 1) i = nI x ∧ u.1 (q + 2) i = o ∧ u.1 (q + 3) i = z
theorem EC.f3 {q : Nat} (hq : IsE q) {E : EL} {sg : Int32} {u v : St} (h : EC q E sg u) (hf : Fr [3] u v) : EC q E sg v := by
  have e : ∀ r, r ≠ 3 → v.1 r = u.1 r := fun r hr => hf.2 r (by simpa using hr)
  unfold EC
  rw [e q (by rcases hq with q | q <;> rw [q] <;> decide), e (q + 1) (by rcases hq with q | q <;> rw [q] <;> decide), e (q + 2) (by rcases hq with q | q <;> rw [q] <;> decide), e (q + 3) (by rcases hq with q | q <;> rw [q] <;> decide)]
  exact h
theorem c_addTerm (F : Nat) {q : Nat} {E : EL} {sg : Int32} {u : St} (h : EC q E sg u) (hE : E.length < 144) (x : Nat) (o z : Int32) : ∃ u', f_X1_addTerm F q (nI x) o z u = some u' ∧ EC q (E ++ [(x, o, z)]) sg u' ∧ Fr [q, q + 1, q + 2, q + 3] u u' := by
  obtain ⟨h1, h2, h3⟩ := h
  unfold f_X1_addTerm
  have g1 : (wr u (q + 1) E.length (nI x)).1 q 3 = nI E.length := by rw [wr_ne _ (by omega), h1]
  have g2 : (wr (wr u (q + 1) E.length (nI x)) (q + 2) E.length o).1 q 3 = nI E.length := by rw [wr_ne _ (by omega), g1]
  have g3 : (wr (wr (wr u (q + 1) E.length (nI x)) (q + 2) E.length o) (q + 3) E.length z).1 q 3 = nI E.length := by rw [wr_ne _ (by omega), g2]
  rw [h1, show (144 : Int32) = nI 144 from rfl, if_neg (nI_ge hE (by decide)), nI_clamp (by omega), if_neg (gin hE (by decide)), g1, nI_clamp (by omega), if_neg (gin hE (by decide)), g2, nI_clamp (by omega), if_neg (gin hE (by decide)), g3, nI_1]
  refine ⟨_, rfl, ⟨?_, ?_, ?_⟩, ((((Fr.rf _ u).w (by simp)).w (by simp)).w (by simp)).w (by simp)⟩
  · rw [wr_eq, List.length_append, List.length_singleton]
  · rw [wr_nek _ (by decide), wr_ne _ (by omega), wr_ne _ (by omega), wr_ne _ (by omega)]
    exact h2
  · intro i y o2 z2 hi
    rw [wr_ne _ (show q + 1 ≠ q by omega), wr_ne _ (show q + 1 ≠ q + 3 by omega), wr_ne _ (show q + 1 ≠ q + 2 by omega), wr_ne _ (show q + 2 ≠ q by omega), wr_ne _ (show q + 2 ≠ q + 3 by omega), wr_ne _ (show q + 3 ≠ q by omega)]
    by_cases hil : i < E.length
    · rw [List.getElem?_append_left hil] at hi
      obtain ⟨p1, p2, p3⟩ := h3 i y o2 z2 hi
      rw [wr_nek _ (by omega), wr_nek _ (by omega), wr_nek _ (by omega), wr_ne _ (show q + 2 ≠ q + 1 by omega), wr_ne _ (show q + 3 ≠ q + 2 by omega), wr_ne _ (show q + 3 ≠ q + 1 by omega)]
      exact ⟨p1, p2, p3⟩
    · rw [List.getElem?_append_right (by omega)] at hi
      have hz : i - E.length < 1 := (List.getElem?_eq_some_iff.mp hi).1
      have hiL : i = E.length := by omega
      subst hiL
      rw [Nat.sub_self] at hi
      cases hi
      rw [wr_eq, wr_eq, wr_eq]
      exact ⟨rfl, rfl, rfl⟩
/-- what the system's reader may change -/
def FrE (q : Nat) (u v : St) : Prop := Fr [3, q, q + 1, q + 2, q + 3] u v
theorem RD.fe {l : List Nat} {p q : Nat} {u v : St} (hq : IsE q) (h : RD l p u) (hf : Fr [q, q + 1, q + 2, q + 3] u v) : RD l p v := by
  have e : ∀ r, r = 1 ∨ r = 2 ∨ r = 3 → v.1 r = u.1 r := fun r hr => hf.2 r (by
    simp only [List.mem_cons, List.not_mem_nil, or_false]
    rcases hq with q | q <;> omega)
  exact ⟨h.1, h.2.1, h.2.2.1.fr (by rw [e 1 (by omega)]) (e 2 (by omega)), by rw [e 3 (by omega)]; exact h.2.2.2.1, h.2.2.2.2⟩
theorem c_readTerm (F : Nat) (hF : 1000 ≤ F) {q : Nat} (hq : IsE q) {l : List Nat} {p : Nat} {E : EL} {sg : Int32} {u : St} (x : Nat) (hR : RD l p u) (hE : EC q E sg u) (hl : E.length < 144) : if ltr l p = none then f_X6_readTerm F (nI x) q u = some (0, u) else ∃ u', f_X6_readTerm F (nI x) q u = some (b2i (decide (ltr l (litS l 8 p 0 0).1 = none)), u') ∧ RD l (litS l 8 p 0 0).1 u' ∧ EC q (E ++ [(x, (litS l 8 p 0 0).2)]) sg u' ∧ FrE q u u' := by
  by_cases hj : ltr l p = none
  · rw [if_pos hj]
    unfold f_X6_readTerm
    rw [c_sig F hR, hj]
    rfl
  · rw [if_neg hj]
    obtain ⟨j, hj2⟩ := Option.ne_none_iff_exists'.mp hj
    have hj12 := (ltr_lt hj2).1
    obtain ⟨y, u1, k1, k2, k3⟩ := l_cterm F hF (nI x) q 8 0 F p 0 0 u (by omega) (by omega) hR
    rw [show nI 0 = 0 from rfl] at k1
    obtain ⟨u2, m1, m2, m3⟩ := c_addTerm F (hE.f3 hq k3) hl x (litS l 8 p 0 0).2.1 (litS l 8 p 0 0).2.2
    refine ⟨u2, ?_, k2.fe hq m3, m2, (k3.mono (by simp)).tr (m3.mono (by intro r hr; simp at hr ⊢; omega))⟩
    unfold f_X6_readTerm
    rw [c_sig F hR]
    simp only [Option.bind_some]
    rw [if_neg (by rw [hj2]; exact nI_ne_m1 (by omega)), k1]
    simp only [Option.bind_some]
    rw [m1]
    simp only [Option.bind_some]
    cases hl2 : ltr l (litS l 8 p 0 0).1 with
    | none =>
      rw [if_pos (show onI none = -1 from rfl)]
      rfl
    | some j3 =>
      have := (ltr_lt hl2).1
      rw [if_neg (show ¬ onI (some j3) = -1 from nI_ne_m1 (by omega))]
      rfl
theorem l_cterms (F : Nat) (hF : 1000 ≤ F) {q : Nat} (hq : IsE q) {l : List Nat} (x : Nat) {sg : Int32} : ∀ (d i k p : Nat) (E : EL) (u : St), i + d = 12 → d < k → RD l p u → EC q E sg u → E.length + d ≤ 144 → ∃ w u', l_X6_readTerms_2 F (nI x) q k (nI i) u = some w ∧ Sum.elim (fun r => some r) (fun v16 => some ((0 : Int32), v16.2)) w = some (b2i (trmS l x d p E).1, u') ∧ RD l (trmS l x d p E).2.1 u' ∧ EC q (trmS l x d p E).2.2 sg u' ∧ FrE q u u'
  | d, i, 0, _, _, _, _, hk, _, _, _ => absurd hk (by omega)
  | d, i, k + 1, p, E, u, hd, hk, hR, hE, hl => by
    show ∃ w u', b_X6_readTerms_2 F (nI x) q (l_X6_readTerms_2 F (nI x) q k) _ u = _ ∧ _
    unfold b_X6_readTerms_2
    rw [show (12 : Int32) = nI 12 from rfl]
    cases d with
    | zero =>
      rw [if_pos (nI_le (by omega) (by omega))]
      exact ⟨_, u, rfl, rfl, hR, hE, Fr.rf _ _⟩
    | succ d =>
      rw [if_neg (nI_ge (show i < 12 by omega) (by decide))]
      have ht := c_readTerm F hF hq x hR hE (by omega)
      unfold trmS
      by_cases hj : ltr l p = none
      · rw [if_pos hj] at ht ⊢
        rw [ht]
        exact ⟨_, u, rfl, rfl, hR, hE, Fr.rf _ _⟩
      · rw [if_neg hj] at ht ⊢
        obtain ⟨u1, t1, t2, t3, t4⟩ := ht
        rw [t1]
        simp only [Option.bind_some]
        by_cases hn : ltr l (litS l 8 p 0 0).1 = none
        · rw [if_pos hn, if_neg (by simp [hn, b2i]), c_isOn F t2]
          simp only [Option.bind_some]
          by_cases hpl : bvN l (litS l 8 p 0 0).1 = 43
          · rw [if_neg (by simp [hpl, b2i]), if_pos hpl]
            obtain ⟨s1, s2⟩ := c_step F hF t2 (bvN_lt (by decide) hpl)
            rw [s1]
            simp only [Option.bind_some, nI_1]
            have f3 : Fr [3] u1 (wr u1 3 1 (nI (pbk l ((litS l 8 p 0 0).1 + 1)))) := (Fr.rf _ u1).w (by decide)
            obtain ⟨w, u2, k1, k2, k3, k4, k5⟩ := l_cterms F hF hq x (sg := sg) d (i + 1) k _ (E ++ [(x, (litS l 8 p 0 0).2)]) _ (by omega) (by omega) s2 (t3.f3 hq f3) (by rw [List.length_append, List.length_singleton]; omega)
            exact ⟨w, u2, k1, k2, k3, k4, (t4.tr (f3.mono (by simp))).tr k5⟩
          · rw [if_pos (by simp [hpl, b2i]), if_neg hpl]
            exact ⟨_, u1, rfl, rfl, t2, t3, t4⟩
        · rw [if_neg hn, if_pos (by simp [hn, b2i])]
          exact ⟨_, u1, rfl, rfl, t2, t3, t4⟩
