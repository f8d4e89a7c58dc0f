/-! circuit -/
def WE (E : EL) (sg : Int32) : Prop := (∀ e ∈ E, e.1 < 12) ∧ S12 sg
theorem trmS_we {l : List Nat} {x : Nat} (hx : x < 12) : ∀ (d p : Nat) (E : EL), (∀ e ∈ E, e.1 < 12) → ∀ e ∈ (trmS l x d p E).2.2, e.1 < 12
  | 0, p, E, h => h
  | d + 1, p, E, h => by
    have h2 : ∀ e ∈ E ++ [(x, (litS l 8 p 0 0).2)], e.1 < 12 := fun e he => by
      rcases List.mem_append.mp he with q | q
      · exact h e q
      · rw [List.mem_singleton.mp q]; exact hx
    unfold trmS
    by_cases h1 : ltr l p = none
    · rw [if_pos h1]; exact h
    · rw [if_neg h1]
      by_cases h3 : ltr l (litS l 8 p 0 0).1 = none
      · rw [if_pos h3]
        by_cases h4 : bvN l (litS l 8 p 0 0).1 = 43
        · rw [if_pos h4]; exact trmS_we hx d _ _ h2
        · rw [if_neg h4]; exact h2
      · rw [if_neg h3]; exact h2
theorem S12_or {sg : Int32} (h : S12 sg) {x : Nat} (hx : x < 12) : S12 (sg ||| bitI x) := fun j hj => by
  rw [or_bt sg hx, h j hj]
  simp; omega
theorem eqS_we {l : List Nat} {p : Nat} {E : EL} {sg : Int32} (h : WE E sg) : WE (eqS l p E sg).2.2.1 (eqS l p E sg).2.2.2 := by
  unfold eqS
  cases hj : ltr l p with
  | none => exact h
  | some x =>
    have hx := (ltr_lt hj).1
    have h2 : ∀ c, ∀ e ∈ E ++ [(x, c)], e.1 < 12 := fun c e he => by
      rcases List.mem_append.mp he with q | q
      · exact h.1 e q
      · rw [List.mem_singleton.mp q]; exact hx
    simp only
    by_cases hs : bt sg x = true
    · rw [if_pos hs]; exact h
    · rw [if_neg hs]
      by_cases h61 : bvN l (pbk l (p + 1)) = 61
      · rw [if_pos h61]
        by_cases h48 : bvN l (pbk l (pbk l (p + 1) + 1)) = 48
        · rw [if_pos h48]; exact ⟨h2 _, S12_or h.2 hx⟩
        · rw [if_neg h48]
          by_cases h49 : bvN l (pbk l (pbk l (p + 1) + 1)) = 49
          · rw [if_pos h49]; exact ⟨h2 _, S12_or h.2 hx⟩
          · rw [if_neg h49]; exact ⟨trmS_we hx 12 _ _ h.1, S12_or h.2 hx⟩
      · rw [if_neg h61]; exact h
theorem rdS_we {l : List Nat} : ∀ (d p : Nat) (E : EL) (sg : Int32), WE E sg → WE (rdS l d p E sg).2.1 (rdS l d p E sg).2.2 ∧ (rdS l d p E sg).2.1.length ≤ E.length + 12 * d
  | 0, p, E, sg, h => ⟨h, by show E.length ≤ _; omega⟩
  | d + 1, p, E, sg, h => by
    have h2 := eqS_we (l := l) (p := p) h
    have h3 := eqS_len l p E sg
    unfold rdS
    by_cases hb : (eqS l p E sg).1 = false
    · rw [if_pos hb]; exact ⟨h2, by show (eqS l p E sg).2.2.1.length ≤ _; omega⟩
    · rw [if_neg hb]
      by_cases he : l.length ≤ (eqS l p E sg).2.1
      · rw [if_pos he]; exact ⟨h2, by show (eqS l p E sg).2.2.1.length ≤ _; omega⟩
      · rw [if_neg he]
        by_cases h59 : bvN l (eqS l p E sg).2.1 = 59
        · rw [if_pos h59]
          have h4 := rdS_we (l := l) d (pbk l ((eqS l p E sg).2.1 + 1)) _ _ h2
          exact ⟨h4.1, by omega⟩
        · rw [if_neg h59]; exact ⟨h2, by show (eqS l p E sg).2.2.1.length ≤ _; omega⟩
theorem rdA_we (l : List Nat) : WE (rdA l).2.1 (rdA l).2.2 ∧ (rdA l).2.1.length ≤ 144 := by
  have w0 : WE [] 0 := ⟨fun e he => by simp at he, fun j _ => bt_zero j⟩
  unfold rdA
  by_cases he : l.length ≤ pbk l 0
  · rw [if_pos he]; exact ⟨w0, by simp⟩
  · rw [if_neg he]
    have := rdS_we (l := l) 12 (pbk l 0) [] 0 w0
    exact ⟨this.1, by simpa using this.2⟩
theorem own_cons (e : Nat × Int32 × Int32) (E : EL) (x : Nat) : own (e :: E) x = if e.1 = x then e.2 :: own E x else own E x := by
  unfold own
  by_cases h : e.1 = x
  · rw [if_pos h, List.filter_cons_of_pos (by simp [h])]
    rfl
  · rw [if_neg h, List.filter_cons_of_neg (by simp [h])]
theorem sm_own1 (e : Nat × Int32 × Int32) (E : EL) : ∀ n, sm (fun x => (own (e :: E) x).length) n = sm (fun x => (own E x).length) n + if e.1 < n then 1 else 0
  | 0 => by simp [sm]
  | n + 1 => by
    unfold sm
    rw [sm_own1 e E n, own_cons]
    by_cases h1 : e.1 = n
    · rw [if_pos h1, if_neg (by omega), if_pos (by omega), List.length_cons]; omega
    · rw [if_neg h1]
      by_cases h2 : e.1 < n
      · rw [if_pos h2, if_pos (by omega)]; omega
      · rw [if_neg h2, if_neg (by omega)]; omega
theorem sm_z : ∀ n, sm (fun _ => 0) n = 0
  | 0 => rfl
  | n + 1 => by unfold sm; rw [sm_z n]
theorem sm_own : ∀ (E : EL), (∀ e ∈ E, e.1 < 12) → sm (fun x => (own E x).length) 12 = E.length
  | [], _ => sm_z 12
  | e :: E, h => by
    rw [sm_own1, sm_own E (fun e he => h e (List.mem_cons_of_mem _ he)), if_pos (h e List.mem_cons_self), List.length_cons]
/-- the system's values of a text -/
theorem vl_own {q : Nat} {E : EL} {sg : Int32} {u : St} (hE : EC q E sg u) (hw : ∀ e ∈ E, e.1 < 12) (s : Int32) {x : Nat} (hx : x < 12) : ∀ n, n ≤ E.length → bt (vlC u q s n) x = (own (E.take n) x).any (fun p => mtc p.1 p.2 s)
  | 0, _ => by rw [List.take_zero]; exact bt_zero x
  | n + 1, h => by
    obtain ⟨e, he⟩ : ∃ e, E[n]? = some e := ⟨_, List.getElem?_eq_getElem (show n < E.length by omega)⟩
    have hq := hE.2.2 n e.1 e.2.1 e.2.2 he
    have hlt := hw e (List.mem_of_getElem? he)
    have ht : E.take (n + 1) = E.take n ++ [e] := by rw [List.take_succ, he]; rfl
    unfold vlC
    rw [hq.1, hq.2.1, hq.2.2, ht]
    have ih := vl_own hE hw s hx n (by omega)
    by_cases hex : e.1 = x
    · have hee : e = (x, e.2) := by rw [← hex]
      rw [hee, own_same, List.any_append, ← ih]
      by_cases hm : mtc e.2.1 e.2.2 s = true
      · rw [if_pos hm, bt_or, bt_shl1 (show (x, e.2).1 < 32 by show x < 32; omega)]
        simp [hm]
      · rw [if_neg hm]
        simp [hm]
    · have hee : e = (e.1, e.2) := rfl
      rw [hee, own_other _ hex, ← ih]
      by_cases hm : mtc e.2.1 e.2.2 s = true
      · rw [if_pos hm, bt_or, bt_shl1 (by omega)]
        simp only [show ¬ x = e.1 from fun z => hex z.symm, decide_false, Bool.or_false]
      · rw [if_neg hm]
theorem anyF_list {A : List (Int32 × Int32)} {m : Nat → Bool} {f : Int32 × Int32 → Bool} (h : ∀ t p, A[t]? = some p → m t = f p) : ∀ n, n ≤ A.length → anyF m n = (A.take n).any f
  | 0, _ => rfl
  | n + 1, hn => by
    obtain ⟨e, he⟩ : ∃ e, A[n]? = some e := ⟨_, List.getElem?_eq_getElem (show n < A.length by omega)⟩
    have ht : A.take (n + 1) = A.take n ++ [e] := by rw [List.take_succ, he]; rfl
    unfold anyF
    rw [anyF_list h n (by omega), ht, List.any_append, h n e he]
    simp
/-! the model takes the new text -/
theorem l_c24 (F : Nat) (x1 : Int32) : ∀ (d i k : Nat) (u : St), i + d = 12 → d < k → (∀ j, j < i → u.1 52 j = u.1 55 j ∧ u.1 58 j = 0) → ∃ y u', l_X12_circuit_24 F x1 k (nI i) u = some (y, u') ∧ Fr [52, 58] u u' ∧ ∀ j, j < 12 → u'.1 52 j = u.1 55 j ∧ u'.1 58 j = 0
  | d, i, 0, u, hd, hk, hj => absurd hk (by omega)
  | d, i, k + 1, u, hd, hk, hj => by
    show ∃ y u', b_X12_circuit_24 F x1 (l_X12_circuit_24 F x1 k) _ u = _ ∧ _
    unfold b_X12_circuit_24
    rw [show (12 : Int32) = nI 12 from rfl]
    cases d with
    | zero =>
      rw [if_pos (nI_le (by omega) (by omega))]
      exact ⟨_, u, rfl, Fr.rf _ _, fun j h => hj j (by omega)⟩
    | succ d =>
      have hg : ¬ (nI i < 0 ∨ 12 ≤ i) := gin (show i < 12 by omega) (by decide)
      rw [if_neg (nI_ge (show i < 12 by omega) (by decide)), nI_clamp (by omega), if_neg hg, if_neg hg, if_neg hg, nI_1, show vp_nar .boolean (0 : Int32) = 0 from rfl]
      have f : Fr [52, 58] u (wr (wr u 52 i (u.1 55 i)) 58 i 0) := ((Fr.rf _ u).w (by decide)).w (by decide)
      have e55 : (wr (wr u 52 i (u.1 55 i)) 58 i 0).1 55 = u.1 55 := f.2 55 (by decide)
      obtain ⟨y, u', k1, k2, k3⟩ := l_c24 F x1 d (i + 1) k (wr (wr u 52 i (u.1 55 i)) 58 i 0) (by omega) (by omega) (fun j h => by
        rw [e55]
        by_cases e : j = i
        · rw [e, wr_eq, wr_ne _ (by decide), wr_eq]; exact ⟨rfl, rfl⟩
        · rw [wr_nek _ e, wr_ne _ (by decide), wr_nek _ e, wr_ne _ (by decide)]; exact hj j (by omega))
      rw [e55] at k3
      exact ⟨y, u', k1, f.tr k2, k3⟩
theorem l_c57 (F : Nat) (x1 : Int32) : ∀ (d i k : Nat) (u : St), i + d = 144 → d < k → (∀ j, j < i → u.1 53 j = u.1 56 j ∧ u.1 54 j = u.1 57 j) → ∃ y u', l_X12_circuit_57 F x1 k (nI i) u = some (y, u') ∧ Fr [53, 54] u u' ∧ ∀ j, j < 144 → u'.1 53 j = u.1 56 j ∧ u'.1 54 j = u.1 57 j
  | d, i, 0, u, hd, hk, hj => absurd hk (by omega)
  | d, i, k + 1, u, hd, hk, hj => by
    show ∃ y u', b_X12_circuit_57 F x1 (l_X12_circuit_57 F x1 k) _ u = _ ∧ _
    unfold b_X12_circuit_57
    rw [show (144 : Int32) = nI 144 from rfl]
    cases d with
    | zero =>
      rw [if_pos (nI_le (by omega) (by omega))]
      exact ⟨_, u, rfl, Fr.rf _ _, fun j h => hj j (by omega)⟩
    | succ d =>
      have hg : ¬ (nI i < 0 ∨ 144 ≤ i) := gin (show i < 144 by omega) (by decide)
      rw [if_neg (nI_ge (show i < 144 by omega) (by decide)), nI_clamp (by omega), if_neg hg, if_neg hg, if_neg hg, if_neg hg, nI_1, wr_ne _ (show (57 : Nat) ≠ 53 by decide)]
      have f : Fr [53, 54] u (wr (wr u 53 i (u.1 56 i)) 54 i (u.1 57 i)) := ((Fr.rf _ u).w (by decide)).w (by decide)
      have e56 : (wr (wr u 53 i (u.1 56 i)) 54 i (u.1 57 i)).1 56 = u.1 56 := f.2 56 (by decide)
      have e57 : (wr (wr u 53 i (u.1 56 i)) 54 i (u.1 57 i)).1 57 = u.1 57 := f.2 57 (by decide)
      obtain ⟨y, u', k1, k2, k3⟩ := l_c57 F x1 d (i + 1) k (wr (wr u 53 i (u.1 56 i)) 54 i (u.1 57 i)) (by omega) (by omega) (fun j h => by
        rw [e56, e57]
        by_cases e : j = i
        · rw [e, wr_eq, wr_ne _ (by decide), wr_eq]; exact ⟨rfl, rfl⟩
        · rw [wr_nek _ e, wr_ne _ (by decide), wr_nek _ e, wr_ne _ (by decide)]; exact hj j (by omega))
      rw [e56, e57] at k3
      exact ⟨y, u', k1, f.tr k2, k3⟩
theorem l_c96 (F : Nat) (x1 : Int32) : ∀ (d i k : Nat) (u : St), i + d = 144 → d < k → (∀ j, j < i → u.1 59 j = 0) → ∃ y u', l_X12_circuit_96 F x1 k (nI i) u = some (y, u') ∧ Fr [59] u u' ∧ ∀ j, j < 144 → u'.1 59 j = 0
  | d, i, 0, u, hd, hk, hj => absurd hk (by omega)
  | d, i, k + 1, u, hd, hk, hj => by
    show ∃ y u', b_X12_circuit_96 F x1 (l_X12_circuit_96 F x1 k) _ u = _ ∧ _
    unfold b_X12_circuit_96
    rw [show (144 : Int32) = nI 144 from rfl]
    cases d with
    | zero =>
      rw [if_pos (nI_le (by omega) (by omega))]
      exact ⟨_, u, rfl, Fr.rf _ _, fun j h => hj j (by omega)⟩
    | succ d =>
      have hg : ¬ (nI i < 0 ∨ 144 ≤ i) := gin (show i < 144 by omega) (by decide)
      rw [if_neg (nI_ge (show i < 144 by omega) (by decide)), nI_clamp (by omega), if_neg hg, nI_1, show vp_nar .boolean (0 : Int32) = 0 from rfl]
      obtain ⟨y, u', k1, k2, k3⟩ := l_c96 F x1 d (i + 1) k (wr u 59 i 0) (by omega) (by omega) (fun j h => by
        by_cases e : j = i
        · rw [e, wr_eq]
        · rw [wr_nek _ e]; exact hj j (by omega))
      exact ⟨y, u', k1, ((Fr.rf _ u).w (by decide)).tr k2, k3⟩
