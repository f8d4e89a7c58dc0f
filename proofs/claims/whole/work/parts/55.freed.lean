/-! which nodes no ring holds up -/
theorem cn_sh (P : Nat → Bool) : ∀ n, cn P (n + 1) = (if P 0 then 1 else 0) + cn (fun r => P (r + 1)) n
  | 0 => by simp [cn]
  | n + 1 => by
    show cn P (n + 1) + (if P (n + 1) then 1 else 0) = _ + (cn (fun r => P (r + 1)) n + (if P (n + 1) then 1 else 0))
    rw [cn_sh P n, Nat.add_assoc]
theorem cn_mo {P Q : Nat → Bool} : ∀ n, (∀ i, i < n → P i = true → Q i = true) → cn P n ≤ cn Q n
  | 0, _ => Nat.le_refl _
  | n + 1, h => by
    have ih := cn_mo n (fun i hi => h i (by omega))
    have := h n (by omega)
    unfold cn
    by_cases hp : P n = true
    · rw [if_pos hp, if_pos (this hp)]; omega
    · rw [if_neg hp]; split <;> omega
theorem cn_st {P Q : Nat → Bool} : ∀ n, (∀ i, i < n → P i = true → Q i = true) → (∃ i, i < n ∧ Q i = true ∧ P i = false) → cn P n + 1 ≤ cn Q n
  | 0, _, ⟨i, hi, _⟩ => absurd hi (by omega)
  | n + 1, h, ⟨i, hi, h1, h2⟩ => by
    have hm := cn_mo n (fun i hi => h i (by omega))
    have hn := h n (by omega)
    unfold cn
    by_cases he : i = n
    · subst he
      rw [if_pos h1, if_neg (by rw [h2]; decide)]; omega
    · have ih := cn_st n (fun i hi => h i (by omega)) ⟨i, by omega, h1, h2⟩
      by_cases hp : P n = true
      · rw [if_pos hp, if_pos (hn hp)]; omega
      · rw [if_neg hp]; split <;> omega
theorem cn_full {P : Nat → Bool} : ∀ n, n ≤ cn P n → ∀ i, i < n → P i = true
  | 0, _, i, hi => absurd hi (by omega)
  | n + 1, h, i, hi => by
    have hl := cn_le P n
    unfold cn at h
    by_cases hp : P n = true
    · rw [if_pos hp] at h
      by_cases he : i = n
      · rw [he]; exact hp
      · exact cn_full n (by omega) i (by omega)
    · rw [if_neg hp] at h; omega
def frd (n m : Nat) (sr tg tk : Nat → Nat) (most : Nat) : Nat → Nat → Bool
  | 0, _ => false
  | r + 1, v => decide (v < n) && (List.range m).all (fun e => !(decide (tk e ≤ most) && decide (tg e = v)) || frd n m sr tg tk most r (sr e))
theorem frd_s {n m : Nat} {sr tg tk : Nat → Nat} {most r v : Nat} : frd n m sr tg tk most (r + 1) v = true ↔ v < n ∧ ∀ e, e < m → tk e ≤ most → tg e = v → frd n m sr tg tk most r (sr e) = true := by
  show (decide (v < n) && (List.range m).all (fun e => !(decide (tk e ≤ most) && decide (tg e = v)) || frd n m sr tg tk most r (sr e))) = true ↔ _
  rw [Bool.and_eq_true, List.all_eq_true]
  constructor
  · rintro ⟨h1, h2⟩
    refine ⟨by simpa using h1, fun e he ht hg => ?_⟩
    have := h2 e (List.mem_range.mpr he)
    simpa [ht, hg] using this
  · rintro ⟨h1, h2⟩
    refine ⟨by simpa using h1, fun e he => ?_⟩
    by_cases ht : tk e ≤ most
    · by_cases hg : tg e = v
      · simp [h2 e (List.mem_range.mp he) ht hg]
      · simp [hg]
    · simp [ht]
theorem frd_m {n m : Nat} {sr tg tk : Nat → Nat} {most : Nat} : ∀ r v, frd n m sr tg tk most r v = true → frd n m sr tg tk most (r + 1) v = true
  | 0, v, h => by cases h
  | r + 1, v, h => by
    obtain ⟨h1, h2⟩ := frd_s.mp h
    exact frd_s.mpr ⟨h1, fun e he ht hg => frd_m r _ (h2 e he ht hg)⟩
theorem frd_none {n m : Nat} {sr tg tk : Nat → Nat} {most : Nat} (hn : n ≤ 10) (hs : ∀ e, e < m → sr e < n) (h : ∀ v, v < n → frd n m sr tg tk most n v = true) : ∀ r ∈ rgs n m sr tg, ∃ e ∈ r, most < tk e := fun r hr => by
  by_cases q : ∃ e ∈ r, most < tk e
  · exact q
  · exfalso
    obtain ⟨r1, r2, r3⟩ := rgs_in r hr
    have hpot := rgs_pot (n := n) (m := m) (sr := sr) (tg := tg) (φ := fun v => ((cn (fun r => !frd n m sr tg tk most r v) (n + 1) : Nat) : Int)) (w := fun e => if tk e ≤ most then 1 else -100) (fun e he => by
      have hb1 := cn_le (fun r => !frd n m sr tg tk most r (sr e)) (n + 1)
      have e1 : cn (fun r => !frd n m sr tg tk most r (sr e)) (n + 1) = cn (fun r => !frd n m sr tg tk most r (sr e)) n := by
        show cn _ n + (if (!frd n m sr tg tk most n (sr e)) = true then 1 else 0) = _
        rw [h _ (hs e he)]
        simp
      have e2 := cn_sh (fun r => !frd n m sr tg tk most r (tg e)) n
      by_cases ht : tk e ≤ most
      · rw [if_pos ht, e1, e2]
        have := cn_mo (P := fun r => !frd n m sr tg tk most r (sr e)) (Q := fun r => !frd n m sr tg tk most (r + 1) (tg e)) n (fun i hi hp => by
          cases hz : frd n m sr tg tk most (i + 1) (tg e) with
          | false => rfl
          | true =>
            have := (frd_s.mp hz).2 e he ht rfl
            rw [this] at hp
            cases hp)
        have e3 : (if (!frd n m sr tg tk most 0 (tg e)) = true then 1 else 0) = 1 := rfl
        rw [e3]
        omega
      · rw [if_neg ht]
        omega) r hr
    have hpos : ∀ r' : List Nat, (∀ e ∈ r', e ∈ r) → ws (fun e => if tk e ≤ most then 1 else -100) r' = r'.length := fun r' => by
      induction r' with
      | nil => intro _; rfl
      | cons a r' ih =>
        intro hin
        have ha : tk a ≤ most := by
          rcases Nat.lt_or_ge most (tk a) with z | z
          · exact absurd ⟨a, hin a List.mem_cons_self, z⟩ q
          · exact z
        show (if tk a ≤ most then 1 else -100) + ws _ r' = _
        rw [if_pos ha, ih (fun e he => hin e (List.mem_cons_of_mem _ he)), List.length_cons]
        omega
    rw [hpos r (fun e he => he)] at hpot
    have : r.length ≠ 0 := fun z => r2 (List.length_eq_zero_iff.mp z)
    omega
theorem frd_fix {n m : Nat} {sr tg tk : Nat → Nat} {most : Nat} (hs : ∀ e, e < m → sr e < n) : ∀ r, (∀ v, v < n → frd n m sr tg tk most (r + 1) v = frd n m sr tg tk most r v) ∨ r ≤ cn (frd n m sr tg tk most r) n
  | 0 => Or.inr (Nat.zero_le _)
  | r + 1 => by
    have key : (∀ v, v < n → frd n m sr tg tk most (r + 1) v = frd n m sr tg tk most r v) → ∀ v, v < n → frd n m sr tg tk most (r + 1 + 1) v = frd n m sr tg tk most (r + 1) v := fun h v hv => by
      cases h1 : frd n m sr tg tk most (r + 1) v with
      | true => exact frd_m _ _ h1
      | false =>
        cases h2 : frd n m sr tg tk most (r + 1 + 1) v with
        | false => rfl
        | true =>
          obtain ⟨q1, q2⟩ := frd_s.mp h2
          have : frd n m sr tg tk most (r + 1) v = true := frd_s.mpr ⟨q1, fun e he ht hg => by rw [← h _ (hs e he)]; exact q2 e he ht hg⟩
          rw [this] at h1
          cases h1
    by_cases h : ∀ v, v < n → frd n m sr tg tk most (r + 1) v = frd n m sr tg tk most r v
    · exact Or.inl (key h)
    · right
      rcases frd_fix hs r with q | q
      · exact absurd q h
      · have hex : ∃ v, v < n ∧ frd n m sr tg tk most (r + 1) v = true ∧ frd n m sr tg tk most r v = false := by
          by_cases z : ∃ v, v < n ∧ frd n m sr tg tk most (r + 1) v = true ∧ frd n m sr tg tk most r v = false
          · exact z
          · refine absurd (fun v hv => ?_) h
            cases h1 : frd n m sr tg tk most r v with
            | true => exact frd_m _ _ h1
            | false =>
              cases h2 : frd n m sr tg tk most (r + 1) v with
              | false => rfl
              | true => exact absurd ⟨v, hv, h2, h1⟩ z
        have := cn_st (P := frd n m sr tg tk most r) (Q := frd n m sr tg tk most (r + 1)) n (fun i _ hp => frd_m r i hp) hex
        omega
theorem frd_some {n m : Nat} {sr tg tk : Nat → Nat} {most : Nat} (hn : n ≤ 10) (hs : ∀ e, e < m → sr e < n) {v : Nat} (hv : v < n) (h : frd n m sr tg tk most n v = false) : ∃ r ∈ rgs n m sr tg, ∀ e ∈ r, tk e ≤ most := by
  have hfix : ∀ v, v < n → frd n m sr tg tk most (n + 1) v = frd n m sr tg tk most n v := by
    rcases frd_fix (n := n) (m := m) (sr := sr) (tg := tg) (tk := tk) (most := most) hs n with q | q
    · exact q
    · have := cn_full n q v hv
      rw [this] at h
      cases h
  have hex : ∀ x, x < n ∧ frd n m sr tg tk most n x = false → ∃ e, e < m ∧ tk e ≤ most ∧ tg e = x ∧ frd n m sr tg tk most n (sr e) = false := fun x ⟨x1, x2⟩ => by
    by_cases z : ∃ e, e < m ∧ tk e ≤ most ∧ tg e = x ∧ frd n m sr tg tk most n (sr e) = false
    · exact z
    · have : frd n m sr tg tk most (n + 1) x = true := frd_s.mpr ⟨x1, fun e he ht hg => by
        cases h1 : frd n m sr tg tk most n (sr e) with
        | true => rfl
        | false => exact absurd ⟨e, he, ht, hg, h1⟩ z⟩
      rw [hfix x x1, x2] at this
      cases this
  let p : Nat → Nat := fun x => if hx : x < n ∧ frd n m sr tg tk most n x = false then Classical.choose (hex x hx) else 0
  have hp : ∀ x, x < n ∧ frd n m sr tg tk most n x = false → p x < m ∧ tk (p x) ≤ most ∧ tg (p x) = x ∧ frd n m sr tg tk most n (sr (p x)) = false := fun x hx => by
    have e : p x = Classical.choose (hex x hx) := dif_pos hx
    rw [e]
    exact Classical.choose_spec (hex x hx)
  obtain ⟨k, _, _, _, _, _, r, r1, _, r3⟩ := ring_ex (n := n) (m := m) (sr := sr) (tg := tg) (p := p) (g := fun x => sr (p x)) hn (N := fun x => x < n ∧ frd n m sr tg tk most n x = false) (fun x hx => by
    obtain ⟨q1, q2, q3, q4⟩ := hp x hx
    exact ⟨hx.1, q1, q3, rfl, hs _ q1, q4⟩) (v := v) ⟨hv, h⟩
  refine ⟨r, r1, fun e he => ?_⟩
  obtain ⟨x, x1, x2⟩ := r3 e he
  rw [x2]
  exact (hp x x1).2.1
/-! how many rings there can be -/
theorem fm_len {f : Nat → List (List Nat)} {q : Nat → Bool} {B : Nat} : ∀ (L : List Nat), (∀ e ∈ L, (f e).length ≤ if q e then B else 0) → (L.flatMap f).length ≤ L.countP q * B
  | [], _ => by simp
  | a :: L, h => by
    rw [List.flatMap_cons, List.length_append, List.countP_cons]
    have h1 := h a List.mem_cons_self
    have h2 := fm_len L (fun e he => h e (List.mem_cons_of_mem _ he))
    by_cases hq : q a = true
    · rw [if_pos hq] at h1 ⊢
      rw [Nat.add_mul, Nat.one_mul]
      omega
    · rw [if_neg hq] at h1 ⊢
      rw [Nat.add_zero]
      omega
theorem cP_or {p q : Nat → Bool} (h : ∀ e, p e = true → q e = false) : ∀ (L : List Nat), L.countP (fun e => p e || q e) = L.countP p + L.countP q
  | [] => rfl
  | a :: L => by
    rw [List.countP_cons, List.countP_cons, List.countP_cons, cP_or h L]
    by_cases hp : p a = true
    · have := h a hp
      simp [hp, this]; omega
    · simp [hp]; omega
theorem le_pow2 : ∀ o : Nat, o ≤ 2 ^ o
  | 0 => by decide
  | o + 1 => by
    have := le_pow2 o
    have h1 : 1 ≤ 2 ^ o := Nat.one_le_two_pow
    rw [Nat.pow_succ]; omega
theorem dfs_len {m : Nat} {sr tg : Nat → Nat} {f : Nat} : ∀ (d a : Nat) (bs p : List Nat), a ∈ bs → (dfs m sr tg d f a bs p).length ≤ 2 ^ ((List.range m).countP (fun e => decide (sr e = a) || !decide (sr e ∈ bs)))
  | 0, a, bs, p, h => by simp [dfs]
  | d + 1, a, bs, p, h => by
    unfold dfs
    have h1 := fm_len (f := fun e => if sr e = a ∧ f ≤ tg e then (if tg e = f then [p ++ [e]] else if tg e ∈ bs then [] else dfs m sr tg d f (tg e) (tg e :: bs) (p ++ [e])) else []) (q := fun e => decide (sr e = a)) (B := 2 ^ ((List.range m).countP (fun e => !decide (sr e ∈ bs)))) (List.range m) (fun e he => by
      have hpos : 1 ≤ 2 ^ ((List.range m).countP (fun e => !decide (sr e ∈ bs))) := Nat.one_le_two_pow
      by_cases h1 : sr e = a ∧ f ≤ tg e
      · have hqq : decide (sr e = a) = true := by simp [h1.1]
        rw [if_pos h1, if_pos hqq]
        by_cases h2 : tg e = f
        · rw [if_pos h2]; exact hpos
        · rw [if_neg h2]
          by_cases h3 : tg e ∈ bs
          · rw [if_pos h3]; exact Nat.zero_le _
          · rw [if_neg h3]
            refine Nat.le_trans (dfs_len d _ _ _ List.mem_cons_self) (Nat.pow_le_pow_right (by decide) (List.countP_mono_left (fun x _ hx => ?_)))
            simp only [List.mem_cons, Bool.or_eq_true, decide_eq_true_eq, Bool.not_eq_true', decide_eq_false_iff_not, not_or] at hx ⊢
            rcases hx with z | z
            · rw [z]; exact h3
            · exact z.2
      · rw [if_neg h1]; exact Nat.zero_le _)
    refine Nat.le_trans h1 ?_
    rw [cP_or (p := fun e => decide (sr e = a)) (q := fun e => !decide (sr e ∈ bs)) (fun e he => by
      have : sr e = a := by simpa using he
      simp [this, h]), Nat.pow_add]
    exact Nat.mul_le_mul_right _ (le_pow2 _)
theorem rgs_len {n m : Nat} {sr tg : Nat → Nat} (hn : n ≤ 10) (hm : m ≤ 20) : (rgs n m sr tg).length ≤ 10 * 2 ^ 20 := by
  unfold rgs
  have h1 := fm_len (f := fun v => dfs m sr tg 12 v v [v] []) (q := fun _ => true) (B := 2 ^ 20) (List.range n) (fun v _ => by
    refine Nat.le_trans (dfs_len 12 v [v] [] (by simp)) (Nat.pow_le_pow_right (by decide) ?_)
    refine Nat.le_trans List.countP_le_length ?_
    rw [List.length_range]; exact hm)
  refine Nat.le_trans h1 (Nat.mul_le_mul_right _ ?_)
  refine Nat.le_trans List.countP_le_length ?_
  rw [List.length_range]; exact hn
