/-! times of nodes: what a table of begins must be -/
def eN (o : Option Nat) : Int32 := match o with
  | none => -1
  | some b => nI b
def IsMx (S : Nat → Prop) (val : Nat → Option Nat) (res : Option Nat) : Prop := match res with
  | none => ∃ e, S e ∧ val e = none
  | some b => (∀ e, S e → ∃ t, val e = some t ∧ t ≤ b) ∧ (b = 0 ∨ ∃ e, S e ∧ val e = some b)
def lat : Option Nat → Option Nat → Option Nat
  | some a, some b => some (if a < b then b else a)
  | _, _ => none
theorem IsMx.nil {S : Nat → Prop} {val : Nat → Option Nat} (h : ∀ e, ¬ S e) : IsMx S val (some 0) := ⟨fun e he => absurd he (h e), Or.inl rfl⟩
theorem IsMx.cg {S S' : Nat → Prop} {val val' : Nat → Option Nat} {res : Option Nat} (h : IsMx S val res) (hs : ∀ e, S' e ↔ S e) (hv : ∀ e, S e → val' e = val e) : IsMx S' val' res := by
  cases res with
  | none =>
    obtain ⟨e, e1, e2⟩ := h
    exact ⟨e, (hs e).mpr e1, by rw [hv e e1]; exact e2⟩
  | some b =>
    obtain ⟨h1, h2⟩ := h
    refine ⟨fun e he => ?_, ?_⟩
    · rw [hv e ((hs e).mp he)]
      exact h1 e ((hs e).mp he)
    · rcases h2 with z | ⟨e, e1, e2⟩
      · exact Or.inl z
      · exact Or.inr ⟨e, (hs e).mpr e1, by rw [hv e e1]; exact e2⟩
theorem IsMx.add {S : Nat → Prop} {val : Nat → Option Nat} {res : Option Nat} (h : IsMx S val res) (x : Nat) : IsMx (fun e => S e ∨ e = x) val (lat res (val x)) := by
  cases res with
  | none =>
    obtain ⟨e, e1, e2⟩ := h
    exact ⟨e, Or.inl e1, e2⟩
  | some a =>
    obtain ⟨h1, h2⟩ := h
    cases hx : val x with
    | none => exact ⟨x, Or.inr rfl, hx⟩
    | some b =>
      show IsMx _ val (some (if a < b then b else a))
      by_cases hab : a < b
      · rw [if_pos hab]
        refine ⟨fun e he => ?_, Or.inr ⟨x, Or.inr rfl, hx⟩⟩
        rcases he with z | z
        · obtain ⟨t, t1, t2⟩ := h1 e z
          exact ⟨t, t1, by omega⟩
        · rw [z]; exact ⟨b, hx, Nat.le_refl _⟩
      · rw [if_neg hab]
        refine ⟨fun e he => ?_, ?_⟩
        · rcases he with z | z
          · exact h1 e z
          · rw [z]; exact ⟨b, hx, by omega⟩
        · rcases h2 with z | ⟨e, e1, e2⟩
          · exact Or.inl z
          · exact Or.inr ⟨e, Or.inl e1, e2⟩
def dnV (tk sr dl : Nat → Nat) (B : Nat → Nat → Option Nat) (k e : Nat) : Option Nat := if k ≤ tk e then some 0 else (B (k - tk e) (sr e)).map (fun b => b + dl (sr e))
def dnK (tk sr dl : Nat → Nat) (B : Nat → Nat → Option Nat) (k : Nat) (st : Nat → Option Nat) (e : Nat) : Option Nat := if k ≤ tk e then some 0 else (if tk e = 0 then st (sr e) else B (k - tk e) (sr e)).map (fun b => b + dl (sr e))
def fre (n m : Nat) (sr tg tk : Nat → Nat) (v : Nat) : Bool := frd n m sr tg tk 0 n v
def TB (n m : Nat) (sr tg tk dl : Nat → Nat) (B : Nat → Nat → Option Nat) (K : Nat) : Prop := ∀ k, 1 ≤ k → k ≤ K → ∀ v, v < n → (fre n m sr tg tk v = true → IsMx (fun e => e < m ∧ tg e = v) (dnV tk sr dl B k) (B k v)) ∧ (fre n m sr tg tk v = false → B k v = none) ∧ ∀ b, B k v = some b → b ≤ 2000 * k
def upB (B : Nat → Nat → Option Nat) (k : Nat) (st : Nat → Option Nat) : Nat → Nat → Option Nat := fun j => if j = k then st else B j
theorem dn_eq {tk sr dl : Nat → Nat} {B : Nat → Nat → Option Nat} {k : Nat} {st : Nat → Option Nat} (e : Nat) : dnV tk sr dl (upB B k st) k e = dnK tk sr dl B k st e := by
  unfold dnV dnK upB
  by_cases h : k ≤ tk e
  · rw [if_pos h, if_pos h]
  · rw [if_neg h, if_neg h]
    by_cases z : tk e = 0
    · rw [if_pos z, z, Nat.sub_zero, if_pos rfl]
    · rw [if_neg z, if_neg (by omega)]
theorem dn_lo {tk sr dl : Nat → Nat} {B : Nat → Nat → Option Nat} {k j : Nat} {st : Nat → Option Nat} (hj : j < k) (e : Nat) : dnV tk sr dl (upB B k st) j e = dnV tk sr dl B j e := by
  unfold dnV upB
  by_cases h : j ≤ tk e
  · rw [if_pos h, if_pos h]
  · rw [if_neg h, if_neg h, if_neg (by omega)]
theorem TB.up {n m : Nat} {sr tg tk dl : Nat → Nat} {B : Nat → Nat → Option Nat} {K : Nat} (h : TB n m sr tg tk dl B K) {st : Nat → Option Nat} (hs : ∀ v, v < n → (fre n m sr tg tk v = true → IsMx (fun e => e < m ∧ tg e = v) (dnK tk sr dl B (K + 1) st) (st v)) ∧ (fre n m sr tg tk v = false → st v = none) ∧ ∀ b, st v = some b → b ≤ 2000 * (K + 1)) : TB n m sr tg tk dl (upB B (K + 1) st) (K + 1) := by
  intro k k1 k2 v hv
  by_cases q : k = K + 1
  · subst q
    obtain ⟨h1, h2, h3⟩ := hs v hv
    have e : upB B (K + 1) st (K + 1) = st := if_pos rfl
    rw [e]
    exact ⟨fun hf => (h1 hf).cg (fun _ => Iff.rfl) (fun x _ => dn_eq x), h2, h3⟩
  · obtain ⟨h1, h2, h3⟩ := h k k1 (by omega) v hv
    have e : upB B (K + 1) st k = B k := if_neg q
    rw [e]
    exact ⟨fun hf => (h1 hf).cg (fun _ => Iff.rfl) (fun x _ => dn_lo (by omega) x), h2, h3⟩
/-! the order of the arcs -/
def GO (m : Nat) (sr tg tk : Nat → Nat) (fr : Nat → Bool) (O : List Nat) : Prop := O.Nodup ∧ (∀ e, e ∈ O ↔ e < m ∧ fr (tg e) = true) ∧ ∀ i e, O[i]? = some e → tk e = 0 → ∀ x, x < m → tg x = sr e → x ∈ O.take i
theorem GO.step {n m : Nat} {sr tg tk : Nat → Nat} {r : Nat} {O : List Nat} (h : GO m sr tg tk (frd n m sr tg tk 0 r) O) : GO m sr tg tk (frd n m sr tg tk 0 (r + 1)) (O ++ (List.range m).filter (fun e => frd n m sr tg tk 0 (r + 1) (tg e) && !frd n m sr tg tk 0 r (tg e))) := by
  obtain ⟨h1, h2, h3⟩ := h
  have hA : ∀ e, e ∈ (List.range m).filter (fun e => frd n m sr tg tk 0 (r + 1) (tg e) && !frd n m sr tg tk 0 r (tg e)) ↔ e < m ∧ frd n m sr tg tk 0 (r + 1) (tg e) = true ∧ frd n m sr tg tk 0 r (tg e) = false := fun e => by
    rw [List.mem_filter, List.mem_range, Bool.and_eq_true, Bool.not_eq_true']
  refine ⟨?_, fun e => ?_, fun i e he ht x hx hg => ?_⟩
  · refine List.nodup_append.mpr ⟨h1, (List.nodup_range).filter _, fun a ha b hb hab => ?_⟩
    subst hab
    have z1 := ((h2 a).mp ha).2
    have z2 := ((hA a).mp hb).2.2
    rw [z1] at z2
    cases z2
  · rw [List.mem_append, h2, hA]
    constructor
    · rintro (⟨q1, q2⟩ | ⟨q1, q2, _⟩)
      · exact ⟨q1, frd_m r _ q2⟩
      · exact ⟨q1, q2⟩
    · rintro ⟨q1, q2⟩
      cases q3 : frd n m sr tg tk 0 r (tg e) with
      | true => exact Or.inl ⟨q1, rfl⟩
      | false => exact Or.inr ⟨q1, q2, rfl⟩
  · by_cases hi : i < O.length
    · rw [List.getElem?_append_left hi] at he
      have := h3 i e he ht x hx hg
      rw [List.take_append_of_le_length (by omega)]
      exact this
    · rw [List.getElem?_append_right (by omega)] at he
      have hm := (hA e).mp (List.mem_of_getElem? he)
      have hf := (frd_s.mp hm.2.1).2 e hm.1 (by omega) rfl
      have hxo : x ∈ O := (h2 x).mpr ⟨hx, by rw [hg]; exact hf⟩
      rw [List.take_append]
      refine List.mem_append_left _ ?_
      rw [List.take_of_length_le (by omega)]
      exact hxo
theorem GO.len {m : Nat} {sr tg tk : Nat → Nat} {fr : Nat → Bool} {O : List Nat} (h : GO m sr tg tk fr O) : O.length ≤ m := php m O h.1 (fun x hx => ((h.2.1 x).mp hx).1)
/-! a column of the table, arc by arc -/
def stA (tg : Nat → Nat) (dn : (Nat → Option Nat) → Nat → Option Nat) (st : Nat → Option Nat) (e : Nat) : Nat → Option Nat := up st (tg e) (lat (st (tg e)) (dn st e))
theorem dnK_cg {tk sr dl : Nat → Nat} {B : Nat → Nat → Option Nat} {k : Nat} {st st' : Nat → Option Nat} {e : Nat} (h : tk e = 0 → st' (sr e) = st (sr e)) : dnK tk sr dl B k st' e = dnK tk sr dl B k st e := by
  unfold dnK
  by_cases z : tk e = 0
  · rw [if_pos z, if_pos z, h z]
  · rw [if_neg z, if_neg z]
/-- one arc more in a column -/
theorem col_step {m : Nat} {sr tg tk dl : Nat → Nat} {fr : Nat → Bool} {O : List Nat} (hO : GO m sr tg tk fr O) {B : Nat → Nat → Option Nat} {k : Nat} {st : Nat → Option Nat} {i e : Nat} (hi : O[i]? = some e) (h : ∀ v, fr v = true → IsMx (fun x => x ∈ O.take i ∧ tg x = v) (dnK tk sr dl B k st) (st v)) : ∀ v, fr v = true → IsMx (fun x => x ∈ O.take (i + 1) ∧ tg x = v) (dnK tk sr dl B k (stA tg (dnK tk sr dl B k) st e)) (stA tg (dnK tk sr dl B k) st e v) := fun v hv => by
  obtain ⟨h1, h2, h3⟩ := hO
  have hil : i < O.length := (List.getElem?_eq_some_iff.mp hi).1
  have htk : ∀ x, x ∈ O.take (i + 1) ↔ x ∈ O.take i ∨ x = e := fun x => by
    rw [List.take_add_one, hi]
    simp
  have hnot : e ∉ O.take i := fun z => by
    obtain ⟨j, hj, hje⟩ := List.mem_iff_getElem.mp z
    rw [List.length_take] at hj
    rw [List.getElem_take] at hje
    have e1 : O[j]? = some e := by rw [List.getElem?_eq_getElem (by omega), hje]
    have := (List.getElem?_inj (by omega) h1).mp (e1.trans hi.symm)
    omega
  -- no arc looked at so far comes, without tokens, from the changed node
  have hold : ∀ x, x ∈ O.take (i + 1) → tk x = 0 → sr x ≠ tg e := fun x hx ht hs => by
    obtain ⟨j, hj, hje⟩ := List.mem_iff_getElem.mp hx
    rw [List.length_take] at hj
    rw [List.getElem_take] at hje
    have e1 : O[j]? = some x := by rw [List.getElem?_eq_getElem (by omega), hje]
    have hem := ((h2 e).mp (List.mem_of_getElem? hi)).1
    have := h3 j x e1 ht e hem hs.symm
    refine hnot ?_
    have hle : j ≤ i := by omega
    have : e ∈ (O.take i).take j := by rw [List.take_take, Nat.min_eq_left hle]; exact this
    exact List.mem_of_mem_take this
  have hval : ∀ x, x ∈ O.take (i + 1) → dnK tk sr dl B k (stA tg (dnK tk sr dl B k) st e) x = dnK tk sr dl B k st x := fun x hx => dnK_cg (fun ht => up_n _ _ (hold x hx ht))
  by_cases q : v = tg e
  · subst q
    have := (h _ hv).add e
    have e1 : stA tg (dnK tk sr dl B k) st e (tg e) = lat (st (tg e)) (dnK tk sr dl B k st e) := up_s _ _ _
    rw [e1]
    refine this.cg (fun x => ?_) (fun x hx => hval x ?_)
    · rw [htk]
      constructor
      · rintro ⟨y | y, z⟩
        · exact Or.inl ⟨y, z⟩
        · exact Or.inr y
      · rintro (⟨y, z⟩ | y)
        · exact ⟨Or.inl y, z⟩
        · exact ⟨Or.inr y, by rw [y]⟩
    · rcases hx with ⟨y, _⟩ | y
      · exact (htk x).mpr (Or.inl y)
      · exact (htk x).mpr (Or.inr y)
  · have e1 : stA tg (dnK tk sr dl B k) st e v = st v := up_n _ _ q
    rw [e1]
    refine (h v hv).cg (fun x => ?_) (fun x hx => hval x ((htk x).mpr (Or.inl hx.1)))
    rw [htk]
    constructor
    · rintro ⟨y | y, z⟩
      · exact ⟨y, z⟩
      · rw [y] at z
        exact absurd z.symm q
    · rintro ⟨y, z⟩
      exact ⟨Or.inl y, z⟩
theorem frd_top {n m : Nat} {sr tg tk : Nat → Nat} {most : Nat} (hs : ∀ e, e < m → sr e < n) {v : Nat} (hv : v < n) (h : ∀ e, e < m → tk e ≤ most → tg e = v → frd n m sr tg tk most n (sr e) = true) : frd n m sr tg tk most n v = true := by
  rcases frd_fix (n := n) (m := m) (sr := sr) (tg := tg) (tk := tk) (most := most) hs n with q | q
  · rw [← q v hv]
    exact frd_s.mpr ⟨hv, h⟩
  · exact cn_full n q v hv
