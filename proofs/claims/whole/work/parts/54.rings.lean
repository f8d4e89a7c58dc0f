/-! rings of a net, as lists of arcs -/
def ws (w : Nat → Int) : List Nat → Int
  | [] => 0
  | e :: r => w e + ws w r
theorem ws_snoc (w : Nat → Int) : ∀ (p : List Nat) (e : Nat), ws w (p ++ [e]) = ws w p + w e
  | [], e => by simp [ws]
  | a :: p, e => by
    show w a + ws w (p ++ [e]) = w a + ws w p + w e
    rw [ws_snoc w p e]; omega
/-- all rings that a search from a node finds -/
def dfs (m : Nat) (sr tg : Nat → Nat) : Nat → Nat → Nat → List Nat → List Nat → List (List Nat)
  | 0, _, _, _, _ => []
  | d + 1, f, a, bs, p => (List.range m).flatMap (fun e => if sr e = a ∧ f ≤ tg e then (if tg e = f then [p ++ [e]] else if tg e ∈ bs then [] else dfs m sr tg d f (tg e) (tg e :: bs) (p ++ [e])) else [])
theorem dfs_pot {m : Nat} {sr tg : Nat → Nat} {φ w : Nat → Int} (hw : ∀ e, e < m → φ (sr e) + w e ≤ φ (tg e)) {f : Nat} : ∀ (d a : Nat) (bs p : List Nat), φ f + ws w p ≤ φ a → ∀ r ∈ dfs m sr tg d f a bs p, ws w r ≤ 0
  | 0, a, bs, p, h, r, hr => by simp [dfs] at hr
  | d + 1, a, bs, p, h, r, hr => by
    unfold dfs at hr
    obtain ⟨e, he, hr⟩ := List.mem_flatMap.mp hr
    have hem := List.mem_range.mp he
    have hpe := hw e hem
    by_cases h1 : sr e = a ∧ f ≤ tg e
    · rw [if_pos h1] at hr
      have hsum : φ f + ws w (p ++ [e]) ≤ φ (tg e) := by
        rw [ws_snoc]
        rw [h1.1] at hpe
        omega
      by_cases h2 : tg e = f
      · rw [if_pos h2] at hr
        rw [List.mem_singleton.mp hr]
        rw [h2] at hsum
        omega
      · rw [if_neg h2] at hr
        by_cases h3 : tg e ∈ bs
        · rw [if_pos h3] at hr; simp at hr
        · rw [if_neg h3] at hr
          exact dfs_pot hw d _ _ _ hsum r hr
    · rw [if_neg h1] at hr; simp at hr
theorem dfs_in {m : Nat} {sr tg : Nat → Nat} {f : Nat} : ∀ (d a : Nat) (bs p : List Nat), (∀ e ∈ p, e < m) → ∀ r ∈ dfs m sr tg d f a bs p, (∀ e ∈ r, e < m) ∧ r ≠ [] ∧ r.length ≤ p.length + d
  | 0, a, bs, p, h, r, hr => by simp [dfs] at hr
  | d + 1, a, bs, p, h, r, hr => by
    unfold dfs at hr
    obtain ⟨e, he, hr⟩ := List.mem_flatMap.mp hr
    have hem := List.mem_range.mp he
    have hp2 : ∀ x ∈ p ++ [e], x < m := fun x hx => by
      rcases List.mem_append.mp hx with q | q
      · exact h x q
      · rw [List.mem_singleton.mp q]; exact hem
    by_cases h1 : sr e = a ∧ f ≤ tg e
    · rw [if_pos h1] at hr
      by_cases h2 : tg e = f
      · rw [if_pos h2] at hr
        rw [List.mem_singleton.mp hr]
        exact ⟨hp2, by simp, by rw [List.length_append, List.length_singleton]; omega⟩
      · rw [if_neg h2] at hr
        by_cases h3 : tg e ∈ bs
        · rw [if_pos h3] at hr; simp at hr
        · rw [if_neg h3] at hr
          obtain ⟨q1, q2, q3⟩ := dfs_in d _ _ _ hp2 r hr
          exact ⟨q1, q2, by rw [List.length_append, List.length_singleton] at q3; omega⟩
    · rw [if_neg h1] at hr; simp at hr
/-! steps back over chosen arcs -/
def itr (g : Nat → Nat) : Nat → Nat → Nat
  | 0, x => x
  | k + 1, x => g (itr g k x)
theorem itr_add (g : Nat → Nat) (b x : Nat) : ∀ a, itr g (a + b) x = itr g a (itr g b x)
  | 0 => by rw [Nat.zero_add]; rfl
  | a + 1 => by
    rw [show a + 1 + b = (a + b) + 1 by omega]
    show g (itr g (a + b) x) = g (itr g a (itr g b x))
    rw [itr_add g b x a]
def cs (f : Nat → Int) (g : Nat → Nat) : Nat → Nat → Int
  | 0, _ => 0
  | k + 1, x => cs f g k x + f (itr g k x)
theorem cs_s (f : Nat → Int) (g : Nat → Nat) (c : Nat) : ∀ k, cs f g (k + 1) c = f c + cs f g k (g c)
  | 0 => by simp [cs, itr]
  | k + 1 => by
    show cs f g (k + 1) c + f (itr g (k + 1) c) = f c + (cs f g k (g c) + f (itr g k (g c)))
    rw [cs_s f g c k, itr_add g 1 c k]
    show _ = f c + (cs f g k (g c) + f (itr g k (itr g 1 c)))
    omega
theorem cs_rot1 (f : Nat → Int) (g : Nat → Nat) {k c : Nat} (h : itr g k c = c) : cs f g k (g c) = cs f g k c := by
  have h1 := cs_s f g c k
  have h2 : cs f g (k + 1) c = cs f g k c + f (itr g k c) := rfl
  rw [h] at h2
  omega
theorem itr_cl {g : Nat → Nat} {k c : Nat} (h : itr g k c = c) (t : Nat) : itr g k (itr g t c) = itr g t c := by
  rw [← itr_add, Nat.add_comm, itr_add, h]
theorem cs_rot (f : Nat → Int) (g : Nat → Nat) {k c : Nat} (h : itr g k c = c) : ∀ t, cs f g k (itr g t c) = cs f g k c
  | 0 => rfl
  | t + 1 => by
    show cs f g k (g (itr g t c)) = _
    rw [cs_rot1 f g (itr_cl h t), cs_rot f g h t]
theorem least {P : Nat → Prop} (k : Nat) : P k → ∃ j, j ≤ k ∧ P j ∧ ∀ i, i < j → ¬ P i := by
  induction k using Nat.strongRecOn with
  | ind k ih =>
    intro hk
    by_cases h : ∃ i, i < k ∧ P i
    · obtain ⟨i, hi, hp⟩ := h
      obtain ⟨j, j1, j2, j3⟩ := ih i hi hp
      exact ⟨j, by omega, j2, j3⟩
    · exact ⟨k, Nat.le_refl _, hk, fun i hi hp => h ⟨i, hi, hp⟩⟩
theorem php2 {g : Nat → Nat} {n : Nat} (h : ∀ i, i ≤ n → g i < n) : ∃ i j, i < j ∧ j ≤ n ∧ g i = g j := by
  by_cases q : ∃ i j, i < j ∧ j ≤ n ∧ g i = g j
  · exact q
  · exfalso
    have hnd : ((List.range (n + 1)).map g).Nodup := by
      apply List.pairwise_map.mpr
      refine List.Pairwise.imp_of_mem ?_ (List.pairwise_lt_range)
      intro a b ha hb hab hg
      exact q ⟨a, b, hab, by have := List.mem_range.mp hb; omega, hg⟩
    have := php n _ hnd (fun x hx => by
      obtain ⟨i, hi, rfl⟩ := List.mem_map.mp hx
      exact h i (by have := List.mem_range.mp hi; omega))
    rw [List.length_map, List.length_range] at this
    omega
/-- behind n steps back one stands on a cycle -/
theorem cyc_ex {g : Nat → Nat} {n v : Nat} (h : ∀ i, i ≤ n → itr g i v < n) : ∃ k, 1 ≤ k ∧ k ≤ n ∧ itr g k (itr g n v) = itr g n v ∧ ∀ i, 1 ≤ i → i < k → itr g i (itr g n v) ≠ itr g n v := by
  obtain ⟨i, j, hij, hj, he⟩ := php2 (g := fun i => itr g i v) h
  have h1 : itr g (j - i) (itr g i v) = itr g i v := by rw [← itr_add, show j - i + i = j by omega]; exact he.symm
  have h2 : itr g (j - i) (itr g n v) = itr g n v := by
    rw [show n = (n - i) + i by omega, itr_add g i v (n - i)]
    exact itr_cl h1 _
  obtain ⟨k, k1, k2, k3⟩ := least (P := fun k => 1 ≤ k ∧ itr g k (itr g n v) = itr g n v) (j - i) ⟨by omega, h2⟩
  exact ⟨k, k2.1, by omega, k2.2, fun i hi hik he => k3 i hik ⟨hi, he⟩⟩
theorem cyc_ne {g : Nat → Nat} {k c : Nat} (hk : itr g k c = c) (hm : ∀ i, 1 ≤ i → i < k → itr g i c ≠ c) {i j : Nat} (hij : i < j) (hj : j < k) : itr g i c ≠ itr g j c := fun e => by
  have h1 : itr g (k - j) (itr g i c) = itr g (k - j) (itr g j c) := by rw [e]
  rw [← itr_add, ← itr_add, show k - j + j = k by omega, hk] at h1
  exact hm (k - j + i) (by omega) (by omega) h1
/-- a cycle of chosen arcs is found by the search from its least node -/
theorem dfs_mem {m : Nat} {sr tg p g : Nat → Nat} {c k : Nat} (H : ∀ i, i < k → p (itr g i c) < m ∧ tg (p (itr g i c)) = itr g i c ∧ sr (p (itr g i c)) = itr g (i + 1) c) (hd : ∀ i j, i < j → j < k → itr g i c ≠ itr g j c) (hm : ∀ i, i < k → c ≤ itr g i c) : ∀ (i d : Nat) (bs q : List Nat), i + 1 ≤ k → i + 1 ≤ d → (∀ j, 1 ≤ j → j < i + 1 → itr g j c ∉ bs) → ∃ r ∈ dfs m sr tg d c (itr g (i + 1) c) bs q, (∀ w, ws w r = ws w q + cs (fun x => w (p x)) g (i + 1) c) ∧ ∀ e ∈ r, e ∈ q ∨ ∃ j, j < i + 1 ∧ e = p (itr g j c)
  | 0, d, bs, q, hk, hdd, hb => by
    obtain ⟨d, rfl⟩ : ∃ d', d = d' + 1 := ⟨d - 1, by omega⟩
    obtain ⟨h1, h2, h3⟩ := H 0 (by omega)
    refine ⟨q ++ [p c], ?_, fun w => ?_, fun e he => ?_⟩
    · unfold dfs
      refine List.mem_flatMap.mpr ⟨p c, List.mem_range.mpr h1, ?_⟩
      have h2' : tg (p c) = c := h2
      rw [if_pos ⟨h3, by rw [h2']; exact Nat.le_refl _⟩, if_pos h2']
      exact List.mem_singleton.mpr rfl
    · rw [ws_snoc]
      simp [cs, itr]
    · rcases List.mem_append.mp he with z | z
      · exact Or.inl z
      · exact Or.inr ⟨0, by omega, List.mem_singleton.mp z⟩
  | i + 1, d, bs, q, hk, hdd, hb => by
    obtain ⟨d, rfl⟩ : ∃ d', d = d' + 1 := ⟨d - 1, by omega⟩
    obtain ⟨h1, h2, h3⟩ := H (i + 1) (by omega)
    have hne : itr g (i + 1) c ≠ c := fun e => hd 0 (i + 1) (by omega) (by omega) e.symm
    obtain ⟨r, r1, r2, r3⟩ := dfs_mem H hd hm i d (itr g (i + 1) c :: bs) (q ++ [p (itr g (i + 1) c)]) (by omega) (by omega) (fun j j1 j2 hj => by
      rcases List.mem_cons.mp hj with z | z
      · exact hd j (i + 1) j2 (by omega) z
      · exact hb j j1 (by omega) z)
    refine ⟨r, ?_, fun w => ?_, fun e he => ?_⟩
    · unfold dfs
      refine List.mem_flatMap.mpr ⟨p (itr g (i + 1) c), List.mem_range.mpr h1, ?_⟩
      rw [if_pos ⟨h3, by rw [h2]; exact hm _ (by omega)⟩, h2, if_neg hne, if_neg (hb (i + 1) (by omega) (by omega))]
      exact r1
    · rw [r2 w, ws_snoc]
      show _ = ws w q + (cs (fun x => w (p x)) g (i + 1) c + w (p (itr g (i + 1) c)))
      omega
    · rcases r3 e he with z | ⟨j, j1, j2⟩
      · rcases List.mem_append.mp z with z | z
        · exact Or.inl z
        · exact Or.inr ⟨i + 1, by omega, List.mem_singleton.mp z⟩
      · exact Or.inr ⟨j, by omega, j2⟩
def rgs (n m : Nat) (sr tg : Nat → Nat) : List (List Nat) := (List.range n).flatMap (fun v => dfs m sr tg 12 v v [v] [])
theorem rgs_pot {n m : Nat} {sr tg : Nat → Nat} {φ w : Nat → Int} (hw : ∀ e, e < m → φ (sr e) + w e ≤ φ (tg e)) : ∀ r ∈ rgs n m sr tg, ws w r ≤ 0 := fun r hr => by
  obtain ⟨v, _, h⟩ := List.mem_flatMap.mp hr
  exact dfs_pot hw 12 v [v] [] (by simp [ws]) r h
theorem rgs_in {n m : Nat} {sr tg : Nat → Nat} : ∀ r ∈ rgs n m sr tg, (∀ e ∈ r, e < m) ∧ r ≠ [] ∧ r.length ≤ 12 := fun r hr => by
  obtain ⟨v, _, h⟩ := List.mem_flatMap.mp hr
  have := dfs_in 12 v [v] [] (by simp) r h
  simpa using this
/-- a closed choice of arcs holds a ring that the search finds -/
theorem ring_ex {n m : Nat} {sr tg p g : Nat → Nat} (hn : n ≤ 10) {N : Nat → Prop} (hN : ∀ v, N v → v < n ∧ p v < m ∧ tg (p v) = v ∧ sr (p v) = g v ∧ N (g v)) {v : Nat} (hv : N v) : ∃ k, 1 ≤ k ∧ k ≤ n ∧ itr g k (itr g n v) = itr g n v ∧ (∀ i, 1 ≤ i → i < k → itr g i (itr g n v) ≠ itr g n v) ∧ (∀ i, N (itr g i v)) ∧ ∃ r ∈ rgs n m sr tg, (∀ w, ws w r = cs (fun x => w (p x)) g k (itr g n v)) ∧ ∀ e ∈ r, ∃ x, N x ∧ e = p x := by
  have hall : ∀ i, N (itr g i v) := fun i => by
    induction i with
    | zero => exact hv
    | succ i ih => exact (hN _ ih).2.2.2.2
  obtain ⟨k, k1, k2, k3, k4⟩ := cyc_ex (g := g) (n := n) (v := v) (fun i _ => (hN _ (hall i)).1)
  refine ⟨k, k1, k2, k3, k4, hall, ?_⟩
  have hallc : ∀ i, N (itr g i (itr g n v)) := fun i => by rw [← itr_add]; exact hall _
  generalize itr g n v = c at k3 k4 hallc
  obtain ⟨x0, _, ⟨t, t1, t2⟩, x2⟩ := least (P := fun x => ∃ t, t < k ∧ itr g t c = x) c ⟨0, by omega, rfl⟩
  have hmk : itr g k (itr g t c) = itr g t c := itr_cl k3 t
  have hmm : ∀ i, 1 ≤ i → i < k → itr g i (itr g t c) ≠ itr g t c := fun i i1 i2 e => by
    have h1 : itr g (k - t) (itr g i (itr g t c)) = itr g (k - t) (itr g t c) := by rw [e]
    rw [← itr_add, ← itr_add, ← itr_add, show k - t + i + t = i + k by omega, show k - t + t = k by omega, itr_add g k c i, k3] at h1
    exact k4 i i1 i2 h1
  have hmin : ∀ i, i < k → itr g t c ≤ itr g i (itr g t c) := fun i hi => by
    rw [t2]
    rcases Nat.lt_or_ge (itr g i x0) x0 with q | q
    · exfalso
      by_cases hit : i + t < k
      · exact x2 _ q ⟨i + t, hit, by rw [itr_add, t2]⟩
      · refine x2 _ q ⟨i + t - k, by omega, ?_⟩
        have : itr g (i + t) c = itr g (i + t - k) c := by
          rw [show i + t = (i + t - k) + k by omega, itr_add g k c, k3, show i + t - k + k - k = i + t - k by omega]
        rw [← this, itr_add, t2]
    · exact q
  have hallm : ∀ i, N (itr g i (itr g t c)) := fun i => by rw [← itr_add]; exact hallc _
  obtain ⟨r, r1, r2, r3⟩ := dfs_mem (m := m) (sr := sr) (tg := tg) (p := p) (g := g) (c := itr g t c) (k := k) (fun i hi => ⟨(hN _ (hallm i)).2.1, (hN _ (hallm i)).2.2.1, (hN _ (hallm i)).2.2.2.1⟩) (fun i j hij hj => cyc_ne hmk hmm hij hj) hmin (k - 1) 12 [itr g t c] [] (by omega) (by omega) (fun j j1 j2 hj => hmm j j1 (by omega) (List.mem_singleton.mp hj))
  rw [show k - 1 + 1 = k by omega] at r1 r2 r3
  rw [hmk] at r1
  refine ⟨r, ?_, fun w => ?_, fun e he => ?_⟩
  · unfold rgs
    exact List.mem_flatMap.mpr ⟨itr g t c, List.mem_range.mpr (hN _ (hallm 0)).1, r1⟩
  · rw [r2 w, cs_rot _ g k3 t]
    simp [ws]
  · rcases r3 e he with z | ⟨j, _, j2⟩
    · simp at z
    · exact ⟨_, hallm j, j2⟩
