/-! the walk: its list, and how the system's rows hold it -/
theorem php : ∀ (n : Nat) (l : List Nat), l.Nodup → (∀ x ∈ l, x < n) → l.length ≤ n
  | 0, l, _, h => by
    cases l with
    | nil => simp
    | cons a t => exact absurd (h a List.mem_cons_self) (by omega)
  | n + 1, l, hd, h => by
    by_cases hm : n ∈ l
    · have h1 := php n (l.erase n) (hd.erase n) (fun x hx => by
        have h2 := (List.Nodup.mem_erase_iff hd).mp hx
        have := h x h2.2
        have := h2.1
        omega)
      rw [List.length_erase_of_mem hm] at h1
      omega
    · have := php n l hd (fun x hx => by
        have := h x hx
        have : x ≠ n := fun e => hm (e ▸ hx)
        omega)
      omega
abbrev WL : Type := List (Nat × Nat)
def ent (L : WL) (t x : Nat) : WL := if t ∈ L.map Prod.fst then L else L ++ [(t, x)]
def goF (v : Int32) (s : Nat) : Nat → Nat → WL → WL
  | 0, _, L => L
  | d + 1, x, L => goF v s d (x + 1) (if bt v x then ent L (s ^^^ 2 ^ x) x else L)
def bf (a : Nat → Int32) (r : Nat) : Nat → WL
  | 0 => [(r, 12)]
  | i + 1 => match (bf a r i)[i]? with
    | none => bf a r i
    | some e => goF (a e.1) e.1 12 0 (bf a r i)
def GL (L : WL) : Prop := (L.map Prod.fst).Nodup ∧ ∀ e ∈ L, e.1 < 4096 ∧ e.2 ≤ 12
theorem GL.len {L : WL} (h : GL L) : L.length ≤ 4096 := by
  have := php 4096 (L.map Prod.fst) h.1 (fun x hx => by
    obtain ⟨e, he, rfl⟩ := List.mem_map.mp hx
    exact (h.2 e he).1)
  simpa using this
theorem GL.inj {L : WL} (h : GL L) {i j n b c : Nat} (h1 : L[i]? = some (n, b)) (h2 : L[j]? = some (n, c)) : i = j := by
  have hi : (L.map Prod.fst)[i]? = some n := by simp [h1]
  have hj : (L.map Prod.fst)[j]? = some n := by simp [h2]
  have li := (List.getElem?_eq_some_iff.mp hi)
  have lj := (List.getElem?_eq_some_iff.mp hj)
  obtain ⟨l1, e1⟩ := li
  obtain ⟨l2, e2⟩ := lj
  have hp := List.pairwise_iff_getElem.mp h.1
  rcases Nat.lt_trichotomy i j with q | q | q
  · exact absurd (e1.trans e2.symm) (hp i j l1 l2 q)
  · exact q
  · exact absurd (e2.trans e1.symm) (hp j i l2 l1 q)
theorem GL.e {L : WL} (h : GL L) {t x : Nat} (ht : t < 4096) (hx : x ≤ 12) : GL (ent L t x) := by
  unfold ent
  by_cases hm : t ∈ L.map Prod.fst
  · rw [if_pos hm]; exact h
  · rw [if_neg hm]
    refine ⟨?_, ?_⟩
    · rw [List.map_append, List.map_cons, List.map_nil]
      refine List.nodup_append.mpr ⟨h.1, by simp, ?_⟩
      intro a ha b hb
      rw [List.mem_singleton.mp hb]
      exact fun e => hm (by rw [show t = a from e.symm]; exact ha)
    · intro e he
      rcases List.mem_append.mp he with q | q
      · exact h.2 e q
      · rw [List.mem_singleton.mp q]
        exact ⟨ht, hx⟩
theorem x2_lt {s x : Nat} (hs : s < 4096) (hx : x < 12) : s ^^^ 2 ^ x < 4096 := by
  have : (2 : Nat) ^ x < 2 ^ 12 := Nat.pow_lt_pow_right (by decide) hx
  exact Nat.xor_lt_two_pow (n := 12) hs this
theorem GLgoF {s : Nat} (hs : s < 4096) (v : Int32) : ∀ (d x : Nat) (L : WL), x + d ≤ 12 → GL L → GL (goF v s d x L)
  | 0, _, _, _, h => h
  | d + 1, x, L, hx, h => by
    refine GLgoF hs v d (x + 1) _ (by omega) ?_
    by_cases hb : bt v x = true
    · rw [if_pos hb]; exact h.e (x2_lt hs (by omega)) (by omega)
    · rw [if_neg hb]; exact h
theorem GLbf {a : Nat → Int32} {r : Nat} (hr : r < 4096) : ∀ i, GL (bf a r i)
  | 0 => ⟨by simp [bf], fun e he => by
    rw [List.mem_singleton.mp he]
    exact ⟨hr, Nat.le_refl _⟩⟩
  | i + 1 => by
    have ih := GLbf (a := a) hr i
    unfold bf
    cases he : (bf a r i)[i]? with
    | none => exact ih
    | some e => exact GLgoF (ih.2 e (List.mem_of_getElem? he)).1 _ 12 0 _ (by decide) ih
theorem ent_pre (L : WL) (t x : Nat) : ∃ M, ent L t x = L ++ M := by
  unfold ent
  by_cases hm : t ∈ L.map Prod.fst
  · exact ⟨[], by rw [if_pos hm]; simp⟩
  · exact ⟨[(t, x)], by rw [if_neg hm]⟩
theorem goF_pre (v : Int32) (s : Nat) : ∀ (d x : Nat) (L : WL), ∃ M, goF v s d x L = L ++ M
  | 0, _, L => ⟨[], by simp [goF]⟩
  | d + 1, x, L => by
    unfold goF
    by_cases hb : bt v x = true
    · rw [if_pos hb]
      obtain ⟨M, hM⟩ := ent_pre L (s ^^^ 2 ^ x) x
      obtain ⟨M2, hM2⟩ := goF_pre v s d (x + 1) (ent L (s ^^^ 2 ^ x) x)
      exact ⟨M ++ M2, by rw [hM2, hM, List.append_assoc]⟩
    · rw [if_neg hb]
      exact goF_pre v s d (x + 1) L
theorem bf_pre (a : Nat → Int32) (r i : Nat) : ∃ M, bf a r (i + 1) = bf a r i ++ M := by
  show ∃ M, (match (bf a r i)[i]? with | none => bf a r i | some e => goF (a e.1) e.1 12 0 (bf a r i)) = _
  cases (bf a r i)[i]? with
  | none => exact ⟨[], by simp⟩
  | some e => exact goF_pre _ _ _ _ _
theorem bf_le (a : Nat → Int32) (r i : Nat) : ∀ d, ∃ M, bf a r (i + d) = bf a r i ++ M
  | 0 => ⟨[], by simp⟩
  | d + 1 => by
    obtain ⟨M, hM⟩ := bf_le a r i d
    obtain ⟨M2, hM2⟩ := bf_pre a r (i + d)
    exact ⟨M ++ M2, by rw [show i + (d + 1) = i + d + 1 from rfl, hM2, hM, List.append_assoc]⟩
/-- where the walk has come to its end, it stays -/
theorem bf_stop (a : Nat → Int32) (r i : Nat) (h : (bf a r i).length ≤ i) : ∀ d, bf a r (i + d) = bf a r i
  | 0 => rfl
  | d + 1 => by
    have ih := bf_stop a r i h d
    show (match (bf a r (i + d))[i + d]? with | none => bf a r (i + d) | some e => goF (a e.1) e.1 12 0 (bf a r (i + d))) = _
    rw [ih, List.getElem?_eq_none (by omega)]
def bfE (a : Nat → Int32) (r : Nat) : WL := bf a r 4096
theorem bfE_at {a : Nat → Int32} {r i : Nat} (hi : i ≤ 4096) (h : (bf a r i).length ≤ i) : bfE a r = bf a r i := by
  have := bf_stop a r i h (4096 - i)
  rwa [show i + (4096 - i) = 4096 by omega] at this
def byI (b : Nat) : Int32 := if b = 12 then -1 else nI b
/-- how the system holds the walk's list -/
def WC (L : WL) (u : St) : Prop := u.1 11 5 = nI L.length ∧ (∀ i n b, L[i]? = some (n, b) → u.1 12 i = nI n ∧ u.1 13 n = nI i ∧ u.1 14 n = byI b) ∧ ∀ n, n < 4096 → n ∉ L.map Prod.fst → u.1 13 n = -1
theorem WC.congr {L : WL} {u v : St} (h : WC L u) (h5 : v.1 11 5 = u.1 11 5) (h12 : v.1 12 = u.1 12) (h13 : v.1 13 = u.1 13) (h14 : v.1 14 = u.1 14) : WC L v := by
  unfold WC
  rw [h5, h12, h13, h14]
  exact h
theorem nI_ne_m1 {n : Nat} (h : n < 2 ^ 31) : nI n ≠ -1 := by
  intro e
  have := congrArg Int32.toInt e
  rw [nI_toInt h] at this
  have e1 : ((-1 : Int32)).toInt = -1 := by decide
  rw [e1] at this
  omega
theorem mem_fst {L : WL} {n : Nat} (h : n ∈ L.map Prod.fst) : ∃ (i b : Nat), L[i]? = some (n, b) := by
  obtain ⟨e, he, rfl⟩ := List.mem_map.mp h
  obtain ⟨i, hi⟩ := List.getElem?_of_mem he
  exact ⟨i, e.2, hi⟩
theorem fst_mem {L : WL} {i n b : Nat} (h : L[i]? = some (n, b)) : n ∈ L.map Prod.fst := List.mem_map.mpr ⟨(n, b), List.mem_of_getElem? h, rfl⟩
theorem p_enter (F : Nat) {L : WL} {u : St} (hG : GL L) (hW : WC L u) {t b : Nat} (ht : t < 4096) : ∃ u', f_X10_enter F (nI t) (byI b) u = some u' ∧ WC (ent L t b) u' ∧ Fr [11, 12, 13, 14] u u' ∧ ∀ k, k ≠ 5 → u'.1 11 k = u.1 11 k := by
  obtain ⟨h1, h2, h3⟩ := hW
  have hg : ¬ (nI t < 0 ∨ 4096 ≤ t) := by rw [not_or]; exact ⟨nI_pos (by omega), by omega⟩
  unfold f_X10_enter
  rw [nI_clamp (by omega), if_neg hg]
  unfold ent
  by_cases hm : t ∈ L.map Prod.fst
  · obtain ⟨i, c, hi⟩ := mem_fst hm
    have hlen := hG.len
    have hil := (List.getElem?_eq_some_iff.mp hi).1
    rw [if_neg (by rw [(h2 i t c hi).2.1]; exact nI_ne_m1 (by omega)), if_pos hm]
    exact ⟨u, rfl, ⟨h1, h2, h3⟩, Fr.rf _ _, fun _ _ => rfl⟩
  · have hG2 : GL (L ++ [(t, 0)]) := by
      have := hG.e (t := t) (x := 0) ht (by omega)
      unfold ent at this
      rwa [if_neg hm] at this
    have hlen := hG2.len
    rw [List.length_append, List.length_singleton] at hlen
    have hln : L.length < 4096 := by omega
    have e5 : (wr (wr u 13 t (u.1 11 5)) 14 t (byI b)).1 11 5 = nI L.length := by
      rw [wr_ne _ (by decide), wr_ne _ (by decide), h1]
    have hgl : ¬ (nI L.length < 0 ∨ 4096 ≤ L.length) := by rw [not_or]; exact ⟨nI_pos (by omega), by omega⟩
    rw [if_pos (h3 t ht hm), show (4096 : Int32) = nI 4096 from rfl, h1, if_neg (nI_ge hln (by decide)), if_neg hg, if_neg hg, if_neg hm]
    rw [h1] at e5
    rw [e5, nI_clamp (by omega), if_neg hgl]
    refine ⟨_, rfl, ⟨?_, ?_, ?_⟩, ?_, ?_⟩
    · rw [wr_eq, wr_ne _ (by decide), e5, List.length_append, List.length_singleton, nI_1]
    · intro i n c hi
      rw [wr_ne _ (show (12 : Nat) ≠ 11 by decide), wr_ne _ (show (13 : Nat) ≠ 11 by decide), wr_ne _ (show (14 : Nat) ≠ 11 by decide), wr_ne _ (show (13 : Nat) ≠ 12 by decide), wr_ne _ (show (13 : Nat) ≠ 14 by decide), wr_ne _ (show (14 : Nat) ≠ 12 by decide)]
      by_cases hil : i < L.length
      · rw [List.getElem?_append_left hil] at hi
        obtain ⟨g1, g2, g3⟩ := h2 i n c hi
        have hnt : n ≠ t := fun e => hm (e ▸ fst_mem hi)
        rw [wr_nek _ (show i ≠ L.length by omega), wr_ne _ (show (12 : Nat) ≠ 14 by decide), wr_ne _ (show (12 : Nat) ≠ 13 by decide), wr_nek _ hnt, wr_nek _ hnt, wr_ne _ (show (14 : Nat) ≠ 13 by decide)]
        exact ⟨g1, g2, g3⟩
      · rw [List.getElem?_append_right (by omega)] at hi
        have hz : i - L.length < 1 := (List.getElem?_eq_some_iff.mp hi).1
        have hiL : i = L.length := by omega
        subst hiL
        rw [Nat.sub_self] at hi
        cases hi
        rw [wr_eq, wr_eq, wr_eq]
        exact ⟨rfl, rfl, rfl⟩
    · intro n hn hnm
      rw [List.map_append] at hnm
      have hnt : n ≠ t := fun e => hnm (by rw [e]; simp)
      have hnL : n ∉ L.map Prod.fst := fun e => hnm (List.mem_append_left _ e)
      rw [wr_ne _ (show (13 : Nat) ≠ 11 by decide), wr_ne _ (show (13 : Nat) ≠ 12 by decide), wr_ne _ (show (13 : Nat) ≠ 14 by decide), wr_nek _ hnt]
      exact h3 n hn hnL
    · exact ((((Fr.rf _ u).w (by decide)).w (by decide)).w (by decide)).w (by decide)
    · intro k hk
      rw [wr_nek _ hk, wr_ne _ (by decide), wr_ne _ (by decide), wr_ne _ (by decide)]
theorem p_isIn (F : Nat) (v : Int32) {x : Nat} (hx : x < 32) (u : St) : f_X11_isIn F v (nI x) u = some (b2i (bt v x), u) := by
  unfold f_X11_isIn
  cases h : bt v x with
  | true =>
    have := (bt_t1 v hx).mpr h
    rw [this]
    simp [b2i]
  | false =>
    have := (bt_t0 v hx).mpr h
    rw [this]
    simp [b2i]
theorem xor_nI {s x : Nat} (hs : s < 4096) (hx : x < 12) : nI s ^^^ ((1 : Int32) <<< (nI x &&& 31)) = nI (s ^^^ 2 ^ x) := by
  rw [shl1_nI (by omega), nI_xor (by omega) (Nat.lt_trans (show 2 ^ x < 2 ^ 12 from Nat.pow_lt_pow_right (by decide) hx) (by decide))]
theorem l_goOn (F : Nat) {s : Nat} (hs : s < 4096) (v : Int32) : ∀ (d x k : Nat) (L : WL) (u : St), x + d = 12 → d < k → GL L → WC L u → ∃ u', l_X10_goOnFrom_45 F (nI s) v k (nI x) u = some (nI 12, u') ∧ WC (goF v s d x L) u' ∧ Fr [11, 12, 13, 14] u u' ∧ ∀ j, j ≠ 5 → u'.1 11 j = u.1 11 j
  | d, x, 0, _, _, _, hk, _, _ => absurd hk (by omega)
  | d, x, k + 1, L, u, hd, hk, hG, hW => by
    show ∃ u', b_X10_goOnFrom_45 F (nI s) v (l_X10_goOnFrom_45 F (nI s) v k) (nI x) u = _ ∧ _
    unfold b_X10_goOnFrom_45
    rw [show (12 : Int32) = nI 12 from rfl]
    cases d with
    | zero =>
      rw [if_pos (nI_le (by omega) (by omega)), show x = 12 by omega]
      exact ⟨u, rfl, hW, Fr.rf _ _, fun _ _ => rfl⟩
    | succ d =>
      rw [if_neg (nI_ge (show x < 12 by omega) (by decide)), p_isIn F v (by omega)]
      simp only [Option.bind_some, nI_1, xor_nI hs (show x < 12 by omega)]
      unfold goF
      cases hb : bt v x with
      | false =>
        rw [if_pos (by simp [b2i]), if_neg (by simp)]
        exact l_goOn F hs v d (x + 1) k L u (by omega) (by omega) hG hW
      | true =>
        rw [if_neg (by simp [b2i]), if_pos rfl]
        have hbx : nI x = byI x := by unfold byI; rw [if_neg (by omega)]
        obtain ⟨u1, g1, g2, g3, g4⟩ := p_enter F hG hW (t := s ^^^ 2 ^ x) (b := x) (x2_lt hs (by omega))
        rw [hbx, g1]
        simp only [Option.bind_some]
        obtain ⟨u2, k1, k2, k3, k4⟩ := l_goOn F hs v d (x + 1) k _ u1 (by omega) (by omega) (hG.e (x2_lt hs (by omega)) (by omega)) g2
        exact ⟨u2, k1, k2, g3.tr k3, fun j hj => (k4 j hj).trans (g4 j hj)⟩
/-- the stops among the first i states -/
def stp (a : Nat → Int32) (L : WL) (i : Nat) : List Nat := ((L.take i).map Prod.fst).filter (fun n => decide (a n = 0))
def ST (a : Nat → Int32) (L : WL) (i : Nat) (u : St) : Prop := u.1 11 6 = nI (stp a L i).length ∧ ∀ k n, (stp a L i)[k]? = some n → u.1 15 k = nI n
theorem stp_len (a : Nat → Int32) (L : WL) (i : Nat) : (stp a L i).length ≤ L.length := by
  unfold stp
  refine Nat.le_trans (List.length_filter_le _ _) ?_
  rw [List.length_map, List.length_take]
  omega
theorem stp_succ {a : Nat → Int32} {L : WL} {i : Nat} {e : Nat × Nat} (h : L[i]? = some e) : stp a L (i + 1) = if a e.1 = 0 then stp a L i ++ [e.1] else stp a L i := by
  unfold stp
  rw [List.take_add_one, h]
  simp only [Option.toList_some, List.map_append, List.map_cons, List.map_nil, List.filter_append]
  by_cases h0 : a e.1 = 0
  · simp [h0]
  · simp [h0]
theorem stp_app {a : Nat → Int32} {L M : WL} {i : Nat} (h : i ≤ L.length) : stp a (L ++ M) i = stp a L i := by
  unfold stp
  rw [List.take_append_of_le_length h]
theorem ST.congr {a : Nat → Int32} {L : WL} {i : Nat} {u v : St} (h : ST a L i u) (h6 : v.1 11 6 = u.1 11 6) (h15 : v.1 15 = u.1 15) : ST a L i v := by
  unfold ST
  rw [h6, h15]
  exact h
theorem CirK.fr {u v : St} (h : CirK u) {P : List Nat} (hf : Fr P u v) (hP : ∀ q, q ∈ P → q ∉ [4, 5, 7, 8, 9, 10, 46, 47, 48, 49, 52, 53, 54, 58]) : CirK v ∧ asM v = asM u := by
  have e : ∀ q, q ∈ [4, 5, 7, 8, 9, 10, 46, 47, 48, 49, 52, 53, 54, 58] → v.1 q = u.1 q := fun q hq => hf.2 q (fun z => hP q z hq)
  obtain ⟨hE, hW, hR, hS, hK, hC⟩ := h
  have ht : txt v = txt u := by
    unfold txt
    rw [e 4 (by decide)]
  have e0 : v.1 (txt u) = u.1 (txt u) := e _ (by rcases hE with q | q <;> rw [q] <;> decide)
  have e1 : v.1 (txt u + 1) = u.1 (txt u + 1) := e _ (by rcases hE with q | q <;> rw [q] <;> decide)
  have e2 : v.1 (txt u + 2) = u.1 (txt u + 2) := e _ (by rcases hE with q | q <;> rw [q] <;> decide)
  have e3 : v.1 (txt u + 3) = u.1 (txt u + 3) := e _ (by rcases hE with q | q <;> rw [q] <;> decide)
  have ev : ∀ s T, vlC v (txt u) s T = vlC u (txt u) s T := fun s T => vlC_congr e1 e2 e3 s T
  have em : ∀ s x, mVal v s x = mVal u s x := fun s x => by
    unfold mVal
    rw [e 52 (by decide), e 53 (by decide), e 54 (by decide)]
  refine ⟨⟨by rw [ht]; exact hE, ?_, ?_, ?_, ?_, ?_⟩, asM_congr (e _ (by decide)) (e _ (by decide)) (e _ (by decide)) (e _ (by decide))⟩
  · intro x hx
    rw [e 52 (by decide)]
    exact hW x hx
  · obtain ⟨T, h1, h2, h3⟩ := hR
    refine ⟨T, h1, ?_, ?_⟩
    · rw [ht, e0]; exact h2
    · intro x hx
      rw [ht, e0, e 52 (by decide)]
      refine ⟨(h3 x hx).1, fun hne s => ?_⟩
      rw [ev, em]
      exact (h3 x hx).2 hne s
  · rw [ht, e0]; exact hS
  · intro x hx
    rw [e 4 (by decide), e 58 (by decide)]
    exact hK x hx
  · intro j hj
    rw [ht, e0, e 5 (by decide)]
    rcases hC j hj with h | h
    · exact Or.inl h
    · right
      intro T hT hT2
      rw [ev]
      exact h T hT hT2
def aF (u : St) : Nat → Int32 := fun n => asM u (nI n)
theorem aF_eq {u v : St} (h : asM v = asM u) : aF v = aF u := by unfold aF; rw [h]
theorem p_goOn (F : Nat) (hF : 200 ≤ F) {a : Nat → Int32} {L : WL} {i : Nat} {u : St} (hc : CirK u) (ha : aF u = a) (hG : GL L) (hW : WC L u) (hS : ST a L i u) {e : Nat × Nat} (he : L[i]? = some e) : ∃ u', f_X10_goOnFrom F (nI e.1) u = some u' ∧ CirK u' ∧ asM u' = asM u ∧ WC (goF (a e.1) e.1 12 0 L) u' ∧ ST a (goF (a e.1) e.1 12 0 L) (i + 1) u' ∧ Fr [5, 11, 12, 13, 14, 15] u u' ∧ u'.1 11 7 = u.1 11 7 := by
  have hes := (hG.2 e (List.mem_of_getElem? he)).1
  have hil := (List.getElem?_eq_some_iff.mp he).1
  obtain ⟨u1, g1, g2, g3, g4⟩ := p_asked F hF hes u hc
  have hae : asM u (nI e.1) = a e.1 := by rw [← ha]; rfl
  rw [hae] at g1
  have W1 : WC L u1 := hW.congr (by rw [g2.2 11 (by decide)]) (g2.2 12 (by decide)) (g2.2 13 (by decide)) (g2.2 14 (by decide))
  have S1 : ST a L i u1 := hS.congr (by rw [g2.2 11 (by decide)]) (g2.2 15 (by decide))
  have hlen := hG.len
  have hsl := stp_len a L i
  obtain ⟨M, hM⟩ := goF_pre (a e.1) e.1 12 0 L
  have fin : ∀ u2 : St, CirK u2 → asM u2 = asM u → WC L u2 → ST a L (i + 1) u2 → Fr [5, 11, 12, 13, 14, 15] u u2 → u2.1 11 7 = u.1 11 7 → ∃ u', (Option.bind (l_X10_goOnFrom_45 F (nI e.1) (a e.1) F (0 : Int32) u2) (fun w => some w.2)) = some u' ∧ CirK u' ∧ asM u' = asM u ∧ WC (goF (a e.1) e.1 12 0 L) u' ∧ ST a (goF (a e.1) e.1 12 0 L) (i + 1) u' ∧ Fr [5, 11, 12, 13, 14, 15] u u' ∧ u'.1 11 7 = u.1 11 7 := by
    intro u2 c2 a2 W2 S2 f2 m2
    obtain ⟨u3, k1, k2, k3, k4⟩ := l_goOn F hes (a e.1) 12 0 F L u2 (by omega) (by omega) hG W2
    rw [show nI 0 = 0 from rfl] at k1
    obtain ⟨c3, a3⟩ := c2.fr k3 (by decide)
    refine ⟨u3, by rw [k1]; rfl, c3, a3.trans a2, k2, ?_, f2.tr (k3.mono (by intro q hq; simp at hq ⊢; omega)), ?_⟩
    · rw [ST, hM, stp_app (by omega)]
      exact (S2.congr (k4 6 (by decide)) (k3.2 15 (by decide)))
    · exact (k4 7 (by decide)).trans m2
  unfold f_X10_goOnFrom
  rw [g1]
  simp only [Option.bind_some]
  by_cases h0 : a e.1 = 0
  · rw [if_pos h0, S1.1, show (4096 : Int32) = nI 4096 from rfl]
    have hlt : (stp a L i).length < 4096 := by
      have h1 : stp a L (i + 1) = stp a L i ++ [e.1] := by rw [stp_succ he, if_pos h0]
      have h2 := stp_len a L (i + 1)
      rw [h1, List.length_append, List.length_singleton] at h2
      omega
    have hgl : ¬ (nI (stp a L i).length < 0 ∨ 4096 ≤ (stp a L i).length) := by rw [not_or]; exact ⟨nI_pos (by omega), by omega⟩
    rw [if_neg (nI_ge hlt (by decide)), nI_clamp (by omega), if_neg hgl]
    have fw : Fr [11, 15] u1 (wr (wr u1 15 (stp a L i).length (nI e.1)) 11 6 (((wr u1 15 (stp a L i).length (nI e.1)).1 11 6) + (1 : Int32))) := ((Fr.rf _ u1).w (by decide)).w (by decide)
    obtain ⟨c2, a2⟩ := g3.fr fw (by decide)
    refine fin _ c2 (a2.trans g4) (W1.congr ?_ (fw.2 12 (by decide)) (fw.2 13 (by decide)) (fw.2 14 (by decide))) ?_ ((g2.mono (by intro q hq; simp at hq ⊢; omega)).tr (fw.mono (by intro q hq; simp at hq ⊢; omega))) ?_
    · rw [wr_nek _ (by decide), wr_ne _ (by decide)]
    · have h1 : stp a L (i + 1) = stp a L i ++ [e.1] := by rw [stp_succ he, if_pos h0]
      unfold ST
      rw [h1]
      refine ⟨?_, ?_⟩
      · rw [wr_eq, wr_ne _ (by decide), S1.1, nI_1, List.length_append, List.length_singleton]
      · intro k n hk
        rw [wr_ne _ (by decide)]
        by_cases hkl : k < (stp a L i).length
        · rw [List.getElem?_append_left hkl] at hk
          rw [wr_nek _ (by omega)]
          exact S1.2 k n hk
        · rw [List.getElem?_append_right (by omega)] at hk
          have hz : k - (stp a L i).length < 1 := (List.getElem?_eq_some_iff.mp hk).1
          have : k = (stp a L i).length := by omega
          subst this
          rw [Nat.sub_self] at hk
          cases hk
          rw [wr_eq]
    · rw [wr_nek _ (by decide), wr_ne _ (by decide), g2.2 11 (by decide)]
  · rw [if_neg h0]
    refine fin u1 g3 g4 W1 ?_ (g2.mono (by intro q hq; simp at hq ⊢; omega)) (by rw [g2.2 11 (by decide)])
    unfold ST
    rw [stp_succ he, if_neg h0]
    exact S1
theorem l_renew (F : Nat) (hF : 5000 ≤ F) {a : Nat → Int32} {r : Nat} (hr : r < 4096) : ∀ (d i k : Nat) (u : St), i + d = 4096 → d < k → CirK u → aF u = a → WC (bf a r i) u → ST a (bf a r i) i u → ∃ i' u', l_X10_renew_40 F k (nI i) u = some (i', u') ∧ CirK u' ∧ asM u' = asM u ∧ WC (bfE a r) u' ∧ ST a (bfE a r) 4096 u' ∧ Fr [5, 11, 12, 13, 14, 15] u u' ∧ u'.1 11 7 = u.1 11 7
  | d, i, 0, _, _, hk, _, _, _, _ => absurd hk (by omega)
  | d, i, k + 1, u, hd, hk, hc, ha, hW, hS => by
    have hG := GLbf (a := a) hr i
    have hlen := hG.len
    show ∃ i' u', b_X10_renew_40 F (l_X10_renew_40 F k) (nI i) u = _ ∧ _
    unfold b_X10_renew_40
    rw [hW.1]
    by_cases h0 : (bf a r i).length ≤ i
    · rw [if_pos (nI_le h0 (by omega))]
      have hE := bfE_at (a := a) (r := r) (show i ≤ 4096 by omega) h0
      refine ⟨_, u, rfl, hc, rfl, by rw [hE]; exact hW, ?_, Fr.rf _ _, rfl⟩
      rw [hE]
      have : stp a (bf a r i) 4096 = stp a (bf a r i) i := by
        unfold stp
        rw [List.take_of_length_le (by omega), List.take_of_length_le h0]
      unfold ST
      rw [this]
      exact hS
    · rw [if_neg (nI_ge (by omega) (by omega)), show (4096 : Int32) = nI 4096 from rfl]
      have hi : i < 4096 := by omega
      obtain ⟨e, he⟩ : ∃ e, (bf a r i)[i]? = some e := ⟨_, List.getElem?_eq_getElem (show i < (bf a r i).length by omega)⟩
      have hgi : ¬ (nI i < 0 ∨ 4096 ≤ i) := by rw [not_or]; exact ⟨nI_pos (by omega), by omega⟩
      rw [if_neg (nI_ge hi (by decide)), nI_clamp (by omega), if_neg hgi, (hW.2.1 i e.1 e.2 he).1]
      obtain ⟨u1, g1, g2, g3, g4, g5, g6, g7⟩ := p_goOn F (by omega) hc ha hG hW hS he
      rw [g1]
      simp only [Option.bind_some, nI_1]
      have hb : bf a r (i + 1) = goF (a e.1) e.1 12 0 (bf a r i) := by
        show (match (bf a r i)[i]? with | none => bf a r i | some e => goF (a e.1) e.1 12 0 (bf a r i)) = _
        rw [he]
      rw [← hb] at g4 g5
      obtain ⟨i2, u2, k1, k2, k3, k4, k5, k6, k7⟩ := l_renew F hF hr (d - 1) (i + 1) k u1 (by omega) (by omega) g2 (by rw [aF_eq g3]; exact ha) g4 g5
      exact ⟨i2, u2, k1, k2, k3.trans g3, k4, k5, g6.tr k6, k7.trans g7⟩
/-- what the system keeps of the walk, once made -/
def WkK (u : St) : Prop := u.1 11 7 = 0 ∨ (u.1 11 7 = 1 ∧ WC (bfE (aF u) (u.1 4 3).toNatClampNeg) u ∧ ST (aF u) (bfE (aF u) (u.1 4 3).toNatClampNeg) 4096 u)
theorem p_renew (F : Nat) (hF : 5000 ≤ F) {u : St} (hc : CirK u) {r : Nat} (hr : r < 4096) (hu : u.1 4 3 = nI r) (hk : WkK u) : ∃ u', f_X10_renew F u = some u' ∧ CirK u' ∧ asM u' = asM u ∧ u'.1 11 7 = 1 ∧ WC (bfE (aF u) r) u' ∧ ST (aF u) (bfE (aF u) r) 4096 u' ∧ Fr [5, 11, 12, 13, 14, 15] u u' ∧ (u.1 11 7 = 1 → u' = u) := by
  unfold f_X10_renew
  by_cases h0 : u.1 11 7 = 0
  · rw [if_pos h0]
    have e0 : (wr (wr (fil u 13 4096 (-1 : Int32)) 11 5 (0 : Int32)) 11 6 (0 : Int32)).1 4 = u.1 4 := by
      rw [wr_ne _ (by decide), wr_ne _ (by decide)]
      funext k
      simp [fil]
    have hrs : f_X0_resetState F (wr (wr (fil u 13 4096 (-1 : Int32)) 11 5 (0 : Int32)) 11 6 (0 : Int32)) = some (nI r, wr (wr (fil u 13 4096 (-1 : Int32)) 11 5 (0 : Int32)) 11 6 (0 : Int32)) := by
      unfold f_X0_resetState
      rw [e0, hu]
    rw [hrs]
    simp only [Option.bind_some]
    have ff : Fr [13] u (fil u 13 4096 (-1 : Int32)) := ⟨rfl, fun q hq => by
      funext k
      have : q ≠ 13 := by simpa using hq
      simp [fil, this]⟩
    have f1 : Fr [11, 13] u (wr (wr (fil u 13 4096 (-1 : Int32)) 11 5 (0 : Int32)) 11 6 (0 : Int32)) := ((ff.mono (by simp)).w (by decide)).w (by decide)
    have W0 : WC [] (wr (wr (fil u 13 4096 (-1 : Int32)) 11 5 (0 : Int32)) 11 6 (0 : Int32)) := by
      refine ⟨?_, ?_, ?_⟩
      · rw [wr_nek _ (by decide), wr_eq]; rfl
      · intro i n b h; simp at h
      · intro n hn _
        rw [wr_ne _ (by decide), wr_ne _ (by decide)]
        simp [fil, hn]
    generalize hv : wr (wr (fil u 13 4096 (-1 : Int32)) 11 5 (0 : Int32)) 11 6 (0 : Int32) = v at f1 W0
    have h6 : v.1 11 6 = 0 := by rw [← hv, wr_eq]
    have h7 : v.1 11 7 = 0 := by
      rw [← hv, wr_nek _ (by decide), wr_nek _ (by decide), ff.2 11 (by decide)]
      exact h0
    obtain ⟨c1, a1⟩ := hc.fr f1 (by decide)
    have hG0 : GL [] := ⟨by simp, fun e he => by simp at he⟩
    obtain ⟨v1, g1, g2, g3, g4⟩ := p_enter F hG0 W0 (t := r) (b := 12) hr
    rw [show byI 12 = -1 from rfl] at g1
    rw [g1]
    simp only [Option.bind_some]
    obtain ⟨c2, a2⟩ := c1.fr g3 (by decide)
    have S2 : ST (aF u) (bf (aF u) r 0) 0 v1 := by
      refine ⟨?_, ?_⟩
      · rw [g4 6 (by decide), h6]; rfl
      · intro k n h; simp [stp] at h
    obtain ⟨i3, v2, k1, k2, k3, k4, k5, k6, k7⟩ := l_renew F hF hr 4096 0 F v1 (by omega) (by omega) c2 (by rw [aF_eq (a2.trans a1)]) g2 S2
    rw [show nI 0 = 0 from rfl] at k1
    rw [k1]
    simp only [Option.bind_some]
    have fw : Fr [11] v2 (wr v2 11 7 (1 : Int32)) := (Fr.rf _ v2).w (by decide)
    obtain ⟨c3, a3⟩ := k2.fr fw (by decide)
    refine ⟨_, rfl, c3, a3.trans (k3.trans (a2.trans a1)), wr_eq _, ?_, ?_, ?_, ?_⟩
    · exact k4.congr (wr_nek _ (by decide)) (wr_ne _ (by decide)) (wr_ne _ (by decide)) (wr_ne _ (by decide))
    · exact k5.congr (wr_nek _ (by decide)) (wr_ne _ (by decide))
    · exact ((f1.mono (by intro q hq; simp at hq ⊢; omega)).tr (g3.mono (by intro q hq; simp at hq ⊢; omega))).tr (k6.w (by decide))
    · intro h1
      rw [h0] at h1
      exact absurd h1 (by decide)
  · rw [if_neg h0]
    rcases hk with h | ⟨h1, h2, h3⟩
    · exact absurd h h0
    · rw [hu, nI_clamp (by omega)] at h2 h3
      exact ⟨u, rfl, hc, rfl, h1, h2, h3, Fr.rf _ _, fun _ => rfl⟩
