/-! the model's search for rings -/
abbrev RS : Type := Bool × Nat × Option (Nat × Nat)
def rst (s : RS) (D T : Nat) : RS := if T = 0 then (true, s.2.1 + 1, s.2.2) else (s.1, s.2.1 + 1, match s.2.2 with
  | none => some (D, T)
  | some q => if q.1 * T < D * q.2 then some (D, T) else some q)
def nsm (f : Nat → Nat) : List Nat → Nat
  | [] => 0
  | e :: r => f e + nsm f r
theorem nsm_snoc (f : Nat → Nat) : ∀ (p : List Nat) (e : Nat), nsm f (p ++ [e]) = nsm f p + f e
  | [], e => by simp [nsm]
  | a :: p, e => by
    show f a + nsm f (p ++ [e]) = f a + nsm f p + f e
    rw [nsm_snoc f p e]; omega
theorem nsm_le {f : Nat → Nat} {c : Nat} : ∀ (p : List Nat), (∀ e ∈ p, f e ≤ c) → nsm f p ≤ c * p.length
  | [], _ => Nat.le_refl _
  | a :: p, h => by
    have h1 := h a List.mem_cons_self
    have h2 := nsm_le p (fun e he => h e (List.mem_cons_of_mem _ he))
    show f a + nsm f p ≤ c * (p.length + 1)
    rw [Nat.mul_add, Nat.mul_one]; omega
def rfo (tg tk dl : Nat → Nat) (s : RS) (L : List (List Nat)) : RS := L.foldl (fun s r => rst s (nsm (fun e => dl (tg e)) r) (nsm tk r)) s
theorem rfo_app (tg tk dl : Nat → Nat) (s : RS) (L M : List (List Nat)) : rfo tg tk dl s (L ++ M) = rfo tg tk dl (rfo tg tk dl s L) M := by
  unfold rfo
  rw [List.foldl_append]
def RM (s : RS) (u : St) : Prop := u.1 50 26 = b2i s.1 ∧ u.1 50 27 = nI s.2.1 ∧ match s.2.2 with
  | none => u.2 50 28 = -1 ∧ u.2 50 29 = 1
  | some q => u.2 50 28 = lN q.1 ∧ u.2 50 29 = lN q.2 ∧ q.1 ≤ 2000 ∧ q.2 ≤ 2000
/-- only the search's own fields have changed -/
def FG (u v : St) : Prop := (∀ q, q ≠ 50 → v.1 q = u.1 q) ∧ ∀ k, k ≠ 26 → k ≠ 27 → v.1 50 k = u.1 50 k
theorem FG.rf (u : St) : FG u u := ⟨fun _ _ => rfl, fun _ _ _ => rfl⟩
theorem FG.tr {u v w : St} (h : FG u v) (g : FG v w) : FG u w := ⟨fun q hq => (g.1 q hq).trans (h.1 q hq), fun k h1 h2 => (g.2 k h1 h2).trans (h.2 k h1 h2)⟩
theorem MN.fg {u v : St} {n m : Nat} {sr tg tk dl : Nat → Nat} (h : MN u n m sr tg tk dl) (f : FG u v) : MN v n m sr tg tk dl := by
  unfold MN
  rw [f.2 24 (by decide) (by decide), f.2 25 (by decide) (by decide), f.1 66 (by decide), f.1 67 (by decide), f.1 68 (by decide), f.1 69 (by decide)]
  exact h
theorem wl_1 (u : St) (p k : Nat) (v : Int64) : (wl u p k v).1 = u.1 := rfl
theorem wl_eq (u : St) (p k : Nat) (v : Int64) : (wl u p k v).2 p k = v := by simp [wl]
theorem wl_nek (u : St) {p k : Nat} {v : Int64} {k' : Nat} (h : k' ≠ k) : (wl u p k v).2 p k' = u.2 p k' := by simp [wl, h]
theorem lgm1 : ¬ (0 : Int32) ≤ lg_cmp (-1) 0 := by decide
theorem k_ring (F : Nat) {s : RS} {u : St} (h : RM s u) {D T : Nat} (hD : D ≤ 2000) (hT : T ≤ 2000) : ∃ u', f_X12_ring F (nI D) (nI T) u = some u' ∧ RM (rst s D T) u' ∧ FG u u' := by
  obtain ⟨h1, h2, h3⟩ := h
  have hfg : ∀ v : St, v.1 = (wr u 50 27 (nI (s.2.1 + 1))).1 → FG u v := fun v hv => ⟨fun q hq => by rw [hv, wr_ne _ hq], fun k k1 k2 => by rw [hv, wr_nek _ k2]⟩
  have h26 : (wr u 50 27 (nI (s.2.1 + 1))).1 50 26 = b2i s.1 := by rw [wr_nek _ (by decide)]; exact h1
  unfold f_X12_ring
  rw [h2, nI_1]
  by_cases hT0 : T = 0
  · subst hT0
    rw [if_pos (show nI 0 = 0 from rfl)]
    refine ⟨_, rfl, ?_, ⟨fun q hq => by rw [wr_ne _ hq, wr_ne _ hq], fun k k1 k2 => by rw [wr_nek _ k1, wr_nek _ k2]⟩⟩
    unfold rst
    rw [if_pos rfl]
    exact ⟨wr_eq _, by rw [wr_nek _ (by decide), wr_eq], h3⟩
  · rw [if_neg (show ¬ nI T = 0 from fun z => hT0 (nI_inj (b := 0) (by omega) (by decide) z))]
    have hset : RM (s.1, s.2.1 + 1, some (D, T)) (wl (wl (wr u 50 27 (nI (s.2.1 + 1))) 50 28 ((nI D).toInt64)) 50 29 ((nI T).toInt64)) := by
      refine ⟨h26, (show (wr u 50 27 (nI (s.2.1 + 1))).1 50 27 = nI (s.2.1 + 1) from wr_eq _), ?_, ?_, hD, hT⟩
      · rw [wl_nek _ (by decide), wl_eq, nI_l (by omega)]
      · rw [wl_eq, nI_l (by omega)]
    unfold rst
    rw [if_neg hT0]
    cases hs : s.2.2 with
    | none =>
      rw [hs] at h3
      have e28 : (wr u 50 27 (nI (s.2.1 + 1))).2 50 28 = -1 := h3.1
      simp only
      by_cases hc : 0 < (lg_cmp (((nI D).toInt64) * ((wr u 50 27 (nI (s.2.1 + 1))).2 50 29)) (((wr u 50 27 (nI (s.2.1 + 1))).2 50 28) * ((nI T).toInt64)))
      · rw [if_pos hc]
        exact ⟨_, rfl, hset, hfg _ rfl⟩
      · rw [if_neg hc, e28, if_neg lgm1]
        exact ⟨_, rfl, hset, hfg _ rfl⟩
    | some q =>
      rw [hs] at h3
      obtain ⟨q1, q2, q3, q4⟩ := h3
      have e28 : (wr u 50 27 (nI (s.2.1 + 1))).2 50 28 = lN q.1 := q1
      have e29 : (wr u 50 27 (nI (s.2.1 + 1))).2 50 29 = lN q.2 := q2
      have b1 : D * q.2 ≤ 2000 * 2000 := Nat.mul_le_mul hD q4
      have b2 : q.1 * T ≤ 2000 * 2000 := Nat.mul_le_mul q3 hT
      simp only
      rw [e28, e29, nI_l (show D < 2 ^ 31 by omega), nI_l (show T < 2 ^ 31 by omega), lN_mul, lN_mul]
      rw [nI_l (show D < 2 ^ 31 by omega), nI_l (show T < 2 ^ 31 by omega)] at hset
      have hge : (0 : Int32) ≤ lg_cmp (lN q.1) 0 := (lg_cmp_ge _ _).mpr ((lN_le (a := 0) (b := q.1) (by omega) (by omega)).mpr (Nat.zero_le _))
      by_cases hc : q.1 * T < D * q.2
      · rw [if_pos hc, if_pos ((lg_cmp_gt _ _).mpr ((lN_lt (by omega) (by omega)).mpr hc))]
        exact ⟨_, rfl, hset, hfg _ rfl⟩
      · rw [if_neg hc, if_neg (fun z => hc ((lN_lt (by omega) (by omega)).mp ((lg_cmp_gt _ _).mp z))), if_pos hge]
        exact ⟨_, rfl, ⟨h26, wr_eq _, q1, q2, q3, q4⟩, hfg _ rfl⟩
theorem l_round (F : Nat) {n m : Nat} {sr tg tk dl : Nat → Nat} {self : Int32 → Int32 → Int32 → Int32 → Int32 → St → Option St} {d f a : Nat} {bs p : List Nat} {x3 : Int32} (hf : f < n) (ha : a < n) (hx : ∀ j, bt x3 j = decide (j ∈ bs)) (hp : p.length ≤ 10) (hpe : ∀ e ∈ p, dl (tg e) ≤ 100 ∧ tk e ≤ 10) (hdf : dl f ≤ 100)
    (hself : ∀ e, e < m → tg e ∉ bs → ∀ (s : RS) (u : St), MN u n m sr tg tk dl → RM s u → ∃ u', self (nI f) (nI (tg e)) (x3 ||| ((1 : Int32) <<< (nI (tg e) &&& 31))) (nI (dl f + nsm (fun e => dl (tg e)) (p ++ [e]))) (nI (nsm tk (p ++ [e]))) u = some u' ∧ RM (rfo tg tk dl s (dfs m sr tg d f (tg e) (tg e :: bs) (p ++ [e]))) u' ∧ FG u u')
    {s0 : RS} : ∀ (c i k : Nat) (u : St), i + c = m → c < k → MN u n m sr tg tk dl → RM (rfo tg tk dl s0 ((List.range i).flatMap (fun e => if sr e = a ∧ f ≤ tg e then (if tg e = f then [p ++ [e]] else if tg e ∈ bs then [] else dfs m sr tg d f (tg e) (tg e :: bs) (p ++ [e])) else []))) u → ∃ u', l_X12_round_3 F self (nI f) (nI a) x3 (nI (dl f + nsm (fun e => dl (tg e)) p)) (nI (nsm tk p)) k (nI i) u = some (nI m, u') ∧ RM (rfo tg tk dl s0 ((List.range m).flatMap (fun e => if sr e = a ∧ f ≤ tg e then (if tg e = f then [p ++ [e]] else if tg e ∈ bs then [] else dfs m sr tg d f (tg e) (tg e :: bs) (p ++ [e])) else []))) u' ∧ FG u u'
  | c, i, 0, u, hc, hk, hN, hR => absurd hk (by omega)
  | c, i, k + 1, u, hc, hk, hN, hR => by
    obtain ⟨h1, h2, h3, h4, h5, h6⟩ := id hN
    show ∃ u', b_X12_round_3 F self (nI f) (nI a) x3 _ _ (l_X12_round_3 F self (nI f) (nI a) x3 _ _ k) _ u = _ ∧ _
    unfold b_X12_round_3
    rw [h4]
    cases c with
    | zero =>
      have : i = m := by omega
      subst this
      rw [if_pos (nI_le (by omega) (by omega))]
      exact ⟨u, rfl, hR, FG.rf u⟩
    | succ c =>
      obtain ⟨a1, a2, a3, a4, a5, a6⟩ := h5 i (by omega)
      obtain ⟨b1, b2⟩ := h6 (tg i) a5
      have hg : ¬ (nI i < 0 ∨ 20 ≤ i) := gin (show i < 20 by omega) (by decide)
      have hD := nsm_le (f := fun e => dl (tg e)) (c := 100) p (fun e he => (hpe e he).1)
      have hT := nsm_le (f := tk) (c := 10) p (fun e he => (hpe e he).2)
      rw [if_neg (nI_ge (show i < m by omega) (by omega)), nI_clamp (by omega), if_neg hg, a1, a2, a3, nI_1]
      -- the list with one arc more
      have step : ∀ (v : St) (L : List (List Nat)), (if sr i = a ∧ f ≤ tg i then (if tg i = f then [p ++ [i]] else if tg i ∈ bs then [] else dfs m sr tg d f (tg i) (tg i :: bs) (p ++ [i])) else []) = L → RM (rfo tg tk dl (rfo tg tk dl s0 ((List.range i).flatMap (fun e => if sr e = a ∧ f ≤ tg e then (if tg e = f then [p ++ [e]] else if tg e ∈ bs then [] else dfs m sr tg d f (tg e) (tg e :: bs) (p ++ [e])) else []))) L) v → FG u v → ∃ u', l_X12_round_3 F self (nI f) (nI a) x3 (nI (dl f + nsm (fun e => dl (tg e)) p)) (nI (nsm tk p)) k (nI (i + 1)) v = some (nI m, u') ∧ RM (rfo tg tk dl s0 ((List.range m).flatMap (fun e => if sr e = a ∧ f ≤ tg e then (if tg e = f then [p ++ [e]] else if tg e ∈ bs then [] else dfs m sr tg d f (tg e) (tg e :: bs) (p ++ [e])) else []))) u' ∧ FG u u' := fun v L hL hv hfg => by
        obtain ⟨u', g1, g2, g3⟩ := l_round F hf ha hx hp hpe hdf hself (s0 := s0) c (i + 1) k v (by omega) (by omega) (hN.fg hfg) (by
          rw [List.range_succ, List.flatMap_append, rfo_app, List.flatMap_singleton, hL]
          exact hv)
        exact ⟨u', g1, g2, hfg.tr g3⟩
      by_cases hsa : sr i = a
      · rw [if_pos (by rw [hsa]), if_neg hg]
        by_cases hft : f ≤ tg i
        · rw [if_pos (nI_le hft (by omega)), if_neg hg]
          by_cases htf : tg i = f
          · rw [if_pos (by rw [htf]), if_neg hg, nI_add]
            obtain ⟨v, v1, v2, v3⟩ := k_ring F hR (D := dl f + nsm (fun e => dl (tg e)) p) (T := nsm tk p + tk i) (by omega) (by omega)
            rw [v1, Option.bind_some]
            refine step v [p ++ [i]] (by rw [if_pos ⟨hsa, hft⟩, if_pos htf]) ?_ v3
            unfold rfo
            rw [List.foldl_cons, List.foldl_nil, nsm_snoc, nsm_snoc]
            rw [htf, Nat.add_comm (nsm (fun e => dl (tg e)) p) (dl f)]
            exact v2
          · rw [if_neg (fun z => htf (nI_inj (by omega) (by omega) z))]
            by_cases hb : tg i ∈ bs
            · rw [if_neg (by rw [bt_t0 _ (show tg i < 32 by omega), hx]; simp [hb])]
              exact step u [] (by rw [if_pos ⟨hsa, hft⟩, if_neg htf, if_pos hb]) hR (FG.rf u)
            · rw [if_pos (by rw [bt_t0 _ (show tg i < 32 by omega), hx]; simp [hb]), nI_clamp (by omega), if_neg (gin (show tg i < 10 by omega) (by decide)), if_neg hg, b1, nI_add, nI_add]
              obtain ⟨v, v1, v2, v3⟩ := hself i (by omega) hb _ u hN hR
              rw [nsm_snoc, nsm_snoc, ← Nat.add_assoc] at v1
              rw [v1, Option.bind_some]
              exact step v _ (by rw [if_pos ⟨hsa, hft⟩, if_neg htf, if_neg hb]) v2 v3
        · rw [if_neg (nI_ge (by omega) (by omega))]
          exact step u [] (by rw [if_neg (fun z => hft z.2)]) hR (FG.rf u)
      · rw [if_neg (fun z => hsa (nI_inj (by omega) (by omega) z))]
        exact step u [] (by rw [if_neg (fun z => hsa z.1)]) hR (FG.rf u)
theorem k_round (F : Nat) (hF : 100 ≤ F) {n m : Nat} {sr tg tk dl : Nat → Nat} (hn : n ≤ 10) (hm : m ≤ 20) (hok : ∀ e, e < m → tg e < n ∧ dl (tg e) ≤ 100 ∧ tk e ≤ 10) {f : Nat} (hf : f < n) (hdf : dl f ≤ 100) : ∀ (d a : Nat) (bs p : List Nat) (x3 : Int32), a < n → bs.Nodup → (∀ x ∈ bs, x < n) → d + bs.length = 13 → p.length + 1 = bs.length → (∀ e ∈ p, e < m) → (∀ j, bt x3 j = decide (j ∈ bs)) → ∀ (s : RS) (u : St), MN u n m sr tg tk dl → RM s u → ∃ u', f_X12_round F d (nI f) (nI a) x3 (nI (dl f + nsm (fun e => dl (tg e)) p)) (nI (nsm tk p)) u = some u' ∧ RM (rfo tg tk dl s (dfs m sr tg d f a bs p)) u' ∧ FG u u'
  | 0, a, bs, p, x3, ha, hnd, hlt, hd, hpl, hpe, hx, s, u, hN, hR => by
    have := php n bs hnd hlt
    omega
  | d + 1, a, bs, p, x3, ha, hnd, hlt, hd, hpl, hpe, hx, s, u, hN, hR => by
    have hbl := php n bs hnd hlt
    obtain ⟨u', g1, g2, g3⟩ := l_round F (self := f_X12_round F d) (d := d) hf ha hx (by omega) (fun e he => (hok e (hpe e he)).2) hdf (fun e he hb s u hN hR => by
      have htn := (hok e he).1
      exact k_round F hF hn hm hok hf hdf d (tg e) (tg e :: bs) (p ++ [e]) (x3 ||| ((1 : Int32) <<< (nI (tg e) &&& 31))) htn (List.nodup_cons.mpr ⟨hb, hnd⟩) (fun x hxx => by
        rcases List.mem_cons.mp hxx with z | z
        · rw [z]; exact htn
        · exact hlt x z) (by rw [List.length_cons]; omega) (by rw [List.length_append, List.length_singleton, List.length_cons]; omega) (fun y hy => by
        rcases List.mem_append.mp hy with z | z
        · exact hpe y z
        · rw [List.mem_singleton.mp z]; exact he) (fun j => by
        rw [bt_or, hx, bt_shl1 (by omega)]
        by_cases q1 : j = tg e
        · simp [q1]
        · simp [q1]) s u hN hR) (s0 := s) m 0 F u (by omega) (by omega) hN (by simpa [rfo] using hR)
    refine ⟨u', ?_, ?_, g3⟩
    · show g_X12_round F (f_X12_round F d) _ _ _ _ _ u = _
      unfold g_X12_round
      rw [show (0 : Int32) = nI 0 from rfl, g1]
      rfl
    · unfold dfs
      exact g2
