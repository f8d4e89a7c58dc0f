def pkF (v : Int32) (c : Nat) : Nat → Nat → Nat
  | 0, x => x
  | d + 1, x => if bt v x = true ∧ cb v x = c then x else pkF v c d (x + 1)
theorem pkF_eq {v : Int32} {c x : Nat} (hb : bt v x = true) (hc : cb v x = c) : ∀ d i, i ≤ x → x < i + d → pkF v c d i = x
  | 0, i, h1, h2 => by omega
  | d + 1, i, h1, h2 => by
    unfold pkF
    by_cases h : i = x
    · subst h
      rw [if_pos ⟨hb, hc⟩]
    · rw [if_neg (fun q => by have := cb_step q.1 (show i < x by omega); omega)]
      exact pkF_eq hb hc d (i + 1) (by omega) (by omega)
def lotC (x : Int64) (p : Nat) : Nat := (((lushr x (33 : Int32)) - (lushr x (33 : Int32)) / ((nI p).toInt64) * ((nI p).toInt64)).toInt32).toNatClampNeg
def rnF (a : Nat → Int32) : Nat → Nat → Int64 → (Nat → Int32) → Nat × (Nat → Int32)
  | 0, s, _, ch => (s, ch)
  | d + 1, s, x, ch => if a s = 0 then (s, ch) else rnF a d (s ^^^ 2 ^ (pkF (a s) (lotC (lotN x) (cb (a s) 12)) 12 0)) (lotN x) (upd ch (pkF (a s) (lotC (lotN x) (cb (a s) 12)) 12 0) (ch (pkF (a s) (lotC (lotN x) (cb (a s) 12)) 12 0) + 1))
theorem pick_ok {v : Int32} (hS : S12 v) (h0 : v ≠ 0) (x : Int64) : ∃ y c, y < 12 ∧ bt v y = true ∧ cb v y = c ∧ c < 12 ∧ pkF v (lotC x (cb v 12)) 12 0 = y ∧ ((lushr x (33 : Int32)) - (lushr x (33 : Int32)) / ((nI (cb v 12)).toInt64) * ((nI (cb v 12)).toInt64)).toInt32 = nI c := by
  have hp : 0 < cb v 12 := Nat.pos_of_ne_zero (fun e => h0 ((cb_0 hS).mp e))
  have hp2 := cb_le v 12
  obtain ⟨c, hc, he⟩ := lot_pl x hp hp2
  obtain ⟨y, g1, g2, g3⟩ := pick_ex 12 hc
  have hl : lotC x (cb v 12) = c := by
    unfold lotC
    rw [he, nI_clamp (by omega)]
  exact ⟨y, c, g1, g2, g3, by omega, by rw [hl]; exact pkF_eq g2 g3 12 0 (by omega) (by omega), he⟩
theorem toI64_ne {p : Nat} (hp : 0 < p) (hp2 : p ≤ 12) : ¬ (nI p).toInt64 = 0 := by
  rw [nI_l (by omega)]
  intro h
  have := (lN_eq (a := p) (b := 0) (by omega) (by omega)).mp h
  omega
theorem l_run (F : Nat) (hF : 5000 ≤ F) {n : Nat} (hn : n ≤ 2000) {a : Nat → Int32} : ∀ (d i k s : Nat) (x : Int64) (u : St), i + d = n → d < k → s < 4096 → CirK u → aF u = a → ∃ y z u', l_X0_runByLots_18 F (nI n) k (nI s) x (nI i) u = some (nI (rnF a d s x (u.1 21)).1, y, z, u') ∧ u'.1 21 = (rnF a d s x (u.1 21)).2 ∧ CirK u' ∧ asM u' = asM u ∧ Fr [5, 21] u u'
  | d, i, 0, _, _, _, _, hk, _, _, _ => absurd hk (by omega)
  | d, i, k + 1, s, x, u, hd, hk, hs, hc, ha => by
    show ∃ y z u', b_X0_runByLots_18 F (nI n) (l_X0_runByLots_18 F (nI n) k) _ _ _ u = _ ∧ _
    unfold b_X0_runByLots_18
    cases d with
    | zero =>
      rw [if_pos (nI_le (by omega) (by omega))]
      exact ⟨_, _, u, rfl, rfl, hc, rfl, Fr.rf _ _⟩
    | succ d =>
      rw [if_neg (nI_ge (by omega) (by omega))]
      obtain ⟨u1, g1, g2, g3, g4⟩ := p_asked F (by omega) hs u hc
      have hS := asM_S12 u (nI s)
      have hae : asM u (nI s) = a s := by rw [← ha]; rfl
      rw [hae] at g1 hS
      rw [g1]
      simp only [Option.bind_some]
      rw [p_bc]
      simp only [Option.bind_some]
      rw [bc_eq hS]
      have e21 : u1.1 21 = u.1 21 := g2.2 21 (by decide)
      by_cases h0 : a s = 0
      · have hz : cb (a s) 12 = 0 := (cb_0 hS).mpr h0
        rw [hz, if_pos (show nI 0 = 0 from rfl)]
        unfold rnF
        rw [if_pos h0]
        exact ⟨_, _, u1, rfl, e21, g3, g4, g2.mono (by intro q hq; simp at hq ⊢; omega)⟩
      · have hp : 0 < cb (a s) 12 := Nat.pos_of_ne_zero (fun e => h0 ((cb_0 hS).mp e))
        have hp2 := cb_le (a s) 12
        rw [if_neg (nI_ne0 hp (by omega)), if_neg (toI64_ne hp hp2)]
        obtain ⟨y, c, p1, p2, p3, p4, p5, p6⟩ := pick_ok hS h0 (lotN x)
        have p6 : ((lushr ((x * (6364136223846793005 : Int64)) + (1442695040888963407 : Int64)) (33 : Int32)) - (lushr ((x * (6364136223846793005 : Int64)) + (1442695040888963407 : Int64)) (33 : Int32)) / ((nI (cb (a s) 12)).toInt64) * ((nI (cb (a s) 12)).toInt64)).toInt32 = nI c := p6
        rw [p6]
        have hsip : f_X0_signalInPlace F (a s) (nI c) u1 = some (nI y, u1) := by
          unfold f_X0_signalInPlace
          have := l_sip F (a s) p1 p2 p3 u1 y 0 F (by omega) (by omega)
          rw [show nI (cb (a s) 0) = 0 from rfl, show nI 0 = 0 from rfl] at this
          rw [this]
          rfl
        rw [hsip]
        simp only [Option.bind_some]
        rw [nI_clamp (by omega), if_neg (gin p1 (by decide)), if_neg (gin p1 (by decide)), xor_nI hs p1, nI_1]
        unfold rnF
        rw [if_neg h0, p5]
        have fw : Fr [21] u1 (wr u1 21 y (u1.1 21 y + 1)) := (Fr.rf _ u1).w (by decide)
        obtain ⟨c2, a2⟩ := g3.fr fw (by decide)
        obtain ⟨y2, z2, u2, k1, k2, k3, k4, k5⟩ := l_run F hF hn (a := a) d (i + 1) k (s ^^^ 2 ^ y) (lotN x) (wr u1 21 y (u1.1 21 y + 1)) (by omega) (by omega) (x2_lt hs p1) c2 (by rw [aF_eq (a2.trans g4)]; exact ha)
        rw [wr_u, e21] at k1 k2
        exact ⟨y2, z2, u2, by rw [show (x * (6364136223846793005 : Int64)) + (1442695040888963407 : Int64) = lotN x from rfl, e21]; exact k1, k2, k3, k4.trans (a2.trans g4), (g2.mono (by intro q hq; simp at hq ⊢; omega)).tr ((fw.mono (by intro q hq; simp at hq ⊢; omega)).tr k5)⟩
theorem l_mrun (F : Nat) (hF : 5000 ≤ F) {n : Nat} (hn : n ≤ 2000) {a : Nat → Int32} : ∀ (d i k s : Nat) (x : Int64) (u : St), i + d = n → d < k → s < 4096 → WfM u → aF u = a → ∃ w u', l_X12_runs_36 F (nI n) k (nI s) x (nI i) u = some w ∧ Sum.elim (fun r => some r) (fun v24 => some (v24.1, v24.2.2.2)) w = some (nI (rnF a d s x (u.1 65)).1, u') ∧ u'.1 65 = (rnF a d s x (u.1 65)).2 ∧ Fr [65] u u'
  | d, i, 0, _, _, _, _, hk, _, _, _ => absurd hk (by omega)
  | d, i, k + 1, s, x, u, hd, hk, hs, hw, ha => by
    show ∃ w u', b_X12_runs_36 F (nI n) (l_X12_runs_36 F (nI n) k) _ _ _ u = _ ∧ _
    unfold b_X12_runs_36
    cases d with
    | zero =>
      rw [if_pos (nI_le (by omega) (by omega))]
      exact ⟨_, u, rfl, rfl, rfl, Fr.rf _ _⟩
    | succ d =>
      rw [if_neg (nI_ge (by omega) (by omega)), p_M_asked F (by omega) _ _ hw]
      simp only [Option.bind_some]
      have hS := asM_S12 u (nI s)
      have hae : asM u (nI s) = a s := by rw [← ha]; rfl
      rw [hae] at hS ⊢
      by_cases h0 : a s = 0
      · rw [if_pos h0]
        unfold rnF
        rw [if_pos h0]
        exact ⟨_, u, rfl, rfl, rfl, Fr.rf _ _⟩
      · have hp : 0 < cb (a s) 12 := Nat.pos_of_ne_zero (fun e => h0 ((cb_0 hS).mp e))
        have hp2 := cb_le (a s) 12
        rw [if_neg h0, p_bc]
        simp only [Option.bind_some]
        rw [bc_eq hS, if_neg (toI64_ne hp hp2)]
        obtain ⟨y, c, p1, p2, p3, p4, p5, p6⟩ := pick_ok hS h0 (lotN x)
        have p6 : ((lushr ((x * (6364136223846793005 : Int64)) + (1442695040888963407 : Int64)) (33 : Int32)) - (lushr ((x * (6364136223846793005 : Int64)) + (1442695040888963407 : Int64)) (33 : Int32)) / ((nI (cb (a s) 12)).toInt64) * ((nI (cb (a s) 12)).toInt64)).toInt32 = nI c := p6
        rw [p6]
        have hsip := l_msip F (nI n) (nI s) ((x * (6364136223846793005 : Int64)) + (1442695040888963407 : Int64)) (nI i) (a s) p1 p2 p3 u y 0 F (by omega) (by omega)
        rw [show cb (a s) 0 = 0 from rfl, Nat.sub_zero, show nI 0 = 0 from rfl] at hsip
        rw [hsip]
        simp only [Option.bind_some]
        rw [nI_clamp (by omega), if_neg (gin p1 (by decide)), if_neg (gin p1 (by decide)), xor_nI hs p1, nI_1]
        unfold rnF
        rw [if_neg h0, p5]
        have fw : Fr [65] u (wr u 65 y (u.1 65 y + 1)) := (Fr.rf _ u).w (by decide)
        obtain ⟨w2, u2, k1, k2, k3, k4⟩ := l_mrun F hF hn (a := a) d (i + 1) k (s ^^^ 2 ^ y) (lotN x) (wr u 65 y (u.1 65 y + 1)) (by omega) (by omega) (x2_lt hs p1) (hw.fr (fw.2 52 (by decide))) (by rw [aF_eq (asM_congr (fw.2 52 (by decide)) (fw.2 53 (by decide)) (fw.2 54 (by decide)) (fw.2 58 (by decide)))]; exact ha)
        rw [wr_u] at k2 k3
        exact ⟨w2, u2, k1, k2, k3, fw.tr k4⟩
theorem l_mrun3 (F : Nat) (x1 : Int32) (x2 : Int64) : ∀ (d i k : Nat) (u : St), i + d = 12 → d < k → ∃ u', l_X12_runs_3 F x1 x2 k (nI i) u = some (nI 12, u') ∧ Fr [65] u u' ∧ (∀ n, n < i → u'.1 65 n = u.1 65 n) ∧ ∀ n, i ≤ n → n < 12 → u'.1 65 n = 0
  | d, i, 0, _, _, hk => absurd hk (by omega)
  | d, i, k + 1, u, hd, hk => by
    show ∃ u', b_X12_runs_3 F x1 x2 (l_X12_runs_3 F x1 x2 k) (nI i) u = _ ∧ _
    unfold b_X12_runs_3
    rw [show (12 : Int32) = nI 12 from rfl]
    by_cases h0 : i = 12
    · rw [if_pos (nI_le (by omega) (by omega)), h0]
      exact ⟨u, rfl, Fr.rf _ _, fun _ _ => rfl, fun n h1 h2 => by omega⟩
    · rw [if_neg (nI_ge (show i < 12 by omega) (by decide)), nI_clamp (by omega), if_neg (gin (show i < 12 by omega) (by decide)), nI_1]
      obtain ⟨u', g1, g2, g3, g4⟩ := l_mrun3 F x1 x2 (d - 1) (i + 1) k (wr u 65 i 0) (by omega) (by omega)
      refine ⟨u', g1, (((Fr.rf [65] u).w (by decide)).tr g2), fun n hn => ?_, fun n h1 h2 => ?_⟩
      · rw [g3 n (by omega), wr_nek _ (by omega)]
      · by_cases hni : n = i
        · subst hni
          rw [g3 n (by omega), wr_eq]
        · exact g4 n (by omega) h2
theorem rnF_ch (a : Nat → Int32) (hS : ∀ s, S12 (a s)) : ∀ (d s : Nat) (x : Int64) (c1 c2 : Nat → Int32), (∀ j, j < 12 → c1 j = c2 j) → (rnF a d s x c1).1 = (rnF a d s x c2).1 ∧ ∀ j, j < 12 → (rnF a d s x c1).2 j = (rnF a d s x c2).2 j
  | 0, _, _, _, _, h => ⟨rfl, h⟩
  | d + 1, s, x, c1, c2, h => by
    unfold rnF
    by_cases h0 : a s = 0
    · rw [if_pos h0, if_pos h0]
      exact ⟨rfl, h⟩
    · rw [if_neg h0, if_neg h0]
      obtain ⟨y, c, p1, p2, p3, p4, p5, p6⟩ := pick_ok (hS s) h0 (lotN x)
      rw [p5]
      refine rnF_ch a hS d _ _ _ _ (fun j hj => ?_)
      unfold upd
      rw [h y p1, h j hj]
theorem rnF_lt (a : Nat → Int32) (hS : ∀ s, S12 (a s)) : ∀ (d s : Nat) (x : Int64) (c1 : Nat → Int32), s < 4096 → (rnF a d s x c1).1 < 4096
  | 0, _, _, _, h => h
  | d + 1, s, x, c1, h => by
    unfold rnF
    by_cases h0 : a s = 0
    · rw [if_pos h0]; exact h
    · rw [if_neg h0]
      obtain ⟨y, c, p1, p2, p3, p4, p5, p6⟩ := pick_ok (hS s) h0 (lotN x)
      rw [p5]
      exact rnF_lt a hS d _ _ _ (x2_lt h p1)
/-- both sides' runs -/
theorem p_runs (F : Nat) (hF : 5000 ≤ F) {u : St} (h : CirI u) {n : Nat} (hn : n ≤ 2000) (x : Int64) : ∃ s u1, f_X0_runByLots F (nI n) x u = some (s, u1) ∧ CirI u1 ∧ Kp u u1 ∧ ∃ u2, f_X12_runs F (nI n) x (wr u1 50 0 0) = some (s, u2) ∧ CirI u2 ∧ Kp u u2 ∧ ∀ j, j < 12 → u1.1 21 j = u2.1 65 j := by
  obtain ⟨r, r1, r2, r3⟩ := h.2.1
  have ff : Fr [21] u (fil u 21 12 0) := ⟨rfl, fun q hq => by
    funext k
    have : q ≠ 21 := by simpa using hq
    simp [fil, this]⟩
  obtain ⟨c0, a0⟩ := h.1.fr ff (by decide)
  obtain ⟨y, z, u1, g1, g2, g3, g4, g5⟩ := l_run F hF hn (a := aF u) n 0 F r x (fil u 21 12 0) (by omega) (by omega) r1 c0 (aF_eq a0)
  rw [show nI 0 = 0 from rfl] at g1
  have f1 : Fr [5, 21] u u1 := (ff.mono (by intro q hq; simp at hq ⊢; omega)).tr g5
  have C1 : CirI u1 := h.c5 g3 (g4.trans a0) f1 (by decide) (by rw [f1.2 50 (by decide)])
  have k1 : Kp u u1 := Kp.of f1 (by decide) (fun k _ => by rw [f1.2 50 (by decide)])
  refine ⟨nI (rnF (aF u) n r x ((fil u 21 12 0).1 21)).1, u1, ?_, C1, k1, ?_⟩
  · unfold f_X0_runByLots
    rw [ff.2 4 (by decide), r2, g1]
    rfl
  · have fw : Fr [50] u1 (wr u1 50 0 0) := (Fr.rf _ u1).w (by decide)
    obtain ⟨C2, a2, l2⟩ := C1.fr fw (by decide) (wr_nek _ (by decide))
    have k2 : Kp u (wr u1 50 0 0) := k1.tr (Kp.of fw (by decide) (fun k hk => wr_nek _ (by rintro rfl; exact absurd hk (by decide))))
    obtain ⟨v, m1, m2, m3, m4⟩ := l_mrun3 F (nI n) x 12 0 F (wr u1 50 0 0) (by omega) (by omega)
    rw [show nI 0 = 0 from rfl] at m1
    have e9 : v.1 50 9 = nI r := by
      rw [m2.2 50 (by decide), wr_nek _ (by decide), f1.2 50 (by decide)]
      exact r3
    obtain ⟨C3, a3, l3⟩ := C2.fr m2 (by decide) (by rw [m2.2 50 (by decide)])
    have ha : aF v = aF u := aF_eq (a3.trans (a2.trans (g4.trans a0)))
    obtain ⟨w, u2, t1, t2, t3, t4⟩ := l_mrun F hF hn (a := aF u) n 0 F r x v (by omega) (by omega) r1 C3.1.2.1 ha
    rw [show nI 0 = 0 from rfl] at t1
    obtain ⟨C4, _, _⟩ := C3.fr t4 (by decide) (by rw [t4.2 50 (by decide)])
    have hch := rnF_ch (aF u) (fun s => asM_S12 u (nI s)) n r x ((fil u 21 12 0).1 21) (v.1 65) (fun j hj => by
      rw [m4 j (by omega) hj]
      simp [fil, hj])
    refine ⟨u2, ?_, C4, k2.tr ((Kp.of m2 (by decide) (fun k _ => by rw [m2.2 50 (by decide)])).tr (Kp.of t4 (by decide) (fun k _ => by rw [t4.2 50 (by decide)]))), ?_⟩
    · unfold f_X12_runs
      rw [m1]
      simp only [Option.bind_some]
      rw [e9, t1]
      simp only [Option.bind_some]
      rw [t2, hch.1]
    · intro j hj
      rw [g2, t3]
      exact hch.2 j hj
theorem rl_ix (x : Int32) : (x < 0 ∨ nI 2000 < x) ∨ ∃ j : Nat, j ≤ 2000 ∧ x = nI j := by
  rcases pk_ix x (n := 2001) (by decide) with h | h | ⟨j, h1, h2⟩
  · exact Or.inl (Or.inl h)
  · refine Or.inl (Or.inr ?_)
    have := Int32.le_iff_toInt_le.mp h
    rw [nI_toInt (by decide)] at this
    apply Int32.lt_iff_toInt_lt.mpr
    rw [nI_toInt (by decide)]
    omega
  · exact Or.inr ⟨j, by omega, h2⟩
theorem rl_in (F : Nat) {n : Nat} (h : n ≤ 2000) (u : St) : f_X11_isRunLength F (nI n) u = some (1, u) := by
  unfold f_X11_isRunLength
  rw [if_neg (nI_pos (by omega)), show (2000 : Int32) = nI 2000 from rfl, if_neg (nI_nlt h (by decide))]
theorem rl_out (F : Nat) {x : Int32} (h : x < 0 ∨ nI 2000 < x) (u : St) : f_X11_isRunLength F x u = some (0, u) := by
  unfold f_X11_isRunLength
  by_cases h0 : x < 0
  · rw [if_pos h0]
  · rw [if_neg h0, show (2000 : Int32) = nI 2000 from rfl, if_pos (h.resolve_left h0)]
theorem mrl_in (F : Nat) {n : Nat} (h : n ≤ 2000) (u : St) : f_X12_isIn F (nI n) 0 2000 u = some (1, u) := by
  unfold f_X12_isIn
  rw [if_neg (nI_pos (by omega)), show (2000 : Int32) = nI 2000 from rfl, if_neg (nI_nlt h (by decide))]
theorem mrl_out (F : Nat) {x : Int32} (h : x < 0 ∨ nI 2000 < x) (u : St) : f_X12_isIn F x 0 2000 u = some (0, u) := by
  unfold f_X12_isIn
  by_cases h0 : x < 0
  · rw [if_pos h0]
  · rw [if_neg h0, show (2000 : Int32) = nI 2000 from rfl, if_pos (h.resolve_left h0)]
theorem CirI.w0 {u : St} (h : CirI u) : CirI (wr u 50 0 0) ∧ Kp u (wr u 50 0 0) ∧ asM (wr u 50 0 0) = asM u ∧ LL (wr u 50 0 0) = LL u := by
  have fw : Fr [50] u (wr u 50 0 0) := (Fr.rf _ u).w (by decide)
  obtain ⟨C2, a2, l2⟩ := h.fr fw (by decide) (wr_nek _ (by decide))
  exact ⟨C2, Kp.of fw (by decide) (fun k hk => wr_nek _ (by rintro rfl; exact absurd hk (by decide))), a2, l2⟩
/-- promise 18 -/
theorem op_run (F : Nat) (hF : 5000 ≤ F) {u : St} (h : CirI u) (x : Int32) (s : Int64) : ∃ r u1 u2, f_X11_run F x s u = some (r, u1) ∧ f_X12_run F x s u1 = some (r, u2) ∧ CirI u2 ∧ Kp u u2 := by
  unfold f_X11_run f_X12_run
  rcases rl_ix x with hx | ⟨n, hn, rfl⟩
  · refine ⟨-1, u, wr u 50 0 0, ?_, ?_, h.w0.1, h.w0.2.1⟩
    · rw [rl_out F hx]; rfl
    · rw [mrl_out F hx]; rfl
  · obtain ⟨r, u1, g1, g2, g3, u2, g4, g5, g6, g7⟩ := p_runs F hF h hn s
    refine ⟨r, u1, u2, ?_, ?_, g5, g6⟩
    · rw [rl_in F hn]
      simp only [Option.bind_some]
      rw [if_neg (by decide), g1]
      simp only [Option.bind_some]
    · rw [mrl_in F hn]
      simp only [Option.bind_some]
      rw [if_neg (by decide), g4]
      simp only [Option.bind_some]
/-- promise 19 -/
theorem op_changed (F : Nat) (hF : 5000 ≤ F) {u : St} (h : CirI u) (x : Int32) (s : Int64) (y : Int32) : ∃ r u1 u2, f_X11_changed F x s y u = some (r, u1) ∧ f_X12_changed F x s y u1 = some (r, u2) ∧ CirI u2 ∧ Kp u u2 := by
  unfold f_X11_changed f_X12_changed
  rcases rl_ix x with hx | ⟨n, hn, rfl⟩
  · refine ⟨-1, u, wr u 50 0 0, ?_, ?_, h.w0.1, h.w0.2.1⟩
    · rw [rl_out F hx]; rfl
    · rw [mrl_out F hx]; rfl
  · rcases ix12 y with hy | ⟨j, hj, rfl⟩
    · refine ⟨-1, u, wr u 50 0 0, ?_, ?_, h.w0.1, h.w0.2.1⟩
      · rw [rl_in F hn]
        simp only [Option.bind_some]
        rw [if_neg (by decide), sg_out F hy]; rfl
      · rw [mrl_in F hn]
        simp only [Option.bind_some]
        rw [if_neg (by decide), msg_out F hy]; rfl
    · obtain ⟨r, u1, g1, g2, g3, u2, g4, g5, g6, g7⟩ := p_runs F hF h hn s
      refine ⟨u1.1 21 j, u1, u2, ?_, ?_, g5, g6⟩
      · rw [rl_in F hn]
        simp only [Option.bind_some]
        rw [if_neg (by decide), sg_in F hj]
        simp only [Option.bind_some]
        rw [if_neg (by decide), g1]
        simp only [Option.bind_some]
        rw [nI_clamp (by omega), if_neg (gin hj (by decide))]
      · rw [mrl_in F hn]
        simp only [Option.bind_some]
        rw [if_neg (by decide), msg_in F hj]
        simp only [Option.bind_some]
        rw [if_neg (by decide), g4]
        simp only [Option.bind_some]
        rw [nI_clamp (by omega), if_neg (gin hj (by decide)), g7 j hj]
