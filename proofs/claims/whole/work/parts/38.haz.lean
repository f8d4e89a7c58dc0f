/-! hazards: how they are counted -/
theorem cn_le (P : Nat → Bool) : ∀ x, cn P x ≤ x
  | 0 => Nat.le_refl _
  | x + 1 => by
    have := cn_le P x
    unfold cn
    split <;> omega
theorem cn_mono (P : Nat → Bool) (x : Nat) : ∀ d, cn P x ≤ cn P (x + d)
  | 0 => Nat.le_refl _
  | d + 1 => by
    have := cn_mono P x d
    show cn P x ≤ cn P (x + d) + _
    omega
theorem cn_step {P : Nat → Bool} {x : Nat} (h : P x = true) {y : Nat} (hy : x < y) : cn P x + 1 ≤ cn P y := by
  have h1 := cn_mono P (x + 1) (y - (x + 1))
  rw [show x + 1 + (y - (x + 1)) = y by omega] at h1
  have h2 : cn P (x + 1) = cn P x + (if P x then 1 else 0) := rfl
  rw [h] at h2
  simp at h2
  omega
theorem cn_ex {P : Nat → Bool} {c : Nat} : ∀ n, c < cn P n → ∃ x, x < n ∧ P x = true ∧ cn P x = c
  | 0, h => absurd h (by simp [cn])
  | n + 1, h => by
    by_cases h1 : c < cn P n
    · obtain ⟨x, g1, g2, g3⟩ := cn_ex n h1
      exact ⟨x, by omega, g2, g3⟩
    · have h2 : cn P (n + 1) = cn P n + (if P n then 1 else 0) := rfl
      cases hb : P n with
      | false => rw [hb] at h2; simp at h2; omega
      | true =>
        rw [hb] at h2
        simp at h2
        exact ⟨n, by omega, hb, by omega⟩
theorem cn_congr {P Q : Nat → Bool} : ∀ n, (∀ x, x < n → P x = Q x) → cn P n = cn Q n
  | 0, _ => rfl
  | n + 1, h => by
    show cn P n + _ = cn Q n + _
    rw [cn_congr n (fun x hx => h x (by omega)), h n (by omega)]
theorem cn_add (P : Nat → Bool) (m : Nat) : ∀ n, cn P (m + n) = cn P m + cn (fun i => P (m + i)) n
  | 0 => rfl
  | n + 1 => by
    show cn P (m + n) + _ = cn P m + (cn (fun i => P (m + i)) n + _)
    rw [cn_add P m n]
    exact Nat.add_assoc _ _ _
theorem cb_cn (v : Int32) : ∀ n, cb v n = cn (bt v) n
  | 0 => rfl
  | n + 1 => by
    show cb v n + _ = cn (bt v) n + _
    rw [cb_cn v n]
def sm (f : Nat → Nat) : Nat → Nat
  | 0 => 0
  | n + 1 => sm f n + f n
theorem sm_congr {f g : Nat → Nat} : ∀ n, (∀ x, x < n → f x = g x) → sm f n = sm g n
  | 0, _ => rfl
  | n + 1, h => by
    show sm f n + f n = sm g n + g n
    rw [sm_congr n (fun x hx => h x (by omega)), h n (by omega)]
theorem sm_add (f g : Nat → Nat) : ∀ n, sm (fun i => f i + g i) n = sm f n + sm g n
  | 0 => rfl
  | n + 1 => by
    show sm (fun i => f i + g i) n + (f n + g n) = sm f n + f n + (sm g n + g n)
    rw [sm_add f g n]
    omega
theorem sm_zero : ∀ n, sm (fun _ => 0) n = 0
  | 0 => rfl
  | n + 1 => by
    show sm (fun _ => 0) n + 0 = 0
    rw [sm_zero n]
/-- counting by rows is counting by columns -/
theorem sm_swap (g : Nat → Nat → Bool) (n : Nat) : ∀ m, sm (fun y => cn (fun x => g x y) n) m = sm (fun x => cn (fun y => g x y) m) n
  | 0 => by
    show 0 = sm (fun x => 0) n
    rw [sm_zero]
  | m + 1 => by
    show sm (fun y => cn (fun x => g x y) n) m + cn (fun x => g x m) n = sm (fun x => cn (fun y => g x y) m + (if g x m then 1 else 0)) n
    rw [sm_add, sm_swap g n m]
    congr 1
    have : ∀ k, cn (fun x => g x m) k = sm (fun x => if g x m then 1 else 0) k := by
      intro k
      induction k with
      | zero => rfl
      | succ k ih =>
        show cn (fun x => g x m) k + _ = sm _ k + _
        rw [ih]
    exact this n
theorem cn_rows (P : Nat → Bool) : ∀ x, cn P (12 * x) = sm (fun x => cn (fun y => P (12 * x + y)) 12) x
  | 0 => rfl
  | x + 1 => by
    rw [show 12 * (x + 1) = 12 * x + 12 by omega, cn_add, cn_rows P x]
    rfl
theorem hzQ_at (a : Nat → Int32) (pb : Nat → Nat → Bool) (s : Nat) {x y : Nat} (hy : y < 12) : hzQ a pb s (12 * x + y) = hzP a pb s x y := by
  unfold hzQ
  rw [show (12 * x + y) / 12 = x by omega, show (12 * x + y) % 12 = y by omega]
/-- the changes that y's would take back -/
theorem p_tb (F : Nat) (hF : 200 ≤ F) {u : St} (hc : CirK u) (hp : PtK u) {s y : Nat} (hs : s < 4096) (hy : y < 12) (hb : bt (asM u (nI s)) y = true) : ∃ v u', f_X0_takenBackBy F (nI y) (nI s) u = some (v, u') ∧ (∀ x, x < 12 → bt v x = hzP (aF u) (pbF u) s x y) ∧ S12 v ∧ CirK u' ∧ asM u' = asM u ∧ Fr [5] u u' := by
  obtain ⟨u1, g1, g2, g3, g4⟩ := p_asked F hF hs u hc
  have hs2 := x2_lt hs hy
  obtain ⟨u2, k1, k2, k3, k4⟩ := p_asked F hF hs2 u1 g3
  unfold f_X0_takenBackBy
  rw [g1]
  simp only [Option.bind_some]
  rw [nI_clamp (by omega), if_neg (gin hy (by decide)), xor_nI hs hy, k1]
  simp only [Option.bind_some]
  refine ⟨_, u2, rfl, ?_, ?_, k3, k4.trans g4, g2.tr k2⟩
  · intro x hx
    rw [bt_and, bt_and, bt_and, bt_not _ (by omega), bt_not _ (by omega), bt_not _ (by omega), bt_shl1 (by omega), g2.2 6 (by decide), (hp y x hy hx).1, (hp y x hy hx).2, g4]
    unfold hzP aF
    rw [hb]
    by_cases e : x = y
    · subst e; simp
    · simp [e, Bool.and_assoc]
  · intro j hj
    rw [bt_and, bt_and, bt_and, asM_S12 u (nI s) j hj]
    simp
/-- how many there are in a state: by columns -/
theorem l_hzIn (F : Nat) (hF : 200 ≤ F) {a : Nat → Int32} {pb : Nat → Nat → Bool} {s : Nat} (hs : s < 4096) : ∀ (d y k : Nat) (u : St), y + d = 12 → d < k → CirK u → PtK u → aF u = a → pbF u = pb → ∃ u', l_X2_hazardsIn_14 F (nI s) (a s) k (nI (sm (fun y => cn (fun x => hzP a pb s x y) 12) y)) (nI y) u = some (nI (sm (fun y => cn (fun x => hzP a pb s x y) 12) 12), nI 12, u') ∧ CirK u' ∧ asM u' = asM u ∧ Fr [5] u u'
  | d, y, 0, _, _, hk, _, _, _, _ => absurd hk (by omega)
  | d, y, k + 1, u, hd, hk, hc, hp, ha, hb => by
    show ∃ u', b_X2_hazardsIn_14 F (nI s) (a s) (l_X2_hazardsIn_14 F (nI s) (a s) k) _ _ u = _ ∧ _
    unfold b_X2_hazardsIn_14
    rw [show (12 : Int32) = nI 12 from rfl]
    by_cases h0 : d = 0
    · rw [if_pos (nI_le (by omega) (by omega)), show y = 12 by omega]
      exact ⟨u, rfl, hc, rfl, Fr.rf _ _⟩
    · have hy : y < 12 := by omega
      rw [if_neg (nI_ge hy (by decide)), p_isIn F _ (by omega)]
      simp only [Option.bind_some, nI_1]
      have hae : asM u (nI s) = a s := by rw [← ha]; rfl
      have step : sm (fun y => cn (fun x => hzP a pb s x y) 12) (y + 1) = sm (fun y => cn (fun x => hzP a pb s x y) 12) y + cn (fun x => hzP a pb s x y) 12 := rfl
      cases hbt : bt (a s) y with
      | false =>
        rw [if_pos (by simp [b2i])]
        have hz : cn (fun x => hzP a pb s x y) 12 = 0 := by
          rw [cn_congr (Q := fun _ => false) 12 (fun x _ => by unfold hzP; rw [hbt]; simp)]
          rfl
        rw [hz, Nat.add_zero] at step
        have := l_hzIn F hF hs (a := a) (pb := pb) (d - 1) (y + 1) k u (by omega) (by omega) hc hp ha hb
        rw [step] at this
        exact this
      | true =>
        rw [if_neg (by simp [b2i])]
        obtain ⟨v, u1, g1, g2, g3, g4, g5, g6⟩ := p_tb F hF hc hp hs hy (by rw [hae]; exact hbt)
        rw [ha, hb] at g2
        rw [g1]
        simp only [Option.bind_some]
        rw [p_bc]
        simp only [Option.bind_some]
        rw [bc_eq g3, cb_cn, cn_congr 12 g2, nI_add, ← step]
        have e6 : u1.1 6 = u.1 6 := g6.2 6 (by decide)
        have e59 : u1.1 59 = u.1 59 := g6.2 59 (by decide)
        have hpb : pbF u1 = pbF u := by unfold pbF; rw [e59]
        obtain ⟨u2, k1, k2, k3, k4⟩ := l_hzIn F hF hs (a := a) (pb := pb) (d - 1) (y + 1) k u1 (by omega) (by omega) g4 (by unfold PtK; rw [hpb, e6]; exact hp) (by rw [aF_eq g5]; exact ha) (by rw [hpb]; exact hb)
        exact ⟨u2, k1, k2, k3.trans g5, g6.tr k4⟩
theorem p_hzIn (F : Nat) (hF : 200 ≤ F) {a : Nat → Int32} {pb : Nat → Nat → Bool} {s : Nat} (hs : s < 4096) {u : St} (hc : CirK u) (hp : PtK u) (ha : aF u = a) (hb : pbF u = pb) : ∃ u', f_X2_hazardsIn F (nI s) u = some (nI (cn (hzQ a pb s) 144), u') ∧ CirK u' ∧ asM u' = asM u ∧ Fr [5] u u' := by
  obtain ⟨u1, g1, g2, g3, g4⟩ := p_asked F hF hs u hc
  have hae : asM u (nI s) = a s := by rw [← ha]; rfl
  have hpb : pbF u1 = pbF u := by unfold pbF; rw [g2.2 59 (by decide)]
  obtain ⟨u2, k1, k2, k3, k4⟩ := l_hzIn F hF hs (a := a) (pb := pb) 12 0 F u1 (by omega) (by omega) g3 (by unfold PtK; rw [hpb, g2.2 6 (by decide)]; exact hp) (by rw [aF_eq g4]; exact ha) (by rw [hpb]; exact hb)
  refine ⟨u2, ?_, k2, k3.trans g4, g2.tr k4⟩
  unfold f_X2_hazardsIn
  rw [g1]
  simp only [Option.bind_some]
  rw [hae]
  rw [show nI (sm (fun y => cn (fun x => hzP a pb s x y) 12) 0) = 0 from rfl, show nI 0 = 0 from rfl] at k1
  rw [k1]
  simp only [Option.bind_some]
  have : sm (fun y => cn (fun x => hzP a pb s x y) 12) 12 = cn (hzQ a pb s) 144 := by
    rw [sm_swap, show (144 : Nat) = 12 * 12 from rfl, cn_rows]
    exact sm_congr 12 (fun x _ => cn_congr 12 (fun y hy => (hzQ_at a pb s hy).symm))
  rw [this]
theorem cum_le (a : Nat → Int32) (pb : Nat → Nat → Bool) (L : WL) : ∀ i, cum a pb L i ≤ 144 * i
  | 0 => Nat.le_refl _
  | i + 1 => by
    have := cum_le a pb L i
    unfold cum
    cases L[i]? with
    | none => simp only; omega
    | some e =>
      have := cn_le (hzQ a pb e.1) 144
      simp only
      omega
theorem cum_s {a : Nat → Int32} {pb : Nat → Nat → Bool} {L : WL} {i : Nat} {e : Nat × Nat} (h : L[i]? = some e) : cum a pb L (i + 1) = cum a pb L i + cn (hzQ a pb e.1) 144 := by
  show cum a pb L i + _ = _
  rw [h]
theorem cum_mono (a : Nat → Int32) (pb : Nat → Nat → Bool) (L : WL) (i : Nat) : ∀ d, cum a pb L i ≤ cum a pb L (i + d)
  | 0 => Nat.le_refl _
  | d + 1 => by
    have := cum_mono a pb L i d
    show cum a pb L i ≤ cum a pb L (i + d) + _
    omega
theorem p_stateAt (F : Nat) {L : WL} (hG : GL L) {u : St} (hW : WC L u) {i : Nat} {e : Nat × Nat} (he : L[i]? = some e) : f_X10_stateAt F (nI i) u = some (nI e.1, u) := by
  have hi := (List.getElem?_eq_some_iff.mp he).1
  have hl := hG.len
  unfold f_X10_stateAt
  rw [if_neg (nI_pos (by omega)), hW.1, if_neg (nI_ge hi (by omega)), nI_clamp (by omega), if_neg (gin (by omega) (by decide)), (hW.2.1 i e.1 e.2 he).1]
theorem l_hzRen (F : Nat) (hF : 5000 ≤ F) {a : Nat → Int32} {pb : Nat → Nat → Bool} {L : WL} (hG : GL L) : ∀ (d i k : Nat) (u : St), i + d = L.length → d < k → CirK u → PtK u → aF u = a → pbF u = pb → WC L u → u.1 16 3 = nI (cum a pb L i) → ∃ u', l_X2_renew_15 F k (nI i) u = some (nI L.length, u') ∧ CirK u' ∧ asM u' = asM u ∧ Fr [5, 16, 17] u u' ∧ u'.1 16 3 = nI (cum a pb L L.length) ∧ u'.1 16 4 = u.1 16 4 ∧ (∀ j, j < i → u'.1 17 j = u.1 17 j) ∧ ∀ j, i ≤ j → j < L.length → u'.1 17 j = nI (cum a pb L (j + 1))
  | d, i, 0, _, _, hk, _, _, _, _, _, _ => absurd hk (by omega)
  | d, i, k + 1, u, hd, hk, hc, hp, ha, hb, hW, h3 => by
    have hl := hG.len
    show ∃ u', b_X2_renew_15 F (l_X2_renew_15 F k) _ u = _ ∧ _
    unfold b_X2_renew_15
    rw [show f_X10_size F u = some (u.1 11 5, u) from rfl]
    simp only [Option.bind_some]
    rw [hW.1]
    by_cases h0 : d = 0
    · have : i = L.length := by omega
      subst this
      rw [if_pos (nI_le (Nat.le_refl _) (by omega))]
      exact ⟨u, rfl, hc, rfl, Fr.rf _ _, h3, rfl, fun _ _ => rfl, fun j h1 h2 => by omega⟩
    · obtain ⟨e, he⟩ : ∃ e, L[i]? = some e := ⟨_, List.getElem?_eq_getElem (show i < L.length by omega)⟩
      have hes := (hG.2 e (List.mem_of_getElem? he)).1
      rw [if_neg (nI_ge (by omega) (by omega)), show (4096 : Int32) = nI 4096 from rfl, if_neg (nI_ge (show i < 4096 by omega) (by decide)), p_stateAt F hG hW he]
      simp only [Option.bind_some]
      obtain ⟨u1, g1, g2, g3, g4⟩ := p_hzIn F (by omega) hes hc hp ha hb
      rw [g1]
      simp only [Option.bind_some]
      rw [nI_clamp (by omega), if_neg (gin (show i < 4096 by omega) (by decide)), h3, nI_add, ← cum_s he, wr_eq, nI_1]
      have fw : Fr [16, 17] u1 (wr (wr u1 16 3 (nI (cum a pb L (i + 1)))) 17 i (nI (cum a pb L (i + 1)))) := ((Fr.rf _ u1).w (by decide)).w (by decide)
      obtain ⟨c2, a2⟩ := g2.fr fw (by decide)
      have f0 : Fr [5, 16, 17] u (wr (wr u1 16 3 (nI (cum a pb L (i + 1)))) 17 i (nI (cum a pb L (i + 1)))) := (g4.mono (by intro q hq; simp at hq ⊢; omega)).tr (fw.mono (by intro q hq; simp at hq ⊢; omega))
      have hpb : pbF (wr (wr u1 16 3 (nI (cum a pb L (i + 1)))) 17 i (nI (cum a pb L (i + 1)))) = pbF u := by unfold pbF; rw [f0.2 59 (by decide)]
      obtain ⟨u2, k1, k2, k3, k4, k5, k6, k7, k8⟩ := l_hzRen F hF (a := a) (pb := pb) hG (d - 1) (i + 1) k (wr (wr u1 16 3 (nI (cum a pb L (i + 1)))) 17 i (nI (cum a pb L (i + 1)))) (by omega) (by omega) c2 (by unfold PtK; rw [hpb, f0.2 6 (by decide)]; exact hp) (by rw [aF_eq (a2.trans g3)]; exact ha) (by rw [hpb]; exact hb) (hW.congr (by rw [f0.2 11 (by decide)]) (f0.2 12 (by decide)) (f0.2 13 (by decide)) (f0.2 14 (by decide))) (by rw [wr_ne _ (by decide), wr_eq])
      refine ⟨u2, k1, k2, k3.trans (a2.trans g3), f0.tr k4, k5, ?_, fun j hj => ?_, fun j h1 h2 => ?_⟩
      · rw [k6, wr_ne _ (by decide), wr_nek _ (by decide), g4.2 16 (by decide)]
      · rw [k7 j (by omega), wr_nek _ (by omega), wr_ne _ (by decide), g4.2 17 (by decide)]
      · by_cases hji : j = i
        · subst hji
          rw [k7 j (by omega), wr_eq]
        · exact k8 j (by omega) h2
/-- the hazards are counted -/
theorem p_hzRen (F : Nat) (hF : 5000 ≤ F) {u : St} (h : CirI u) (h7 : u.1 11 7 = 1) (hW : WC (LL u) u) : ∃ u', f_X2_renew F u = some u' ∧ CirI u' ∧ aF u' = aF u ∧ LL u' = LL u ∧ pbF u' = pbF u ∧ u'.1 11 7 = 1 ∧ WC (LL u) u' ∧ u'.1 16 3 = nI (cum (aF u) (pbF u) (LL u) (LL u).length) ∧ (∀ i, i < (LL u).length → u'.1 17 i = nI (cum (aF u) (pbF u) (LL u) (i + 1))) ∧ Fr [5, 16, 17] u u' := by
  have hl := h.gl.len
  obtain ⟨h1, h2, h3, h4, h5, h6, h8⟩ := id h
  unfold f_X2_renew
  by_cases h0 : u.1 16 4 = 0
  · rw [if_pos h0]
    have fw : Fr [16] u (wr u 16 3 0) := (Fr.rf _ u).w (by decide)
    obtain ⟨c1, a1⟩ := h1.fr fw (by decide)
    have hpb : pbF (wr u 16 3 0) = pbF u := by unfold pbF; rw [fw.2 59 (by decide)]
    obtain ⟨u1, k1, k2, k3, k4, k5, k6, k7, k8⟩ := l_hzRen F hF (a := aF u) (pb := pbF u) h.gl (LL u).length 0 F (wr u 16 3 0) (by omega) (by omega) c1 (by unfold PtK; rw [hpb, fw.2 6 (by decide)]; exact h6) (aF_eq a1) hpb (hW.congr (by rw [fw.2 11 (by decide)]) (fw.2 12 (by decide)) (fw.2 13 (by decide)) (fw.2 14 (by decide))) (wr_eq _)
    rw [show nI 0 = 0 from rfl] at k1
    rw [k1]
    simp only [Option.bind_some]
    have f2 : Fr [16] u1 (wr u1 16 4 1) := (Fr.rf _ u1).w (by decide)
    have f3 : Fr [5, 16, 17] u (wr u1 16 4 1) := ((fw.mono (by intro q hq; simp at hq ⊢; omega)).tr k4).tr (f2.mono (by intro q hq; simp at hq ⊢; omega))
    obtain ⟨c3, a3⟩ := k2.fr f2 (by decide)
    have ha : aF (wr u1 16 4 1) = aF u := aF_eq (a3.trans (k3.trans a1))
    have e4 : (wr u1 16 4 1).1 4 = u.1 4 := f3.2 4 (by decide)
    have hL : LL (wr u1 16 4 1) = LL u := by unfold LL rsN; rw [ha, e4]
    have hp3 : pbF (wr u1 16 4 1) = pbF u := by unfold pbF; rw [f3.2 59 (by decide)]
    have e3 : (wr u1 16 4 1).1 16 3 = nI (cum (aF u) (pbF u) (LL u) (LL u).length) := by rw [wr_nek _ (by decide)]; exact k5
    have e17 : ∀ i, i < (LL u).length → (wr u1 16 4 1).1 17 i = nI (cum (aF u) (pbF u) (LL u) (i + 1)) := fun i hi => by rw [wr_ne _ (by decide)]; exact k8 i (by omega) hi
    have e11 : (wr u1 16 4 1).1 11 = u.1 11 := f3.2 11 (by decide)
    refine ⟨_, rfl, ⟨c3, ?_, ?_, ?_, ?_, ?_, ?_⟩, ha, hL, hp3, by rw [e11]; exact h7, hW.congr (by rw [e11]) (f3.2 12 (by decide)) (f3.2 13 (by decide)) (f3.2 14 (by decide)), e3, e17, f3⟩
    · obtain ⟨r, r1, r2, r3⟩ := h2
      exact ⟨r, r1, by rw [e4]; exact r2, by rw [f3.2 50 (by decide)]; exact r3⟩
    · rcases h3 with q | ⟨q1, q2, q3⟩
      · exact Or.inl (by rw [e11]; exact q)
      · refine Or.inr ⟨by rw [e11]; exact q1, ?_, ?_⟩
        · rw [ha, e4]
          exact q2.congr (by rw [e11]) (f3.2 12 (by decide)) (f3.2 13 (by decide)) (f3.2 14 (by decide))
        · rw [ha, e4]
          exact q3.congr (by rw [e11]) (f3.2 15 (by decide))
    · refine Or.inr ⟨wr_eq _, by rw [e11]; exact h7, ?_, ?_⟩
      · rw [ha, hL, hp3]; exact e3
      · rw [ha, hL, hp3]; exact e17
    · unfold LvK
      rw [ha, hL, f3.2 18 (by decide), f3.2 19 (by decide)]
      exact h5
    · unfold PtK
      rw [hp3, f3.2 6 (by decide)]
      exact h6
    · unfold DrK txt
      rw [f3.2 0 (by decide), e4]
      exact h8
  · rw [if_neg h0]
    rcases h4 with q | ⟨q1, q2, q3, q4⟩
    · exact absurd q h0
    · exact ⟨u, rfl, h, rfl, rfl, rfl, h7, hW, q3, q4, Fr.rf _ _⟩
