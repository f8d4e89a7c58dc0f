/-! hazards: one by its number -/
theorem PtK.fr {u v : St} (h : PtK u) (h6 : v.1 6 = u.1 6) (h59 : v.1 59 = u.1 59) : PtK v ∧ pbF v = pbF u := by
  have e : pbF v = pbF u := by unfold pbF; rw [h59]
  exact ⟨by unfold PtK; rw [e, h6]; exact h, e⟩
theorem l_sig26 (F : Nat) (hF : 200 ≤ F) {a : Nat → Int32} {pb : Nat → Nat → Bool} {s : Nat} (hs : s < 4096) (x2 x3 : Int32) {x : Nat} (hx : x < 12) : ∀ (d y k : Nat) (u : St), y + d = 12 → d < k → CirK u → PtK u → aF u = a → pbF u = pb → ∃ w u', l_X2_signalOf_26 F (nI s) x2 x3 (a s) (nI x) k (nI (cn (hzQ a pb s) (12 * x + y))) (nI y) u = some w ∧ CirK u' ∧ asM u' = asM u ∧ Fr [5] u u' ∧ ((∃ t, 12 * x + y ≤ t ∧ t < 12 * x + 12 ∧ hzQ a pb s t = true ∧ nI (cn (hzQ a pb s) t) = x2 ∧ w = .inl (if x3 = 1 then nI (t / 12) else nI (t % 12), u')) ∨ (w = .inr (nI (cn (hzQ a pb s) (12 * x + 12)), nI 12, u') ∧ ∀ t, 12 * x + y ≤ t → t < 12 * x + 12 → ¬ (hzQ a pb s t = true ∧ nI (cn (hzQ a pb s) t) = x2)))
  | d, y, 0, _, _, hk, _, _, _, _ => absurd hk (by omega)
  | d, y, k + 1, u, hd, hk, hc, hp, ha, hb => by
    show ∃ w u', b_X2_signalOf_26 F (nI s) x2 x3 (a s) (nI x) (l_X2_signalOf_26 F (nI s) x2 x3 (a s) (nI x) k) _ _ u = _ ∧ _
    unfold b_X2_signalOf_26
    rw [show (12 : Int32) = nI 12 from rfl]
    by_cases h0 : d = 0
    · rw [if_pos (nI_le (by omega) (by omega)), show y = 12 by omega]
      exact ⟨_, u, rfl, hc, rfl, Fr.rf _ _, Or.inr ⟨rfl, fun t h1 h2 => by omega⟩⟩
    · have hy : y < 12 := by omega
      rw [if_neg (nI_ge hy (by decide)), p_isIn F _ (by omega)]
      simp only [Option.bind_some, nI_1]
      have hae : asM u (nI s) = a s := by rw [← ha]; rfl
      have step : cn (hzQ a pb s) (12 * x + (y + 1)) = cn (hzQ a pb s) (12 * x + y) + (if hzQ a pb s (12 * x + y) then 1 else 0) := rfl
      have hQ := hzQ_at a pb s (x := x) hy
      have next : ∀ u1 : St, CirK u1 → asM u1 = asM u → Fr [5] u u1 → hzQ a pb s (12 * x + y) = false → ∃ w u', l_X2_signalOf_26 F (nI s) x2 x3 (a s) (nI x) k (nI (cn (hzQ a pb s) (12 * x + y))) (nI (y + 1)) u1 = some w ∧ CirK u' ∧ asM u' = asM u ∧ Fr [5] u u' ∧ ((∃ t, 12 * x + y ≤ t ∧ t < 12 * x + 12 ∧ hzQ a pb s t = true ∧ nI (cn (hzQ a pb s) t) = x2 ∧ w = .inl (if x3 = 1 then nI (t / 12) else nI (t % 12), u')) ∨ (w = .inr (nI (cn (hzQ a pb s) (12 * x + 12)), nI 12, u') ∧ ∀ t, 12 * x + y ≤ t → t < 12 * x + 12 → ¬ (hzQ a pb s t = true ∧ nI (cn (hzQ a pb s) t) = x2))) := by
        intro u1 c1 a1 f1 hq
        obtain ⟨p1, p2⟩ := hp.fr (f1.2 6 (by decide)) (f1.2 59 (by decide))
        obtain ⟨w, u2, k1, k2, k3, k4, k5⟩ := l_sig26 F hF (a := a) (pb := pb) hs x2 x3 hx (d - 1) (y + 1) k u1 (by omega) (by omega) c1 p1 (by rw [aF_eq a1]; exact ha) (by rw [p2]; exact hb)
        rw [step, hq] at k1
        refine ⟨w, u2, by simpa using k1, k2, k3.trans a1, f1.tr k4, ?_⟩
        rcases k5 with ⟨t, q1, q2, q3⟩ | ⟨q1, q2⟩
        · exact Or.inl ⟨t, by omega, q2, q3⟩
        · refine Or.inr ⟨q1, fun t h1 h2 => ?_⟩
          by_cases ht : t = 12 * x + y
          · subst ht
            rw [hq]
            rintro ⟨q, -⟩
            cases q
          · exact q2 t (by omega) h2
      cases hbt : bt (a s) y with
      | false =>
        rw [if_pos (by simp [b2i])]
        exact next u hc rfl (Fr.rf _ _) (by rw [hQ]; unfold hzP; rw [hbt]; simp)
      | true =>
        rw [if_neg (by simp [b2i])]
        obtain ⟨v, u1, g1, g2, g3, g4, g5, g6⟩ := p_tb F hF hc hp hs hy (by rw [hae]; exact hbt)
        rw [ha, hb] at g2
        rw [g1]
        simp only [Option.bind_some]
        rw [p_isIn F _ (by omega)]
        simp only [Option.bind_some]
        rw [g2 x hx, ← hQ]
        cases hq : hzQ a pb s (12 * x + y) with
        | false =>
          rw [if_pos (by simp [b2i])]
          exact next u1 g4 g5 g6 hq
        | true =>
          rw [if_neg (by simp [b2i])]
          by_cases he : nI (cn (hzQ a pb s) (12 * x + y)) = x2
          · rw [if_pos he]
            have hv : (if x3 = (1 : Int32) then (some (Sum.inl (nI x, u1)) : Option ((Int32 × St) ⊕ (Int32 × Int32 × St))) else some (Sum.inl (nI y, u1))) = some (Sum.inl (if x3 = 1 then nI ((12 * x + y) / 12) else nI ((12 * x + y) % 12), u1)) := by
              rw [show (12 * x + y) / 12 = x by omega, show (12 * x + y) % 12 = y by omega]
              by_cases h1 : x3 = 1
              · rw [if_pos h1, if_pos h1]
              · rw [if_neg h1, if_neg h1]
            exact ⟨_, u1, hv, g4, g5, g6, Or.inl ⟨12 * x + y, Nat.le_refl _, by omega, hq, he, rfl⟩⟩
          · rw [if_neg he]
            obtain ⟨p1, p2⟩ := hp.fr (g6.2 6 (by decide)) (g6.2 59 (by decide))
            obtain ⟨w, u2, k1, k2, k3, k4, k5⟩ := l_sig26 F hF (a := a) (pb := pb) hs x2 x3 hx (d - 1) (y + 1) k u1 (by omega) (by omega) g4 p1 (by rw [aF_eq g5]; exact ha) (by rw [p2]; exact hb)
            rw [step, hq] at k1
            refine ⟨w, u2, by simpa using k1, k2, k3.trans g5, g6.tr k4, ?_⟩
            rcases k5 with ⟨t, q1, q2, q3⟩ | ⟨q1, q2⟩
            · exact Or.inl ⟨t, by omega, q2, q3⟩
            · refine Or.inr ⟨q1, fun t h1 h2 => ?_⟩
              by_cases ht : t = 12 * x + y
              · subst ht
                exact fun q => he q.2
              · exact q2 t (by omega) h2
theorem l_sig16 (F : Nat) (hF : 200 ≤ F) {a : Nat → Int32} {pb : Nat → Nat → Bool} {s : Nat} (hs : s < 4096) (x2 x3 : Int32) : ∀ (d x k : Nat) (u : St), x + d = 12 → d < k → CirK u → PtK u → aF u = a → pbF u = pb → ∃ w u', l_X2_signalOf_16 F (nI s) x2 x3 (a s) k (nI (cn (hzQ a pb s) (12 * x))) (nI x) u = some w ∧ CirK u' ∧ asM u' = asM u ∧ Fr [5] u u' ∧ ((∃ t, 12 * x ≤ t ∧ t < 144 ∧ hzQ a pb s t = true ∧ nI (cn (hzQ a pb s) t) = x2 ∧ w = .inl (if x3 = 1 then nI (t / 12) else nI (t % 12), u')) ∨ (w = .inr (nI (cn (hzQ a pb s) 144), nI 12, u') ∧ ∀ t, 12 * x ≤ t → t < 144 → ¬ (hzQ a pb s t = true ∧ nI (cn (hzQ a pb s) t) = x2)))
  | d, x, 0, _, _, hk, _, _, _, _ => absurd hk (by omega)
  | d, x, k + 1, u, hd, hk, hc, hp, ha, hb => by
    show ∃ w u', b_X2_signalOf_16 F (nI s) x2 x3 (a s) (l_X2_signalOf_16 F (nI s) x2 x3 (a s) k) _ _ u = _ ∧ _
    unfold b_X2_signalOf_16
    rw [show (12 : Int32) = nI 12 from rfl]
    by_cases h0 : d = 0
    · rw [if_pos (nI_le (by omega) (by omega)), show x = 12 by omega]
      exact ⟨_, u, rfl, hc, rfl, Fr.rf _ _, Or.inr ⟨rfl, fun t h1 h2 => by omega⟩⟩
    · have hx : x < 12 := by omega
      rw [if_neg (nI_ge hx (by decide))]
      obtain ⟨w, u1, g1, g2, g3, g4, g5⟩ := l_sig26 F hF (a := a) (pb := pb) hs x2 x3 hx 12 0 F u (by omega) (by omega) hc hp ha hb
      rw [show 12 * x + 0 = 12 * x from rfl, show nI 0 = 0 from rfl] at g1
      rw [g1]
      simp only [Option.bind_some]
      rcases g5 with ⟨t, q1, q2, q3, q4, q5⟩ | ⟨q1, q2⟩
      · rw [q5]
        exact ⟨_, u1, rfl, g2, g3, g4, Or.inl ⟨t, by omega, by omega, q3, q4, rfl⟩⟩
      · rw [q1]
        simp only [Sum.elim_inr, nI_1]
        obtain ⟨p1, p2⟩ := hp.fr (g4.2 6 (by decide)) (g4.2 59 (by decide))
        obtain ⟨w2, u2, k1, k2, k3, k4, k5⟩ := l_sig16 F hF (a := a) (pb := pb) hs x2 x3 (d - 1) (x + 1) k u1 (by omega) (by omega) g2 p1 (by rw [aF_eq g3]; exact ha) (by rw [p2]; exact hb)
        refine ⟨w2, u2, k1, k2, k3.trans g3, g4.tr k4, ?_⟩
        rcases k5 with ⟨t, r1, r2, r3⟩ | ⟨r1, r2⟩
        · exact Or.inl ⟨t, by omega, r2, r3⟩
        · refine Or.inr ⟨r1, fun t h1 h2 => ?_⟩
          by_cases ht : t < 12 * x + 12
          · exact q2 t (by omega) ht
          · exact r2 t (by omega) h2
theorem p_sigOf (F : Nat) (hF : 200 ≤ F) {s t : Nat} (hs : s < 4096) (x3 : Int32) {u : St} (hc : CirK u) (hp : PtK u) (ht : t < 144) (hq : hzQ (aF u) (pbF u) s t = true) : ∃ u', f_X2_signalOf F (nI s) (nI (cn (hzQ (aF u) (pbF u) s) t)) x3 u = some (if x3 = 1 then nI (t / 12) else nI (t % 12), u') ∧ CirK u' ∧ asM u' = asM u ∧ Fr [5] u u' := by
  obtain ⟨u1, g1, g2, g3, g4⟩ := p_asked F hF hs u hc
  obtain ⟨p1, p2⟩ := hp.fr (g2.2 6 (by decide)) (g2.2 59 (by decide))
  obtain ⟨w, u2, k1, k2, k3, k4, k5⟩ := l_sig16 F hF (a := aF u) (pb := pbF u) hs (nI (cn (hzQ (aF u) (pbF u) s) t)) x3 12 0 F u1 (by omega) (by omega) g3 p1 (aF_eq g4) p2
  rw [show nI (cn (hzQ (aF u) (pbF u) s) (12 * 0)) = 0 from rfl, show nI 0 = 0 from rfl] at k1
  refine ⟨u2, ?_, k2, k3.trans g4, g2.tr k4⟩
  unfold f_X2_signalOf
  rw [g1]
  simp only [Option.bind_some]
  rw [show asM u (nI s) = aF u s from rfl, k1]
  simp only [Option.bind_some]
  rcases k5 with ⟨t2, r1, r2, r3, r4, r5⟩ | ⟨r1, r2⟩
  · have e1 := cn_le (hzQ (aF u) (pbF u) s) t
    have e2 := cn_le (hzQ (aF u) (pbF u) s) t2
    have e3 := nI_inj (by omega) (by omega) r4
    have : t2 = t := by
      rcases Nat.lt_trichotomy t2 t with q | q | q
      · have := cn_step r3 q; omega
      · exact q
      · have := cn_step hq q; omega
    subst this
    rw [r5]
    rfl
  · exact absurd ⟨hq, rfl⟩ (r2 t (by omega) ht)
theorem l_plW (F : Nat) {a : Nat → Int32} {pb : Nat → Nat → Bool} {L : WL} (hG : GL L) {u : St} (h17 : ∀ i, i < L.length → u.1 17 i = nI (cum a pb L (i + 1))) {c q : Nat} (hc : c < 2 ^ 31) (hq : q < L.length) (hq1 : cum a pb L q ≤ c) (hq2 : c < cum a pb L (q + 1)) : ∀ (d lo hi k st : Nat), lo ≤ q → q ≤ hi → hi < L.length → hi - lo ≤ d → d < k → st + d < 4096 → ∃ y z, l_X2_placeWith_15 F (nI c) k (nI lo) (nI hi) (nI st) u = some (nI q, y, z, u)
  | d, lo, hi, 0, st, _, _, _, _, hk, _ => absurd hk (by omega)
  | d, lo, hi, k + 1, st, h1, h2, h3, h4, hk, h5 => by
    have hl := hG.len
    show ∃ y z, b_X2_placeWith_15 F (nI c) (l_X2_placeWith_15 F (nI c) k) _ _ _ u = _
    unfold b_X2_placeWith_15
    rw [show (4096 : Int32) = nI 4096 from rfl, if_neg (nI_ge (show st < 4096 by omega) (by decide))]
    by_cases h0 : hi ≤ lo
    · rw [if_pos (nI_le h0 (by omega)), show lo = q by omega]
      exact ⟨_, _, rfl⟩
    · rw [if_neg (nI_ge (by omega) (by omega)), if_neg (by decide), nI_add, show (2 : Int32) = nI 2 from rfl, pk_div (by omega) (by decide) (by decide), nI_clamp (by omega), if_neg (gin (show (lo + hi) / 2 < 4096 by omega) (by decide)), h17 _ (by omega), nI_1, nI_1]
      have hm := cum_le a pb L ((lo + hi) / 2 + 1)
      by_cases hle : cum a pb L ((lo + hi) / 2 + 1) ≤ c
      · rw [if_pos (nI_le hle hc)]
        have hlt : (lo + hi) / 2 < q := by
          rcases Nat.lt_or_ge ((lo + hi) / 2) q with g | g
          · exact g
          · have := cum_mono a pb L (q + 1) ((lo + hi) / 2 - q)
            rw [show q + 1 + ((lo + hi) / 2 - q) = (lo + hi) / 2 + 1 by omega] at this
            omega
        exact l_plW F hG h17 hc hq hq1 hq2 (d - 1) ((lo + hi) / 2 + 1) hi k (st + 1) (by omega) h2 h3 (by omega) (by omega) (by omega)
      · rw [if_neg (nI_ge (by omega) (by omega))]
        have hge : q ≤ (lo + hi) / 2 := by
          rcases Nat.lt_or_ge ((lo + hi) / 2) q with g | g
          · have := cum_mono a pb L ((lo + hi) / 2 + 1) (q - ((lo + hi) / 2 + 1))
            rw [show (lo + hi) / 2 + 1 + (q - ((lo + hi) / 2 + 1)) = q by omega] at this
            omega
          · exact g
        exact l_plW F hG h17 hc hq hq1 hq2 (d - 1) lo ((lo + hi) / 2) k (st + 1) h1 hge (by omega) (by omega) (by omega) (by omega)
/-- the state that a hazard's number falls into -/
theorem cum_ex {a : Nat → Int32} {pb : Nat → Nat → Bool} {L : WL} {c : Nat} : ∀ n, c < cum a pb L n → ∃ q, q < n ∧ cum a pb L q ≤ c ∧ c < cum a pb L (q + 1)
  | 0, h => absurd h (by simp [cum])
  | n + 1, h => by
    by_cases h1 : c < cum a pb L n
    · obtain ⟨q, g1, g2, g3⟩ := cum_ex n h1
      exact ⟨q, by omega, g2, g3⟩
    · exact ⟨n, by omega, by omega, h⟩
/-- the model's search -/
def hit (x1 : Int32) (B : Nat) (Q : Nat → Bool) (t : Nat) : Prop := Q t = true ∧ nI (B + cn Q t) = x1
def hval (x2 : Int32) (s t : Nat) : Int32 := if x2 = 0 then nI s else if x2 = 1 then nI (t / 12) else if x2 = 2 then nI (t % 12) else -1
theorem l_mh48 (F : Nat) (hF : 200 ≤ F) (x1 x2 x4 : Int32) {a : Nat → Int32} {pb : Nat → Nat → Bool} {s B x : Nat} (hs : s < 4096) (hx : x < 12) {u : St} (hw : WfM u) (ha : aF u = a) (hb : pbF u = pb) : ∀ (d y k : Nat), y + d = 12 → d < k → ∃ w, l_X12_hazardOf_48 F x1 x2 x4 (nI s) (a s) (nI x) k (nI (B + cn (hzQ a pb s) (12 * x + y))) (nI y) u = some w ∧ ((∃ t, 12 * x + y ≤ t ∧ t < 12 * x + 12 ∧ hit x1 B (hzQ a pb s) t ∧ w = .inl (hval x2 s t, u)) ∨ (w = .inr (nI (B + cn (hzQ a pb s) (12 * x + 12)), nI 12, u) ∧ ∀ t, 12 * x + y ≤ t → t < 12 * x + 12 → ¬ hit x1 B (hzQ a pb s) t))
  | d, y, 0, _, hk => absurd hk (by omega)
  | d, y, k + 1, hd, hk => by
    show ∃ w, b_X12_hazardOf_48 F x1 x2 x4 (nI s) (a s) (nI x) (l_X12_hazardOf_48 F x1 x2 x4 (nI s) (a s) (nI x) k) _ _ u = _ ∧ _
    unfold b_X12_hazardOf_48
    by_cases h0 : d = 0
    · rw [show (12 : Int32) = nI 12 from rfl, if_pos (nI_le (by omega) (by omega)), show y = 12 by omega]
      exact ⟨_, rfl, Or.inr ⟨rfl, fun t h1 h2 => by omega⟩⟩
    · have hy : y < 12 := by omega
      rw [show (nI x) = nI x from rfl, if_neg (show ¬ (12 : Int32) ≤ nI y from nI_ge hy (by decide)), nI_12x hx hy, nI_clamp (by omega), nI_1, nI_1, xor_nI hs hy]
      have step : cn (hzQ a pb s) (12 * x + (y + 1)) = cn (hzQ a pb s) (12 * x + y) + (if hzQ a pb s (12 * x + y) then 1 else 0) := rfl
      have hQ := hzQ_at a pb s (x := x) hy
      have ih := l_mh48 F hF x1 x2 x4 (a := a) (pb := pb) (B := B) hs hx hw ha hb (d - 1) (y + 1) k (by omega) (by omega)
      have next : hzQ a pb s (12 * x + y) = false → ∃ w, l_X12_hazardOf_48 F x1 x2 x4 (nI s) (a s) (nI x) k (nI (B + cn (hzQ a pb s) (12 * x + y))) (nI (y + 1)) u = some w ∧ ((∃ t, 12 * x + y ≤ t ∧ t < 12 * x + 12 ∧ hit x1 B (hzQ a pb s) t ∧ w = .inl (hval x2 s t, u)) ∨ (w = .inr (nI (B + cn (hzQ a pb s) (12 * x + 12)), nI 12, u) ∧ ∀ t, 12 * x + y ≤ t → t < 12 * x + 12 → ¬ hit x1 B (hzQ a pb s) t)) := by
        intro hq
        rw [step, hq] at ih
        obtain ⟨w, k1, k2⟩ := ih
        refine ⟨w, by simpa using k1, ?_⟩
        rcases k2 with ⟨t, q1, q2, q3⟩ | ⟨q1, q2⟩
        · exact Or.inl ⟨t, by omega, q2, q3⟩
        · refine Or.inr ⟨q1, fun t h1 h2 => ?_⟩
          by_cases ht : t = 12 * x + y
          · subst ht
            rintro ⟨q, -⟩
            rw [hq] at q
            cases q
          · exact q2 t (by omega) h2
      by_cases hxy : nI x = nI y
      · rw [if_pos hxy]
        exact next (by rw [hQ]; unfold hzP; simp [nI_inj (by omega) (by omega) hxy])
      · rw [if_neg hxy]
        have hxy' : x ≠ y := fun e => hxy (by rw [e])
        by_cases hbx : bt (a s) x = true
        · rw [if_neg (fun h => by rw [(bt_t0 _ (by omega)).mp h] at hbx; cases hbx)]
          by_cases hby : bt (a s) y = true
          · rw [if_neg (fun h => by rw [(bt_t0 _ (by omega)).mp h] at hby; cases hby), if_neg (by rw [not_or]; exact ⟨nI_pos (by omega), by omega⟩)]
            by_cases hpb : u.1 59 (12 * x + y) = 0
            · have hpb' : pb x y = false := by rw [← hb]; unfold pbF; simp [hpb]
              rw [if_pos hpb, p_M_asked F (by omega) _ _ hw]
              simp only [Option.bind_some]
              rw [show asM u (nI (s ^^^ 2 ^ y)) = a (s ^^^ 2 ^ y) by rw [← ha]; rfl]
              by_cases hbz : bt (a (s ^^^ 2 ^ y)) x = true
              · rw [if_pos ((bt_t1 _ (by omega)).mpr hbz)]
                exact next (by rw [hQ]; unfold hzP; simp [hbz])
              · have hq : hzQ a pb s (12 * x + y) = true := by
                  rw [hQ]; unfold hzP
                  simp [hxy', hbx, hby, hpb', Bool.eq_false_iff.mpr hbz]
                rw [if_neg (fun h => hbz ((bt_t1 _ (by omega)).mp h))]
                by_cases he : nI (B + cn (hzQ a pb s) (12 * x + y)) = x1
                · rw [if_pos he]
                  refine ⟨.inl (hval x2 s (12 * x + y), u), ?_, Or.inl ⟨12 * x + y, Nat.le_refl _, by omega, ⟨hq, he⟩, rfl⟩⟩
                  unfold hval
                  rw [show (12 * x + y) / 12 = x by omega, show (12 * x + y) % 12 = y by omega]
                  by_cases e0 : x2 = 0
                  · rw [if_pos e0, if_pos e0]
                  · rw [if_neg e0, if_neg e0]
                    by_cases e1 : x2 = 1
                    · rw [if_pos e1, if_pos e1]
                    · rw [if_neg e1, if_neg e1]
                      by_cases e2 : x2 = 2
                      · rw [if_pos e2, if_pos e2]
                      · rw [if_neg e2, if_neg e2]
                · rw [if_neg he]
                  rw [step, hq] at ih
                  obtain ⟨w, k1, k2⟩ := ih
                  refine ⟨w, by simpa [Nat.add_assoc] using k1, ?_⟩
                  rcases k2 with ⟨t, q1, q2, q3⟩ | ⟨q1, q2⟩
                  · exact Or.inl ⟨t, by omega, q2, q3⟩
                  · refine Or.inr ⟨q1, fun t h1 h2 => ?_⟩
                    by_cases ht : t = 12 * x + y
                    · subst ht
                      exact fun q => he q.2
                    · exact q2 t (by omega) h2
            · rw [if_neg hpb]
              exact next (by rw [hQ]; unfold hzP; rw [← hb]; unfold pbF; simp [hpb])
          · rw [if_pos ((bt_t0 _ (by omega)).mpr (Bool.eq_false_iff.mpr hby))]
            exact next (by rw [hQ]; unfold hzP; simp [Bool.eq_false_iff.mpr hby])
        · rw [if_pos ((bt_t0 _ (by omega)).mpr (Bool.eq_false_iff.mpr hbx))]
          exact next (by rw [hQ]; unfold hzP; simp [Bool.eq_false_iff.mpr hbx])
theorem l_mh38 (F : Nat) (hF : 200 ≤ F) (x1 x2 x4 : Int32) {a : Nat → Int32} {pb : Nat → Nat → Bool} {s B : Nat} (hs : s < 4096) {u : St} (hw : WfM u) (ha : aF u = a) (hb : pbF u = pb) : ∀ (d x k : Nat), x + d = 12 → d < k → ∃ w, l_X12_hazardOf_38 F x1 x2 x4 (nI s) (a s) k (nI (B + cn (hzQ a pb s) (12 * x))) (nI x) u = some w ∧ ((∃ t, 12 * x ≤ t ∧ t < 144 ∧ hit x1 B (hzQ a pb s) t ∧ w = .inl (hval x2 s t, u)) ∨ (w = .inr (nI (B + cn (hzQ a pb s) 144), nI 12, u) ∧ ∀ t, 12 * x ≤ t → t < 144 → ¬ hit x1 B (hzQ a pb s) t))
  | d, x, 0, _, hk => absurd hk (by omega)
  | d, x, k + 1, hd, hk => by
    show ∃ w, b_X12_hazardOf_38 F x1 x2 x4 (nI s) (a s) (l_X12_hazardOf_38 F x1 x2 x4 (nI s) (a s) k) _ _ u = _ ∧ _
    unfold b_X12_hazardOf_38
    rw [show (12 : Int32) = nI 12 from rfl]
    by_cases h0 : d = 0
    · rw [if_pos (nI_le (by omega) (by omega)), show x = 12 by omega]
      exact ⟨_, rfl, Or.inr ⟨rfl, fun t h1 h2 => by omega⟩⟩
    · have hx : x < 12 := by omega
      rw [if_neg (nI_ge hx (by decide))]
      obtain ⟨w, g1, g5⟩ := l_mh48 F hF x1 x2 x4 (a := a) (pb := pb) (B := B) hs hx hw ha hb 12 0 F (by omega) (by omega)
      rw [show 12 * x + 0 = 12 * x from rfl, show nI 0 = 0 from rfl] at g1
      rw [g1]
      simp only [Option.bind_some]
      rcases g5 with ⟨t, q1, q2, q3, q5⟩ | ⟨q1, q2⟩
      · rw [q5]
        exact ⟨_, rfl, Or.inl ⟨t, by omega, by omega, q3, rfl⟩⟩
      · rw [q1]
        simp only [Sum.elim_inr, nI_1]
        obtain ⟨w2, k1, k5⟩ := l_mh38 F hF x1 x2 x4 (a := a) (pb := pb) (B := B) hs hw ha hb (d - 1) (x + 1) k (by omega) (by omega)
        refine ⟨w2, k1, ?_⟩
        rcases k5 with ⟨t, r1, r2, r3⟩ | ⟨r1, r2⟩
        · exact Or.inl ⟨t, by omega, r2, r3⟩
        · refine Or.inr ⟨r1, fun t h1 h2 => ?_⟩
          by_cases ht : t < 12 * x + 12
          · exact q2 t (by omega) ht
          · exact r2 t (by omega) h2
theorem l_mh9 (F : Nat) (hF : 5000 ≤ F) (x1 x2 : Int32) {a : Nat → Int32} {pb : Nat → Nat → Bool} {L : WL} (hG : GL L) {u : St} (hw : WfM u) (ha : aF u = a) (hb : pbF u = pb) (hW : WM L u) : ∀ (d i k : Nat), i + d = L.length → d < k → ∃ w, l_X12_hazardOf_9 F x1 x2 k (nI (cum a pb L i)) (nI i) u = some w ∧ ((∃ (j t : Nat) (e : Nat × Nat), i ≤ j ∧ L[j]? = some e ∧ t < 144 ∧ hit x1 (cum a pb L j) (hzQ a pb e.1) t ∧ w = .inl (hval x2 e.1 t, u)) ∨ (w = .inr (nI (cum a pb L L.length), nI L.length, u) ∧ ∀ (j t : Nat) (e : Nat × Nat), i ≤ j → L[j]? = some e → t < 144 → ¬ hit x1 (cum a pb L j) (hzQ a pb e.1) t))
  | d, i, 0, _, hk => absurd hk (by omega)
  | d, i, k + 1, hd, hk => by
    have hl := hG.len
    show ∃ w, b_X12_hazardOf_9 F x1 x2 (l_X12_hazardOf_9 F x1 x2 k) _ _ u = _ ∧ _
    unfold b_X12_hazardOf_9
    rw [hW.1]
    by_cases h0 : d = 0
    · have hi : i = L.length := by omega
      subst hi
      rw [if_pos (nI_le (Nat.le_refl _) (by omega))]
      refine ⟨_, rfl, Or.inr ⟨rfl, fun j t e h1 h2 => ?_⟩⟩
      have := (List.getElem?_eq_some_iff.mp h2).1
      omega
    · obtain ⟨e, he⟩ : ∃ e, L[i]? = some e := ⟨_, List.getElem?_eq_getElem (show i < L.length by omega)⟩
      have hes := (hG.2 e (List.mem_of_getElem? he)).1
      rw [if_neg (nI_ge (by omega) (by omega)), nI_clamp (by omega), if_neg (gin (by omega) (by decide)), (hW.2.1 i e.1 e.2 he).1, p_M_asked F (by omega) _ _ hw]
      simp only [Option.bind_some]
      rw [show asM u (nI e.1) = a e.1 by rw [← ha]; rfl]
      obtain ⟨w, g1, g5⟩ := l_mh38 F (by omega) x1 x2 (nI i) (a := a) (pb := pb) (B := cum a pb L i) hes hw ha hb 12 0 F (by omega) (by omega)
      rw [show cn (hzQ a pb e.1) (12 * 0) = 0 from rfl, Nat.add_zero, show nI 0 = 0 from rfl] at g1
      rw [g1]
      simp only [Option.bind_some]
      rcases g5 with ⟨t, q1, q2, q3, q5⟩ | ⟨q1, q2⟩
      · rw [q5]
        exact ⟨_, rfl, Or.inl ⟨i, t, e, Nat.le_refl _, he, q2, q3, rfl⟩⟩
      · rw [q1]
        simp only [Sum.elim_inr, nI_1]
        rw [← cum_s he]
        obtain ⟨w2, k1, k5⟩ := l_mh9 F hF x1 x2 (a := a) (pb := pb) hG hw ha hb hW (d - 1) (i + 1) k (by omega) (by omega)
        refine ⟨w2, k1, ?_⟩
        rcases k5 with ⟨j, t, e2, r1, r2⟩ | ⟨r1, r2⟩
        · exact Or.inl ⟨j, t, e2, by omega, r2⟩
        · refine Or.inr ⟨r1, fun j t e2 h1 h2 h3 => ?_⟩
          by_cases hj : j = i
          · subst hj
            rw [he] at h2
            cases h2
            exact q2 t (by omega) h3
          · exact r2 j t e2 (by omega) h2 h3
theorem p_mhz (F : Nat) (hF : 5000 ≤ F) {u : St} (h : CirI u) (x1 x2 : Int32) : ∃ u', CirI u' ∧ Kp u u' ∧ ((∃ (j t : Nat) (e : Nat × Nat), (LL u)[j]? = some e ∧ t < 144 ∧ hit x1 (cum (aF u) (pbF u) (LL u) j) (hzQ (aF u) (pbF u) e.1) t ∧ f_X12_hazardOf F x1 x2 u = some (hval x2 e.1 t, u')) ∨ ((∀ (j t : Nat) (e : Nat × Nat), (LL u)[j]? = some e → t < 144 → ¬ hit x1 (cum (aF u) (pbF u) (LL u) j) (hzQ (aF u) (pbF u) e.1) t) ∧ f_X12_hazardOf F x1 x2 u = some (if 0 ≤ x1 then -1 else nI (cum (aF u) (pbF u) (LL u) (LL u).length), u'))) := by
  obtain ⟨u2, b1, b2, b3, b4, b5, b6, b7, b8⟩ := p_mw F hF h
  have hl := h.gl.len
  have hpb : pbF u2 = pbF u := by unfold pbF; rw [b6.2 59 (by decide)]
  obtain ⟨w, k1, k2⟩ := l_mh9 F hF x1 x2 (a := aF u) (pb := pbF u) h.gl b2.1.2.1 b3 hpb b5 (LL u).length 0 F (by omega) (by omega)
  rw [show nI (cum (aF u) (pbF u) (LL u) 0) = 0 from rfl, show nI 0 = 0 from rfl] at k1
  refine ⟨u2, b2, Kp.mw b6 b8, ?_⟩
  unfold f_X12_hazardOf
  rw [b1]
  simp only [Option.bind_some]
  rw [k1]
  simp only [Option.bind_some]
  rcases k2 with ⟨j, t, e, q1, q2, q3, q4, q5⟩ | ⟨q1, q2⟩
  · exact Or.inl ⟨j, t, e, q2, q3, q4, by rw [q5]; rfl⟩
  · right
    refine ⟨fun j t e h1 h2 => q2 j t e (by omega) h1 h2, ?_⟩
    rw [q1]
    show (if 0 ≤ x1 then _ else _) = _
    by_cases h0 : 0 ≤ x1
    · rw [if_pos h0, if_pos h0]
    · rw [if_neg h0, if_neg h0]
/-- promise 12 -/
theorem op_hazard (F : Nat) (hF : 5000 ≤ F) {u : St} (h : CirI u) (x y : Int32) : ∃ r u1 u2, f_X11_hazard F x y u = some (r, u1) ∧ f_X12_hazard F x y u1 = some (r, u2) ∧ CirI u2 ∧ Kp u u2 := by
  have hneg : ∀ v : St, x < 0 → f_X12_hazard F x y v = some (-1, wr v 50 0 0) := fun v hx => by
    unfold f_X12_hazard
    rw [if_neg (fun q => absurd hx (by rw [Int32.not_lt]; exact q))]
  -- what is none of the three
  have hout : ¬ (0 ≤ y ∧ y ≤ 2) → ∃ r u1 u2, f_X11_hazard F x y u = some (r, u1) ∧ f_X12_hazard F x y u1 = some (r, u2) ∧ CirI u2 ∧ Kp u u2 := by
    intro hy
    have e1 : f_X11_hazard F x y u = some (-1, u) := by
      unfold f_X11_hazard
      by_cases h0 : y < 0
      · rw [if_pos h0]
      · rw [if_neg h0, if_neg (fun q => hy ⟨Int32.not_lt.mp h0, q⟩)]
    by_cases hx : x < 0
    · exact ⟨-1, u, wr u 50 0 0, e1, hneg u hx, h.w0.1, h.w0.2.1⟩
    · obtain ⟨u2, g1, g2, g3⟩ := p_mhz F hF h.w0.1 x y
      refine ⟨-1, u, u2, e1, ?_, g1, h.w0.2.1.tr g2⟩
      have h0 : (0 : Int32) ≤ x := Int32.not_lt.mp hx
      unfold f_X12_hazard
      rw [if_pos h0]
      rcases g3 with ⟨j, t, e, q1, q2, q3, q4⟩ | ⟨q1, q2⟩
      · rw [q4]
        simp only [Option.bind_some]
        unfold hval
        rw [if_neg (by rintro rfl; exact hy ⟨by decide, by decide⟩), if_neg (by rintro rfl; exact hy ⟨by decide, by decide⟩), if_neg (by rintro rfl; exact hy ⟨by decide, by decide⟩)]
      · rw [q2]
        simp only [Option.bind_some]
        rw [if_pos h0]
  by_cases hy : 0 ≤ y ∧ y ≤ 2
  · obtain ⟨u1, a1, a2, a3, a4, a5, a6, a7, a8⟩ := p_ren F hF h
    obtain ⟨u3, c1, c2, c3, c4, c5, c6, c7, c8, c9, c10⟩ := p_hzRen F hF a2 a5 (by rw [a4]; exact a6)
    have hk3 : Kp u u3 := (Kp.ren a8).tr (Kp.of c10 (by decide) (fun k _ => by rw [c10.2 50 (by decide)]))
    have e0 : ∀ r u4, f_X2_partOf F x y u3 = some (r, u4) → f_X11_hazard F x y u = some (r, u4) := fun r u4 hr => by
      unfold f_X11_hazard
      rw [if_neg (Int32.not_lt.mpr hy.1), if_pos hy.2, a1]
      simp only [Option.bind_some]
      rw [c1]
      simp only [Option.bind_some]
      rw [hr]
      simp only [Option.bind_some]
    by_cases hx : x < 0
    · refine ⟨-1, u3, wr u3 50 0 0, e0 _ _ ?_, hneg u3 hx, c2.w0.1, hk3.tr c2.w0.2.1⟩
      unfold f_X2_partOf
      rw [if_pos hx]
    · obtain ⟨c, hc, rfl⟩ := nI_of hx
      rw [a3, a4] at c8 c9
      have hpb1 : pbF u1 = pbF u := by unfold pbF; rw [a8.2 59 (by decide)]
      rw [hpb1] at c8 c9 c5
      rw [a3] at c3
      rw [a4] at c4 c7
      have hl := h.gl.len
      have hcl := cum_le (aF u) (pbF u) (LL u) (LL u).length
      by_cases hct : c < cum (aF u) (pbF u) (LL u) (LL u).length
      · obtain ⟨q, hq, hq1, hq2⟩ := cum_ex _ hct
        obtain ⟨e, he⟩ : ∃ e, (LL u)[q]? = some e := ⟨_, List.getElem?_eq_getElem hq⟩
        have hes := (h.gl.2 e (List.mem_of_getElem? he)).1
        rw [cum_s he] at hq2
        obtain ⟨t, ht, hQ, hcn⟩ := cn_ex (P := hzQ (aF u) (pbF u) e.1) (c := c - cum (aF u) (pbF u) (LL u) q) 144 (by omega)
        obtain ⟨y9, z9, w1⟩ := l_plW F h.gl (a := aF u) (pb := pbF u) (u := u3) c9 hc hq hq1 (by rw [cum_s he]; exact hq2) ((LL u).length - 1) 0 ((LL u).length - 1) F 0 (by omega) (by omega) (by omega) (by omega) (by omega) (by omega)
        rw [show nI 0 = 0 from rfl] at w1
        have hpw : f_X2_placeWith F (nI c) u3 = some (nI q, u3) := by
          unfold f_X2_placeWith
          rw [show f_X10_size F u3 = some (u3.1 11 5, u3) from rfl]
          simp only [Option.bind_some]
          rw [c7.1, show nI (LL u).length - (1 : Int32) = nI ((LL u).length - 1) by rw [show (1 : Int32) = nI 1 from rfl, pk_sub (by omega)], w1]
          rfl
        have hsa := p_stateAt F h.gl c7 he
        obtain ⟨u4, s1, s2, s3, s4⟩ := p_sigOf F (by omega) hes y c2.1 c2.2.2.2.2.2.1 ht (by rw [c3, c5]; exact hQ)
        rw [c3, c5, hcn] at s1
        have sig : (if nI q = (0 : Int32) then (Option.bind (f_X2_signalOf F (nI e.1) (nI c) y u3) (fun w17 => some (w17.1, w17.2))) else (if (nI q - (1 : Int32)) < 0 ∨ 4096 ≤ (nI q - (1 : Int32)).toNatClampNeg then none else (Option.bind (f_X2_signalOf F (nI e.1) (nI c - (u3.1 17 (nI q - (1 : Int32)).toNatClampNeg)) y u3) (fun w13 => some (w13.1, w13.2))))) = some (if y = 1 then nI (t / 12) else nI (t % 12), u4) := by
          by_cases hq0 : q = 0
          · subst hq0
            have e9 : cum (aF u) (pbF u) (LL u) 0 = 0 := rfl
            rw [e9, Nat.sub_zero] at s1
            rw [if_pos (show nI 0 = 0 from rfl), s1]
            simp only [Option.bind_some]
          · rw [if_neg (nI_ne0 (by omega) (by omega)), show nI q - (1 : Int32) = nI (q - 1) by rw [show (1 : Int32) = nI 1 from rfl, pk_sub (by omega)], nI_clamp (by omega), if_neg (gin (show q - 1 < 4096 by omega) (by decide)), c9 (q - 1) (by omega), show q - 1 + 1 = q by omega, pk_sub hq1, s1]
            simp only [Option.bind_some]
        have fin : ∀ (r : Int32) (u5 : St), r = hval y e.1 t → f_X2_partOf F (nI c) y u3 = some (r, u5) → CirI u5 → Kp u u5 → aF u5 = aF u → pbF u5 = pbF u → LL u5 = LL u → ∃ r u1 u2, f_X11_hazard F (nI c) y u = some (r, u1) ∧ f_X12_hazard F (nI c) y u1 = some (r, u2) ∧ CirI u2 ∧ Kp u u2 := by
          intro r u5 hr hpo C5 K5 A5 B5 L5
          obtain ⟨W1, W2, W3, W4⟩ := C5.w0
          obtain ⟨u6, g1, g2, g3⟩ := p_mhz F hF W1 (nI c) y
          have hpw0 : pbF (wr u5 50 0 0) = pbF u := by rw [← B5]; unfold pbF; rw [wr_ne _ (by decide)]
          rw [aF_eq W3, A5, hpw0, W4, L5] at g3
          refine ⟨r, u5, u6, e0 _ _ hpo, ?_, g1, K5.tr (W2.tr g2)⟩
          unfold f_X12_hazard
          rw [if_pos (nI_pos' hc)]
          rcases g3 with ⟨j, t2, e2, q1, q2, ⟨q3, q4⟩, q5⟩ | ⟨q1, q2⟩
          · have l1 := cum_le (aF u) (pbF u) (LL u) j
            have l2 := cn_le (hzQ (aF u) (pbF u) e2.1) t2
            have hjl := (List.getElem?_eq_some_iff.mp q1).1
            have e5 := nI_inj (by omega) hc q4
            have hs5 := cn_step q3 q2
            have hsj := cum_s (a := aF u) (pb := pbF u) q1
            have hsq := cum_s (a := aF u) (pb := pbF u) he
            have hjq : j = q := by
              rcases Nat.lt_trichotomy j q with z | z | z
              · have := cum_mono (aF u) (pbF u) (LL u) (j + 1) (q - (j + 1))
                rw [show j + 1 + (q - (j + 1)) = q by omega] at this
                omega
              · exact z
              · have := cum_mono (aF u) (pbF u) (LL u) (q + 1) (j - (q + 1))
                rw [show q + 1 + (j - (q + 1)) = j by omega] at this
                omega
            subst hjq
            rw [he] at q1
            cases q1
            have htt : t2 = t := by
              rcases Nat.lt_trichotomy t2 t with z | z | z
              · have := cn_step q3 z; omega
              · exact z
              · have := cn_step hQ z; omega
            subst htt
            rw [q5, hr]
            simp only [Option.bind_some]
          · exact absurd ⟨hQ, by rw [hcn, show cum (aF u) (pbF u) (LL u) q + (c - cum (aF u) (pbF u) (LL u) q) = c by omega]⟩ (q1 q t e he ht)
        have po : f_X2_partOf F (nI c) y u3 = if y = 0 then some (nI e.1, u3) else some (if y = 1 then nI (t / 12) else nI (t % 12), u4) := by
          unfold f_X2_partOf
          rw [if_neg hx, c8, if_pos (nI_lt hct (by omega)), hpw]
          simp only [Option.bind_some]
          rw [hsa]
          simp only [Option.bind_some]
          rw [sig]
        by_cases hy0 : y = 0
        · rw [if_pos hy0] at po
          refine fin (nI e.1) u3 ?_ po c2 hk3 c3 c5 c4
          unfold hval
          rw [if_pos hy0]
        · rw [if_neg hy0] at po
          have C4 : CirI u4 := c2.c5 s2 s3 s4 (by decide) (by rw [s4.2 50 (by decide)])
          refine fin _ u4 ?_ po C4 (hk3.tr (Kp.of s4 (by decide) (fun k _ => by rw [s4.2 50 (by decide)]))) (by rw [aF_eq s3]; exact c3) (by rw [← c5]; unfold pbF; rw [s4.2 59 (by decide)]) (by rw [← c4]; unfold LL rsN; rw [aF_eq s3, s4.2 4 (by decide)])
          unfold hval
          rw [if_neg hy0]
          by_cases hy1 : y = 1
          · rw [if_pos hy1, if_pos hy1]
          · have hy2 : y = 2 := by
              rcases pk_ix y (n := 3) (by decide) with g | g | ⟨j, g1, g2⟩
              · exact absurd g (Int32.not_lt.mpr hy.1)
              · exact absurd (Int32.le_trans g hy.2) (by decide)
              · match j, g1, g2 with
                | 0, _, g2 => exact absurd g2 hy0
                | 1, _, g2 => exact absurd g2 hy1
                | 2, _, g2 => exact g2
            rw [if_neg hy1, if_neg hy1, if_pos hy2]
      · have po : f_X2_partOf F (nI c) y u3 = some (-1, u3) := by
          unfold f_X2_partOf
          rw [if_neg hx, c8, if_neg (nI_nlt (by omega) hc)]
        obtain ⟨W1, W2, W3, W4⟩ := c2.w0
        obtain ⟨u6, g1, g2, g3⟩ := p_mhz F hF W1 (nI c) y
        have hpw0 : pbF (wr u3 50 0 0) = pbF u := by rw [← c5]; unfold pbF; rw [wr_ne _ (by decide)]
        rw [aF_eq W3, c3, hpw0, W4, c4] at g3
        refine ⟨-1, u3, u6, e0 _ _ po, ?_, g1, hk3.tr (W2.tr g2)⟩
        unfold f_X12_hazard
        rw [if_pos (nI_pos' hc)]
        rcases g3 with ⟨j, t2, e2, q1, q2, ⟨q3, q4⟩, q5⟩ | ⟨q1, q2⟩
        · have l1 := cum_le (aF u) (pbF u) (LL u) j
          have l2 := cn_le (hzQ (aF u) (pbF u) e2.1) t2
          have hjl := (List.getElem?_eq_some_iff.mp q1).1
          have e5 := nI_inj (by omega) hc q4
          have hs5 := cn_step q3 q2
          have hsj := cum_s (a := aF u) (pb := pbF u) q1
          have := cum_mono (aF u) (pbF u) (LL u) (j + 1) ((LL u).length - (j + 1))
          rw [show j + 1 + ((LL u).length - (j + 1)) = (LL u).length by omega] at this
          omega
        · rw [q2, if_pos (nI_pos' hc)]
          rfl
  · exact hout hy
