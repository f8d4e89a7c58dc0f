/-! arbiters and stuck signals -/
def BoI (u : St) : Prop := (∀ x, x < 12 → u.1 58 x = 0 ∨ u.1 58 x = 1) ∧ ∀ i, i < 144 → u.1 59 i = 0 ∨ u.1 59 i = 1
def KpN (u v : St) : Prop := (∀ q, q ∈ [1, 2, 7, 46, 52, 22, 23, 24, 25, 26, 27, 28, 29, 30, 31, 32, 33, 34, 35, 36, 37, 38, 39, 40, 41, 42, 43, 44, 45, 51, 66, 67, 68, 69] → v.1 q = u.1 q) ∧ (∀ k, k ∈ [2, 24, 25] → v.1 50 k = u.1 50 k) ∧ v.1 4 2 = u.1 4 2
theorem Kp.n {u v : St} (h : Kp u v) : KpN u v := ⟨fun q hq => h.1 q (by
  simp only [List.mem_cons, List.not_mem_nil, or_false] at hq ⊢
  omega), h.2, by rw [h.1 4 (by decide)]⟩
theorem Kp.bo {u v : St} (h : Kp u v) (b : BoI u) : BoI v := by
  unfold BoI
  rw [h.1 58 (by decide), h.1 59 (by decide)]
  exact b
theorem KpN.of {u v : St} {P : List Nat} (hf : Fr P u v) (hP : ∀ q, q ∈ P → q ∉ [1, 2, 7, 46, 52, 22, 23, 24, 25, 26, 27, 28, 29, 30, 31, 32, 33, 34, 35, 36, 37, 38, 39, 40, 41, 42, 43, 44, 45, 51, 66, 67, 68, 69]) (h4 : v.1 4 2 = u.1 4 2) (hk : ∀ k, k ∈ [2, 24, 25] → v.1 50 k = u.1 50 k) : KpN u v := ⟨fun q hq => hf.2 q (fun z => hP q z hq), hk, h4⟩
theorem BoI.w0 {u : St} (b : BoI u) : BoI (wr u 50 0 0) := by
  unfold BoI
  rw [wr_ne _ (by decide), wr_ne _ (by decide)]
  exact b
theorem nar_b (c : Bool) : vp_nar .boolean (b2i c) = b2i c := by cases c <;> decide
theorem b2i_inj {b c : Bool} : b2i b = b2i c ↔ b = c := by cases b <;> cases c <;> decide
theorem b2i_of {v : Int32} (h : v = 0 ∨ v = 1) : v = b2i (!decide (v = 0)) := by rcases h with rfl | rfl <;> decide
theorem m_arbit (F : Nat) {x y : Nat} (hx : x < 12) (hy : y < 12) (c : Bool) (v : St) : f_X12_arbiter F (nI x) (nI y) (b2i c) v = if x = y then some (0, wr v 50 0 0) else if (wr v 50 0 0).1 59 (12 * x + y) = b2i c then some (0, wr v 50 0 0) else some (1, wr (wr (wr v 50 0 0) 59 (12 * x + y) (b2i c)) 59 (12 * y + x) (b2i c)) := by
  unfold f_X12_arbiter
  rw [msg_in F hx]
  simp only [Option.bind_some]
  rw [if_neg (by decide), msg_in F hy]
  simp only [Option.bind_some]
  rw [if_neg (by decide), nI_12x hx hy, nI_12x hy hx, nI_clamp (by omega), nI_clamp (by omega), nar_b]
  by_cases e : x = y
  · rw [if_pos (by rw [e]), if_pos e]
  · rw [if_neg (fun q => e (nI_inj (by omega) (by omega) q)), if_neg e, if_neg (gin (show 12 * x + y < 144 by omega) (by decide))]
    by_cases e2 : (wr v 50 0 0).1 59 (12 * x + y) = b2i c
    · rw [if_pos e2, if_pos e2]
    · rw [if_neg e2, if_neg e2, if_neg (gin (show 12 * x + y < 144 by omega) (by decide)), if_neg (gin (show 12 * y + x < 144 by omega) (by decide))]
/-- promise 6 -/
theorem op_arbiter (F : Nat) {u : St} (h : CirI u) (hb : BoI u) (x1 x2 : Int32) (c : Bool) : ∃ r u1 u2, f_X11_arbiter F x1 x2 (b2i c) u = some (r, u1) ∧ f_X12_arbiter F x1 x2 (b2i c) u1 = some (r, u2) ∧ CirI u2 ∧ BoI u2 ∧ KpN u u2 := by
  unfold f_X11_arbiter
  have no := h.w0
  rcases ix12 x1 with hx | ⟨x, hx, rfl⟩
  · refine ⟨0, u, wr u 50 0 0, ?_, ?_, no.1, hb.w0, no.2.1.n⟩
    · rw [sg_out F hx]; rfl
    · unfold f_X12_arbiter; rw [msg_out F hx]; rfl
  · rcases ix12 x2 with hy | ⟨y, hy, rfl⟩
    · refine ⟨0, u, wr u 50 0 0, ?_, ?_, no.1, hb.w0, no.2.1.n⟩
      · rw [sg_in F hx]
        simp only [Option.bind_some]
        rw [if_neg (by decide), sg_out F hy]; rfl
      · unfold f_X12_arbiter
        rw [msg_in F hx]
        simp only [Option.bind_some]
        rw [if_neg (by decide), msg_out F hy]; rfl
    · rw [sg_in F hx]
      simp only [Option.bind_some]
      rw [if_neg (by decide), sg_in F hy]
      simp only [Option.bind_some]
      rw [if_neg (by decide)]
      have mo := fun v => m_arbit F hx hy c v
      by_cases hxy : x = y
      · refine ⟨0, u, wr u 50 0 0, ?_, ?_, no.1, hb.w0, no.2.1.n⟩
        · rw [if_pos (by rw [hxy])]
        · rw [mo, if_pos hxy]
      · rw [if_neg (fun q => hxy (nI_inj (by omega) (by omega) q))]
        obtain ⟨h1, h2, h3, h4, h5, h6, h7⟩ := id h
        have hpair : f_X0_isPair F (nI x) (nI y) u = some (b2i (pbF u x y), u) := by
          unfold f_X0_isPair
          rw [nI_clamp (by omega), if_neg (gin hx (by decide)), p_isIn F _ (by omega), (h6 x y hx hy).1]
          simp only [Option.bind_some]
          rw [if_pos (by cases pbF u x y <;> simp [b2i])]
        rw [hpair]
        simp only [Option.bind_some]
        have h59 : u.1 59 (12 * x + y) = b2i (pbF u x y) := b2i_of (hb.2 _ (by omega))
        by_cases hpc : pbF u x y = c
        · refine ⟨0, u, wr u 50 0 0, ?_, ?_, no.1, hb.w0, no.2.1.n⟩
          · rw [if_pos (by rw [hpc])]
          · rw [mo, if_neg hxy, wr_ne _ (by decide), if_pos (by rw [h59, hpc])]
        · rw [if_neg (fun q => hpc (b2i_inj.mp q))]
          have hturn : f_X0_turnPair F (nI x) (nI y) u = some (wr (wr u 6 x (u.1 6 x ^^^ ((1 : Int32) <<< (nI y &&& 31)))) 6 y (u.1 6 y ^^^ ((1 : Int32) <<< (nI x &&& 31)))) := by
            unfold f_X0_turnPair
            rw [nI_clamp (by omega), nI_clamp (by omega), if_neg (gin hx (by decide)), if_neg (gin hx (by decide)), if_neg (gin hy (by decide)), if_neg (gin hy (by decide)), wr_nek _ (Ne.symm hxy)]
          rw [hturn]
          simp only [Option.bind_some]
          rw [show ∀ v : St, f_X2_forget F v = some (wr v 16 4 0) from fun v => rfl]
          simp only [Option.bind_some]
          generalize hu1 : wr (wr (wr u 6 x (u.1 6 x ^^^ ((1 : Int32) <<< (nI y &&& 31)))) 6 y (u.1 6 y ^^^ ((1 : Int32) <<< (nI x &&& 31)))) 16 4 0 = u1
          have f1 : Fr [6, 16] u u1 := by rw [← hu1]; exact (((Fr.rf _ u).w (by decide)).w (by decide)).w (by decide)
          have e6 : u1.1 6 = fun a => if a = y then u.1 6 y ^^^ ((1 : Int32) <<< (nI x &&& 31)) else if a = x then u.1 6 x ^^^ ((1 : Int32) <<< (nI y &&& 31)) else u.1 6 a := by
            rw [← hu1, wr_ne _ (by decide)]
            funext a
            simp [wr]
          have e16 : u1.1 16 4 = 0 := by rw [← hu1, wr_eq]
          refine ⟨1, u1, wr (wr (wr u1 50 0 0) 59 (12 * x + y) (b2i c)) 59 (12 * y + x) (b2i c), rfl, ?_, ?_, ?_, ?_⟩
          · rw [mo, if_neg hxy, if_neg]
            rw [wr_ne _ (by decide), f1.2 59 (by decide), h59]
            exact fun q => hpc (b2i_inj.mp q)
          · generalize hu2 : wr (wr (wr u1 50 0 0) 59 (12 * x + y) (b2i c)) 59 (12 * y + x) (b2i c) = u2
            have f2 : Fr [6, 16, 50, 59] u u2 := by rw [← hu2]; exact (((f1.mono (by intro q hq; simp at hq ⊢; omega)).w (by decide)).w (by decide)).w (by decide)
            obtain ⟨c2, a2⟩ := h1.fr f2 (by decide)
            have ha := aF_eq a2
            have hL : LL u2 = LL u := by unfold LL rsN; rw [ha, f2.2 4 (by decide)]
            have g6 : u2.1 6 = u1.1 6 := by rw [← hu2, wr_ne _ (by decide), wr_ne _ (by decide), wr_ne _ (by decide)]
            have g59 : ∀ a b, a < 12 → b < 12 → pbF u2 a b = if (a = x ∧ b = y) ∨ (a = y ∧ b = x) then c else pbF u a b := by
              intro a b ha2 hb2
              unfold pbF
              rw [← hu2, wr_get, wr_get, wr_ne _ (by decide), f1.2 59 (by decide)]
              by_cases q1 : a = y ∧ b = x
              · obtain ⟨rfl, rfl⟩ := q1
                rw [if_pos ⟨rfl, rfl⟩, if_pos (Or.inr ⟨rfl, rfl⟩)]
                cases c <;> decide
              · rw [if_neg (fun q => q1 (by omega))]
                by_cases q2 : a = x ∧ b = y
                · obtain ⟨rfl, rfl⟩ := q2
                  rw [if_pos ⟨rfl, rfl⟩, if_pos (Or.inl ⟨rfl, rfl⟩)]
                  cases c <;> decide
                · rw [if_neg (fun q => q2 (by omega)), if_neg (fun q => q.elim q2 q1)]
            refine ⟨c2, ?_, ?_, ?_, ?_, ?_, ?_⟩
            · obtain ⟨r, r1, r2, r3⟩ := h2
              refine ⟨r, r1, by rw [f2.2 4 (by decide)]; exact r2, ?_⟩
              rw [← hu2, wr_ne _ (by decide), wr_ne _ (by decide), wr_nek _ (by decide), f1.2 50 (by decide)]
              exact r3
            · rcases h3 with q | ⟨q1, q2, q3⟩
              · exact Or.inl (by rw [f2.2 11 (by decide)]; exact q)
              · refine Or.inr ⟨by rw [f2.2 11 (by decide)]; exact q1, ?_, ?_⟩
                · rw [ha, f2.2 4 (by decide)]
                  exact q2.congr (by rw [f2.2 11 (by decide)]) (f2.2 12 (by decide)) (f2.2 13 (by decide)) (f2.2 14 (by decide))
                · rw [ha, f2.2 4 (by decide)]
                  exact q3.congr (by rw [f2.2 11 (by decide)]) (f2.2 15 (by decide))
            · left
              rw [← hu2, wr_ne _ (by decide), wr_ne _ (by decide), wr_ne _ (by decide)]
              exact e16
            · unfold LvK
              rw [ha, hL, f2.2 18 (by decide), f2.2 19 (by decide)]
              exact h5
            · intro a b ha2 hb2
              rw [g6, e6, g59 a b ha2 hb2, g59 b a hb2 ha2]
              obtain ⟨p1, p2⟩ := h6 a b ha2 hb2
              have hnc : pbF u x y = !c := by
                cases hq : pbF u x y with
                | true => cases c with
                  | true => exact absurd hq hpc
                  | false => rfl
                | false => cases c with
                  | true => rfl
                  | false => exact absurd hq hpc
              refine ⟨?_, ?_⟩
              · by_cases ay : a = y
                · subst ay
                  simp only [if_true]
                  rw [bt_xor, bt_shl1 (by omega), p1]
                  by_cases bx : b = x
                  · subst bx
                    rw [if_pos (by simp), p2, hnc]
                    cases c <;> simp
                  · rw [if_neg (fun q => by rcases q with ⟨q, -⟩ | ⟨-, q⟩ <;> omega)]
                    simp [bx]
                · simp only [ay, if_false]
                  by_cases ax : a = x
                  · subst ax
                    simp only [if_true]
                    rw [bt_xor, bt_shl1 (by omega), p1]
                    by_cases b_y : b = y
                    · subst b_y
                      rw [if_pos (by simp), hnc]
                      cases c <;> simp
                    · rw [if_neg (fun q => by rcases q with ⟨-, q⟩ | ⟨q, -⟩ <;> omega)]
                      simp [b_y]
                  · simp only [ax, if_false]
                    rw [p1, if_neg (fun q => by rcases q with ⟨q, -⟩ | ⟨q, -⟩ <;> omega)]
              · by_cases q : (a = x ∧ b = y) ∨ (a = y ∧ b = x)
                · rw [if_pos q, if_pos (by omega)]
                · rw [if_neg q, if_neg (by omega)]
                  exact p2
            · unfold DrK txt
              rw [f2.2 0 (by decide), f2.2 4 (by decide)]
              exact h7
          · refine ⟨fun a ha => ?_, fun i hi => ?_⟩
            · rw [wr_ne _ (by decide), wr_ne _ (by decide), wr_ne _ (by decide), f1.2 58 (by decide)]
              exact hb.1 a ha
            · rw [wr_get, wr_get, wr_ne _ (by decide), f1.2 59 (by decide)]
              by_cases q1 : 59 = 59 ∧ i = 12 * y + x
              · rw [if_pos q1]; cases c <;> simp [b2i]
              · rw [if_neg q1]
                by_cases q2 : 59 = 59 ∧ i = 12 * x + y
                · rw [if_pos q2]; cases c <;> simp [b2i]
                · rw [if_neg q2]; exact hb.2 i hi
          · refine KpN.of (P := [6, 16, 50, 59]) ((((f1.mono (by intro q hq; simp at hq ⊢; omega)).w (by decide)).w (by decide)).w (by decide)) (by decide) (by rw [wr_ne _ (by decide), wr_ne _ (by decide), wr_ne _ (by decide), f1.2 4 (by decide)]) (fun k hk => ?_)
            rw [wr_ne _ (by decide), wr_ne _ (by decide), wr_nek _ (by rintro rfl; exact absurd hk (by decide)), f1.2 50 (by decide)]
/-- the walk, the hazards and the live ones are forgotten -/
theorem p_forget (F : Nat) (u : St) : f_X11_forgetWalk F u = some (wr (wr (wr (wr u 11 7 0) 16 4 0) 18 5 0) 18 6 0) := rfl
/-- promise 7 -/
theorem op_stuck (F : Nat) {u : St} (h : CirI u) (hb : BoI u) (x1 : Int32) (c : Bool) : ∃ r u1 u2, f_X11_stuck F x1 (b2i c) u = some (r, u1) ∧ f_X12_stuck F x1 (b2i c) u1 = some (r, u2) ∧ CirI u2 ∧ BoI u2 ∧ KpN u u2 := by
  unfold f_X11_stuck f_X12_stuck
  have no := h.w0
  rcases ix12 x1 with hx | ⟨x, hx, rfl⟩
  · refine ⟨0, u, wr u 50 0 0, ?_, ?_, no.1, hb.w0, no.2.1.n⟩
    · rw [sg_out F hx]; rfl
    · rw [msg_out F hx]; rfl
  · obtain ⟨h1, h2, h3, h4, h5, h6, h7⟩ := id h
    obtain ⟨hE, hW, hR, hS, hK, hC⟩ := id h1
    have hst : f_X0_isStuck F (nI x) u = some (b2i (!decide (u.1 58 x = 0)), u) := by
      unfold f_X0_isStuck
      rw [p_isIn F _ (by omega), hK x hx]
      simp only [Option.bind_some]
      rw [if_pos (by cases (!decide (u.1 58 x = 0)) <;> simp [b2i])]
    have h58 : u.1 58 x = b2i (!decide (u.1 58 x = 0)) := b2i_of (hb.1 x hx)
    rw [sg_in F hx]
    simp only [Option.bind_some]
    rw [if_neg (by decide), hst]
    simp only [Option.bind_some]
    by_cases hpc : (!decide (u.1 58 x = 0)) = c
    · refine ⟨0, u, wr u 50 0 0, ?_, ?_, no.1, hb.w0, no.2.1.n⟩
      · rw [if_pos (by rw [hpc])]
      · rw [msg_in F hx]
        simp only [Option.bind_some]
        rw [if_neg (by decide), nI_clamp (by omega), if_neg (gin hx (by decide)), wr_ne _ (by decide), if_pos (by rw [h58, hpc])]
    · rw [if_neg (fun q => hpc (b2i_inj.mp q)), show f_X0_turnStuck F (nI x) u = some (wr u 4 4 ((u.1 4 4) ^^^ ((1 : Int32) <<< (nI x &&& 31)))) from rfl]
      simp only [Option.bind_some]
      rw [p_forget]
      simp only [Option.bind_some]
      generalize hu1 : wr (wr (wr (wr (wr u 4 4 ((u.1 4 4) ^^^ ((1 : Int32) <<< (nI x &&& 31)))) 11 7 0) 16 4 0) 18 5 0) 18 6 0 = u1
      have f1 : Fr [4, 11, 16, 18] u u1 := by rw [← hu1]; exact (((((Fr.rf _ u).w (by decide)).w (by decide)).w (by decide)).w (by decide)).w (by decide)
      have e4 : ∀ k, u1.1 4 k = if k = 4 then (u.1 4 4) ^^^ ((1 : Int32) <<< (nI x &&& 31)) else u.1 4 k := fun k => by
        rw [← hu1, wr_ne _ (by decide), wr_ne _ (by decide), wr_ne _ (by decide), wr_ne _ (by decide)]
        simp [wr]
      have e11 : u1.1 11 7 = 0 := by rw [← hu1, wr_ne _ (by decide), wr_ne _ (by decide), wr_ne _ (by decide), wr_eq]
      have e16 : u1.1 16 4 = 0 := by rw [← hu1, wr_ne _ (by decide), wr_ne _ (by decide), wr_eq]
      have e185 : u1.1 18 5 = 0 := by rw [← hu1, wr_nek _ (by decide), wr_eq]
      have e186 : u1.1 18 6 = 0 := by rw [← hu1, wr_eq]
      refine ⟨1, u1, wr (wr u1 50 0 0) 58 x (b2i c), rfl, ?_, ?_, ?_, ?_⟩
      · rw [msg_in F hx]
        simp only [Option.bind_some]
        rw [if_neg (by decide), nI_clamp (by omega), if_neg (gin hx (by decide)), wr_ne _ (by decide), f1.2 58 (by decide), if_neg (by rw [h58]; exact fun q => hpc (b2i_inj.mp q)), if_neg (gin hx (by decide)), nar_b]
      · generalize hu2 : wr (wr u1 50 0 0) 58 x (b2i c) = u2
        have f2 : Fr [4, 11, 16, 18, 50, 58] u u2 := by rw [← hu2]; exact ((f1.mono (by intro q hq; simp at hq ⊢; omega)).w (by decide)).w (by decide)
        have g4 : u2.1 4 = u1.1 4 := by rw [← hu2, wr_ne _ (by decide), wr_ne _ (by decide)]
        have ht : txt u2 = txt u := by unfold txt; rw [g4, e4, if_neg (by decide)]
        have q0 : u2.1 (txt u) = u.1 (txt u) := f2.2 _ (by rcases hE with q | q <;> rw [q] <;> decide)
        have q1 : u2.1 (txt u + 1) = u.1 (txt u + 1) := f2.2 _ (by rcases hE with q | q <;> rw [q] <;> decide)
        have q2 : u2.1 (txt u + 2) = u.1 (txt u + 2) := f2.2 _ (by rcases hE with q | q <;> rw [q] <;> decide)
        have q3 : u2.1 (txt u + 3) = u.1 (txt u + 3) := f2.2 _ (by rcases hE with q | q <;> rw [q] <;> decide)
        have ev : ∀ s T, vlC u2 (txt u) s T = vlC u (txt u) s T := fun s T => vlC_congr q1 q2 q3 s T
        have em : ∀ s y, mVal u2 s y = mVal u s y := fun s y => by
          unfold mVal
          rw [f2.2 52 (by decide), f2.2 53 (by decide), f2.2 54 (by decide)]
        refine ⟨⟨by rw [ht]; exact hE, hW.fr (f2.2 52 (by decide)), ?_, by rw [ht, q0]; exact hS, ?_, ?_⟩, ?_, Or.inl ?_, Or.inl ?_, ⟨?_, ?_⟩, ?_, ?_⟩
        · obtain ⟨T, t1, t2, t3⟩ := hR
          refine ⟨T, t1, by rw [ht, q0]; exact t2, fun y hy => ?_⟩
          rw [ht, q0, f2.2 52 (by decide)]
          exact ⟨(t3 y hy).1, fun hne s => by rw [ev, em]; exact (t3 y hy).2 hne s⟩
        · intro y hy
          rw [g4, e4, if_pos rfl, bt_xor, bt_shl1 (by omega), hK y hy, ← hu2]
          by_cases e : y = x
          · subst e
            rw [wr_eq]
            have : (!decide (u.1 58 y = 0)) = !c := by
              cases hq : (!decide (u.1 58 y = 0)) with
              | true => cases c with
                | true => exact absurd hq hpc
                | false => rfl
              | false => cases c with
                | true => rfl
                | false => exact absurd hq hpc
            rw [this]
            cases c <;> simp [b2i]
          · rw [wr_nek _ e, wr_ne _ (by decide), f1.2 58 (by decide)]
            simp [e]
        · intro n hn
          rw [f2.2 5 (by decide), ht, q0]
          rcases hC n hn with q | q
          · exact Or.inl q
          · exact Or.inr (fun T t1 t2 => by rw [ev]; exact q T t1 t2)
        · obtain ⟨r, r1, r2, r3⟩ := h2
          refine ⟨r, r1, by rw [g4, e4, if_neg (by decide)]; exact r2, ?_⟩
          rw [← hu2, wr_ne _ (by decide), wr_nek _ (by decide), f1.2 50 (by decide)]
          exact r3
        · rw [← hu2, wr_ne _ (by decide), wr_ne _ (by decide)]; exact e11
        · rw [← hu2, wr_ne _ (by decide), wr_ne _ (by decide)]; exact e16
        · intro n hn
          rw [f2.2 19 (by decide)]
          exact h5.1 n hn
        · intro y hy
          have z5 : u2.1 18 5 = 0 := by rw [← hu2, wr_ne _ (by decide), wr_ne _ (by decide)]; exact e185
          have z6 : u2.1 18 6 = 0 := by rw [← hu2, wr_ne _ (by decide), wr_ne _ (by decide)]; exact e186
          rw [z5, z6, bt_zero]
          exact ⟨fun q => absurd q (by decide), fun q => q⟩
        · have hp : pbF u2 = pbF u := by unfold pbF; rw [f2.2 59 (by decide)]
          unfold PtK
          rw [hp, f2.2 6 (by decide)]
          exact h6
        · unfold DrK
          rw [f2.2 0 (by decide), ht]
          exact h7
      · refine ⟨fun a ha => ?_, fun i hi => ?_⟩
        · by_cases e : a = x
          · subst e
            rw [wr_eq]; cases c <;> simp [b2i]
          · rw [wr_nek _ e, wr_ne _ (by decide), f1.2 58 (by decide)]
            exact hb.1 a ha
        · rw [wr_ne _ (by decide), wr_ne _ (by decide), f1.2 59 (by decide)]
          exact hb.2 i hi
      · refine KpN.of (P := [4, 11, 16, 18, 50, 58]) (((f1.mono (by intro q hq; simp at hq ⊢; omega)).w (by decide)).w (by decide)) (by decide) (by rw [wr_ne _ (by decide), wr_ne _ (by decide), e4, if_neg (by decide)]) (fun k hk => ?_)
        rw [wr_ne _ (by decide), wr_nek _ (by rintro rfl; exact absurd hk (by decide)), f1.2 50 (by decide)]
