/-! the system's timetable -/
def OL (u : St) (L : List Nat) : Prop := u.1 33 3 = nI L.length ∧ ∀ i e, L[i]? = some e → u.1 45 i = nI e
theorem l_app (F : Nat) {n m : Nat} {sr tg tk dl : Nat → Nat} {y : Int32} {p : Nat → Bool} (hy : ∀ v, v < n → bt y v = p v) {L0 : List Nat} (hl : (L0 ++ (List.range m).filter (fun e => p (tg e))).length ≤ 20) : ∀ (c a k : Nat) (u : St), a + c = m → c < k → SN u n m sr tg tk dl → OL u (L0 ++ (List.range a).filter (fun e => p (tg e))) → ∃ u', l_X8_appendArcsTo_2 F y k (nI a) u = some (nI m, u') ∧ OL u' (L0 ++ (List.range m).filter (fun e => p (tg e))) ∧ Fr [33, 45] u u' ∧ ∀ j, j ≠ 3 → u'.1 33 j = u.1 33 j
  | c, a, 0, u, hc, hk, hN, hO => absurd hk (by omega)
  | c, a, k + 1, u, hc, hk, hN, hO => by
    have hn10 := hN.1
    have hm20 := hN.2.1
    show ∃ u', b_X8_appendArcsTo_2 F y (l_X8_appendArcsTo_2 F y k) (nI a) u = _ ∧ _
    unfold b_X8_appendArcsTo_2
    rw [show f_X4_arcs F u = some (u.1 22 5, u) from rfl, Option.bind_some]
    dsimp only
    rw [hN.2.2.2.1]
    cases c with
    | zero =>
      have : a = m := by omega
      subst this
      rw [if_pos (nI_le (by omega) (by omega))]
      exact ⟨u, rfl, hO, Fr.rf _ u, fun _ _ => rfl⟩
    | succ c =>
      have ham : a < m := by omega
      have htn := (hN.2.2.2.2.1 a ham).2.2.2.2.1
      rw [if_neg (nI_ge ham (by omega)), p_tgO F hN ham, Option.bind_some]
      dsimp only
      rw [p_isIn F y (by omega), Option.bind_some, hy _ htn]
      dsimp only
      rw [nI_1]
      have hr : (List.range (a + 1)).filter (fun e => p (tg e)) = (List.range a).filter (fun e => p (tg e)) ++ (if p (tg a) then [a] else []) := by
        rw [List.range_succ, List.filter_append]
        congr 1
        cases hp : p (tg a) <;> simp [hp]
      cases hp : p (tg a) with
      | false =>
        rw [hp] at hr
        rw [if_pos (show b2i false = 0 from rfl)]
        refine l_app F hy hl c (a + 1) k u (by omega) (by omega) hN ?_
        rw [hr]
        simpa using hO
      | true =>
        rw [hp] at hr
        rw [if_neg (by decide)]
        have hmono : ((List.range (a + 1)).filter (fun e => p (tg e))).length ≤ ((List.range m).filter (fun e => p (tg e))).length := ((List.range_sublist.mpr (by omega)).filter _).length_le
        have hlen : (L0 ++ (List.range a).filter (fun e => p (tg e))).length + 1 = (L0 ++ (List.range (a + 1)).filter (fun e => p (tg e))).length := by
          rw [hr]; simp; omega
        rw [List.length_append] at hl
        have h20 : (L0 ++ (List.range a).filter (fun e => p (tg e))).length < 20 := by
          rw [List.length_append (as := L0) (bs := (List.range (a + 1)).filter (fun e => p (tg e)))] at hlen
          omega
        obtain ⟨o1, o2⟩ := id hO
        rw [o1, show (20 : Int32) = nI 20 from rfl, if_neg (nI_ge h20 (by decide)), nI_clamp (by omega), if_neg (gin h20 (by decide)), wr_ne _ (show (33 : Nat) ≠ 45 by decide), o1, nI_1]
        generalize hQ : L0 ++ (List.range a).filter (fun e => p (tg e)) = Q at *
        have fw : Fr [33, 45] u (wr (wr u 45 Q.length (nI a)) 33 3 (nI (Q.length + 1))) := ((Fr.rf _ u).w (by decide)).w (by decide)
        obtain ⟨u', r1, r2, r3, r4⟩ := l_app F hy (L0 := L0) (by rw [List.length_append]; exact hl) c (a + 1) k _ (by omega) (by omega) (hN.fr fw (by decide) (by decide) (by decide) (by decide) (by decide)) (by
          rw [hr, ← List.append_assoc, hQ]
          refine ⟨by rw [wr_eq]; simp, fun i e he => ?_⟩
          rw [wr_ne _ (by decide)]
          by_cases q : i < Q.length
          · rw [if_pos rfl, List.getElem?_append_left q] at he
            rw [wr_nek _ (by omega)]
            exact o2 i e he
          · rw [if_pos rfl, List.getElem?_append_right (by omega)] at he
            have hi : i = Q.length := by
              rcases Nat.lt_or_ge Q.length i with z | z
              · rw [List.getElem?_eq_none (by simp; omega)] at he
                cases he
              · omega
            subst hi
            rw [Nat.sub_self] at he
            cases he
            exact wr_eq _)
        exact ⟨u', r1, r2, fw.tr r3, fun j hj => by rw [r4 j hj, wr_nek _ hj, wr_ne _ (by decide)]⟩
theorem l_ord (F : Nat) (hF : 100 ≤ F) {n m : Nat} {sr tg tk dl : Nat → Nat} : ∀ (c r k : Nat) (u : St) (O : List Nat), r + c = n → c < k → SN u n m sr tg tk dl → OL u O → GO m sr tg tk (frd n m sr tg tk 0 r) O → (∀ v, v < n → bt (u.1 33 4) v = frd n m sr tg tk 0 r v) → ∃ u' O', l_X8_orderArcs_12 F k (nI r) u = some (nI n, u') ∧ OL u' O' ∧ GO m sr tg tk (fre n m sr tg tk) O' ∧ (∀ v, v < n → bt (u'.1 33 4) v = fre n m sr tg tk v) ∧ Fr [33, 45] u u' ∧ u'.1 33 5 = u.1 33 5
  | c, r, 0, u, O, hc, hk, hN, hO, hG, hx => absurd hk (by omega)
  | c, r, k + 1, u, O, hc, hk, hN, hO, hG, hx => by
    have hn10 := hN.1
    have hm20 := hN.2.1
    show ∃ u' O', b_X8_orderArcs_12 F (l_X8_orderArcs_12 F k) (nI r) u = _ ∧ _
    unfold b_X8_orderArcs_12
    rw [show f_X4_nodes F u = some (u.1 22 4, u) from rfl, Option.bind_some]
    dsimp only
    rw [hN.2.2.1]
    cases c with
    | zero =>
      have : r = n := by omega
      subst this
      rw [if_pos (nI_le (by omega) (by omega))]
      exact ⟨u, O, rfl, hO, hG, hx, Fr.rf _ u, rfl⟩
    | succ c =>
      obtain ⟨z, z1, z2⟩ := p_freed F hF hN (most := 0) (by decide) (u.1 33 4)
      have z1 : f_X4_freedBy F (u.1 33 4) 0 u = some (z, u) := z1
      have z3 : ∀ v, bt z v = frd n m sr tg tk 0 (r + 1) v := fun v => by rw [z2, frd_w (fun e he => (hN.2.2.2.2.1 e he).2.2.2.1) hx]
      rw [if_neg (nI_ge (show r < n by omega) (by omega)), z1, Option.bind_some]
      dsimp only
      have hG2 := hG.step
      have hlen := hG2.len
      obtain ⟨w, w1, w2, w3, w4⟩ := l_app F (y := z &&& ((u.1 33 4) ^^^ (-1))) (p := fun v => frd n m sr tg tk 0 (r + 1) v && !frd n m sr tg tk 0 r v) (fun v hv => by
        rw [bt_and, bt_not _ (by omega), z3, hx v hv]) (L0 := O) (by omega) m 0 F u (by omega) (by omega) hN (by simpa using hO)
      have e1 : f_X8_appendArcsTo F (z &&& ((u.1 33 4) ^^^ (-1))) u = some w := by
        unfold f_X8_appendArcsTo
        rw [show (0 : Int32) = nI 0 from rfl, w1]
        rfl
      rw [e1, Option.bind_some, nI_1]
      have fw : Fr [33, 45] u (wr w 33 4 z) := w3.w (by decide)
      obtain ⟨v, O', v1, v2, v3, v4, v5, v6⟩ := l_ord F hF c (r + 1) k (wr w 33 4 z) _ (by omega) (by omega) (hN.fr fw (by decide) (by decide) (by decide) (by decide) (by decide)) ⟨by rw [wr_nek _ (by decide)]; exact w2.1, fun i e he => by rw [wr_ne _ (by decide)]; exact w2.2 i e he⟩ hG2 (fun v hv => by rw [wr_eq, z3])
      exact ⟨v, O', v1, v2, v3, v4, fw.tr v5, by rw [v6, wr_nek _ (by decide), w4 5 (by decide)]⟩
theorem p_ord (F : Nat) (hF : 100 ≤ F) {u : St} {n m : Nat} {sr tg tk dl : Nat → Nat} (hN : SN u n m sr tg tk dl) : ∃ u' O, f_X8_orderArcs F u = some u' ∧ OL u' O ∧ GO m sr tg tk (fre n m sr tg tk) O ∧ (∀ v, v < n → bt (u'.1 33 4) v = fre n m sr tg tk v) ∧ Fr [33, 45] u u' ∧ u'.1 33 5 = u.1 33 5 := by
  have hn10 := hN.1
  have fw : Fr [33, 45] u (wr (wr u 33 3 0) 33 4 0) := ((Fr.rf _ u).w (by decide)).w (by decide)
  obtain ⟨v, O', v1, v2, v3, v4, v5, v6⟩ := l_ord F hF n 0 F (wr (wr u 33 3 0) 33 4 0) [] (by omega) (by omega) (hN.fr fw (by decide) (by decide) (by decide) (by decide) (by decide)) ⟨by rw [wr_nek _ (by decide), wr_eq]; rfl, fun i e he => by simp at he⟩ ⟨List.nodup_nil, fun e => ⟨fun z => by simp at z, fun z => by cases z.2⟩, fun i e he => by simp at he⟩ (fun v _ => by rw [wr_eq, bt_zero]; rfl)
  refine ⟨v, O', ?_, v2, v3, v4, fw.tr v5, by rw [v6, wr_nek _ (by decide), wr_nek _ (by decide)]⟩
  unfold f_X8_orderArcs
  have v1 : l_X8_orderArcs_12 F F 0 (wr (wr u 33 3 0) 33 4 0) = _ := v1
  rw [v1]
  rfl
def BP : List Nat := [35, 36, 37, 38, 39, 40, 41, 42, 43, 44]
def CB (n : Nat) (u : St) (k : Nat) (st : Nat → Option Nat) : Prop := ∀ v, v < n → u.1 (35 + v) k = eN (st v)
def FB (k : Nat) (u v : St) : Prop := Fr BP u v ∧ ∀ q j, j ≠ k → v.1 q j = u.1 q j
theorem FB.rf (k : Nat) (u : St) : FB k u u := ⟨Fr.rf _ u, fun _ _ _ => rfl⟩
theorem FB.tr {k : Nat} {u v w : St} (h : FB k u v) (g : FB k v w) : FB k u w := ⟨h.1.tr g.1, fun q j hj => (g.2 q j hj).trans (h.2 q j hj)⟩
theorem BP_in {v : Nat} (h : v < 10) : 35 + v ∈ BP := by
  have : ∀ v, v < 10 → 35 + v ∈ BP := by decide
  exact this v h
theorem FB.w {k v : Nat} (u : St) (hv : v < 10) (x : Int32) : FB k u (wr u (35 + v) k x) := ⟨(Fr.rf _ u).w (BP_in hv), fun q j hj => by
  rw [wr_get, if_neg (fun z => hj z.2)]⟩
theorem FB.sn {k : Nat} {u v : St} {n m : Nat} {sr tg tk dl : Nat → Nat} (f : FB k u v) (h : SN u n m sr tg tk dl) : SN v n m sr tg tk dl := h.fr f.1 (by decide) (by decide) (by decide) (by decide) (by decide)
theorem FB.ol {k : Nat} {u v : St} {O : List Nat} (f : FB k u v) (h : OL u O) : OL v O := by
  unfold OL
  rw [f.1.2 33 (by decide), f.1.2 45 (by decide)]
  exact h
theorem l_fil2 (F : Nat) {n m : Nat} {sr tg tk dl : Nat → Nat} {K : Nat} (hK : K ≤ 200) {fr : Nat → Bool} : ∀ (c v k : Nat) (u : St), v + c = n → c < k → SN u n m sr tg tk dl → (∀ x, x < n → bt (u.1 33 4) x = fr x) → (∀ x, x < v → u.1 (35 + x) K = eN (if fr x then some 0 else none)) → ∃ u', l_X8_fill_2 F (nI K) k (nI v) u = some (nI n, u') ∧ FB K u u' ∧ CB n u' K (fun x => if fr x then some 0 else none)
  | c, v, 0, u, hc, hk, hN, hx, hB => absurd hk (by omega)
  | c, v, k + 1, u, hc, hk, hN, hx, hB => by
    have hn10 := hN.1
    show ∃ u', b_X8_fill_2 F (nI K) (l_X8_fill_2 F (nI K) k) (nI v) u = _ ∧ _
    unfold b_X8_fill_2
    rw [show f_X4_nodes F u = some (u.1 22 4, u) from rfl, Option.bind_some]
    dsimp only
    rw [hN.2.2.1]
    cases c with
    | zero =>
      have : v = n := by omega
      subst this
      rw [if_pos (nI_le (by omega) (by omega))]
      exact ⟨u, rfl, FB.rf _ u, hB⟩
    | succ c =>
      have hvn : v < n := by omega
      have hgK : ¬ (nI K < 0 ∨ 201 ≤ K) := gin (show K < 201 by omega) (by decide)
      rw [if_neg (nI_ge hvn (by omega)), nI_clamp (by omega), nI_clamp (show K < 2 ^ 31 by omega), if_neg (gin (show v < 10 by omega) (by decide)), p_isIn F _ (by omega), Option.bind_some, hx v hvn]
      dsimp only
      rw [if_neg hgK, if_neg hgK, nI_1]
      have key : ∀ y : Int32, y = eN (if fr v then some 0 else none) → ∃ u', l_X8_fill_2 F (nI K) k (nI (v + 1)) (wr u (35 + v) K y) = some (nI n, u') ∧ FB K u u' ∧ CB n u' K (fun x => if fr x then some 0 else none) := fun y hy => by
        have fw : FB K u (wr u (35 + v) K y) := FB.w u (by omega) y
        obtain ⟨u', r1, r2, r3⟩ := l_fil2 F hK (fr := fr) c (v + 1) k (wr u (35 + v) K y) (by omega) (by omega) (fw.sn hN) (fun x hxn => by rw [fw.1.2 33 (by decide)]; exact hx x hxn) (fun x hxv => by
          by_cases q : x = v
          · rw [q, wr_eq]; exact hy
          · rw [wr_ne _ (by omega)]; exact hB x (by omega))
        exact ⟨u', r1, fw.tr r2, r3⟩
      cases hf : fr v with
      | false => rw [if_pos (show b2i false = 0 from rfl)]; exact key _ (by rw [hf]; rfl)
      | true => rw [if_neg (by decide)]; exact key _ (by rw [hf]; rfl)
theorem eN_m1 {o : Option Nat} (h : ∀ b, o = some b → b < 2 ^ 31) : eN o = -1 ↔ o = none := by
  cases o with
  | none => exact ⟨fun _ => rfl, fun _ => rfl⟩
  | some b => exact ⟨fun z => absurd z (nI_ne_m1 (h b rfl)), fun z => by cases z⟩
theorem p_later (F : Nat) (u : St) {a b : Option Nat} (ha : ∀ x, a = some x → x < 2 ^ 31) (hb : ∀ x, b = some x → x < 2 ^ 31) : f_X8_later F (eN a) (eN b) u = some (eN (lat a b), u) := by
  unfold f_X8_later
  cases a with
  | none => rw [if_pos (show eN none = -1 from rfl)]; rfl
  | some x =>
    rw [if_neg (show ¬ eN (some x) = -1 from nI_ne_m1 (ha x rfl))]
    cases b with
    | none => rw [if_pos (show eN none = -1 from rfl)]; rfl
    | some y =>
      rw [if_neg (show ¬ eN (some y) = -1 from nI_ne_m1 (hb y rfl))]
      show some (if nI x < nI y then nI y else nI x, u) = some (nI (if x < y then y else x), u)
      by_cases h : x < y
      · rw [if_pos (nI_lt h (hb y rfl)), if_pos h]
      · rw [if_neg (nI_nlt (by omega) (ha x rfl)), if_neg h]
theorem p_done (F : Nat) {u : St} {n m : Nat} {sr tg tk dl : Nat → Nat} (hN : SN u n m sr tg tk dl) {v k : Nat} (hv : v < n) (h1 : 1 ≤ k) (h2 : k ≤ 200) {o : Option Nat} (ho : u.1 (35 + v) k = eN o) (hb : ∀ b, o = some b → b < 2 ^ 31) : f_X8_doneAt F (nI v) (nI k) u = some (eN (o.map (fun b => b + dl v)), u) := by
  have hn10 := hN.1
  unfold f_X8_doneAt
  rw [if_pos (show (1 : Int32) ≤ nI k from nI_le h1 (by omega)), nI_clamp (by omega), nI_clamp (by omega), if_neg (gin (show v < 10 by omega) (by decide)), if_neg (gin (show k < 201 by omega) (by decide)), ho]
  cases o with
  | none => rw [if_pos (show eN none = -1 from rfl)]; rfl
  | some b =>
    rw [if_neg (show ¬ eN (some b) = -1 from nI_ne_m1 (hb b rfl)), p_dlO F hN hv, Option.bind_some]
    show some (nI b + nI (dl v), u) = some (nI (b + dl v), u)
    rw [nI_add]
theorem p_done0 (F : Nat) (u : St) {v : Int32} {k t : Nat} (hk : k ≤ 200) (ht : t ≤ 9) (h : k ≤ t) : f_X8_doneAt F v (nI k - nI t) u = some (0, u) := by
  unfold f_X8_doneAt
  rw [if_neg]
  intro z
  have z1 := Int32.le_iff_toInt_le.mp z
  rw [pk_sub_toInt (by omega) (by omega), show (1 : Int32).toInt = 1 from rfl] at z1
  omega
