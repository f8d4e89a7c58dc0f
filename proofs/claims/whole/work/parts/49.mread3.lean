/-! the model's reader: an equation, the whole text -/
theorem bitI_bt {x : Nat} (hx : x < 12) (j : Nat) : bt (bitI x) j = decide (j = x) := bt_shl1 (by omega) j
theorem or_bt (sg : Int32) {x : Nat} (hx : x < 12) (j : Nat) : bt (sg ||| bitI x) j = (bt sg j || decide (j = x)) := by rw [bt_or, bitI_bt hx]
theorem MR.begin' {E : EL} {sg : Int32} {u v : St} (h : MR E sg u) {x : Nat} (hx : x < 12) (hs : bt sg x = false) (h55 : v.1 55 x = 0) (k55 : ∀ k, k ≠ x → v.1 55 k = u.1 55 k) (h56 : v.1 56 = u.1 56) (h57 : v.1 57 = u.1 57) : MR E (sg ||| bitI x) v := by
  intro y hy
  rw [or_bt sg hx, h56, h57]
  by_cases hxy : y = x
  · subst hxy
    obtain ⟨e1, e2⟩ := (h y hy).1 hs
    refine ⟨fun z => by simp at z, fun _ => ?_⟩
    rw [h55, e2]
    exact ⟨rfl, by simp, fun t o z ht => by simp at ht⟩
  · rw [k55 y hxy]
    simp only [hxy, decide_false, Bool.or_false]
    exact h y hy
theorem MR.const {E : EL} {sg : Int32} {u v : St} (h : MR E sg u) {x : Nat} (hx : x < 12) (hs : bt sg x = true) (ho : own E x = []) {o z : Int32} (h55 : v.1 55 x = 1) (k55 : ∀ k, k ≠ x → v.1 55 k = u.1 55 k) (h56 : v.1 56 (12 * x) = o) (k56 : ∀ k, k ≠ 12 * x → v.1 56 k = u.1 56 k) (h57 : v.1 57 (12 * x) = z) (k57 : ∀ k, k ≠ 12 * x → v.1 57 k = u.1 57 k) : MR (E ++ [(x, o, z)]) sg v := by
  intro y hy
  by_cases hxy : x = y
  · subst hxy
    rw [own_same, ho]
    refine ⟨fun q => absurd (q.symm.trans hs) (by decide), fun _ => ⟨h55, by simp, fun t o2 z2 ht => ?_⟩⟩
    cases t with
    | zero =>
      have := Option.some.inj ht
      cases this
      exact ⟨h56, h57⟩
    | succ t => simp at ht
  · rw [own_other _ hxy, k55 y (fun q => hxy q.symm)]
    refine ⟨(h y hy).1, fun hb => ?_⟩
    obtain ⟨i1, i2, i3⟩ := (h y hy).2 hb
    refine ⟨i1, i2, fun t o z ht => ?_⟩
    have htl := (List.getElem?_eq_some_iff.mp ht).1
    rw [k56 _ (by omega), k57 _ (by omega)]
    exact i3 t o z ht
theorem k_eq (F : Nat) (hF : 1000 ≤ F) {l : List Nat} {q : Nat} {u : St} {E : EL} {sg : Int32} (hM : MS l q u) (hR : MR E sg u) : ∃ r u', f_X12_equation F u = some (b2i (eqS l (pbk l q) E sg).1, u') ∧ MS l r u' ∧ pbk l r = (eqS l (pbk l q) E sg).2.1 ∧ ((eqS l (pbk l q) E sg).1 = false → r = (eqS l (pbk l q) E sg).2.1) ∧ FN u u' ∧ ((eqS l (pbk l q) E sg).1 = true → MR (eqS l (pbk l q) E sg).2.2.1 (eqS l (pbk l q) E sg).2.2.2 u') := by
  unfold f_X12_equation
  obtain ⟨u1, g1, g2, g3⟩ := k_look F hF hM
  rw [g1, Option.bind_some]
  try dsimp only
  rw [k_let F hM.b256, Option.bind_some]
  try dsimp only
  unfold eqS
  cases hj : ltr l (pbk l q) with
  | none =>
    rw [if_pos (by simp [b2i])]
    exact ⟨pbk l q, u1, rfl, g3, pbk_pk _ _, fun _ => rfl, g2.fn, fun z => Bool.noConfusion z⟩
  | some x =>
    obtain ⟨hx, hp⟩ := ltr_lt hj
    obtain ⟨hb1, hb2⟩ := ltr_b hj
    simp only
    rw [if_neg (by simp [b2i]), hb2, show (97 : Int32) = nI 97 from rfl, pk_sub (by omega), show x + 97 - 97 = x by omega, nI_clamp (by omega), if_neg (gin hx (by decide)), g2.1.2 55 (by decide)]
    cases hs : bt sg x with
    | true =>
      obtain ⟨e1, e2, e3⟩ := (hR x hx).2 hs
      rw [if_neg (by rw [e1]; exact nI_ne_m1 (by omega))]
      exact ⟨pbk l q, u1, rfl, g3, pbk_pk _ _, fun _ => rfl, g2.fn, fun z => Bool.noConfusion z⟩
    | false =>
      obtain ⟨e1, e2⟩ := (hR x hx).1 hs
      rw [if_pos e1, if_neg (by decide), g3.2.2.2.1, nI_1]
      have f2 := FA.at' u1 (nI (pbk l q + 1))
      have M2 : MS l (pbk l q + 1) (wr u1 50 12 (nI (pbk l q + 1))) := g3.mv f2 (wr_eq _) (by omega)
      obtain ⟨u3, k1, k2, k3⟩ := k_look F hF M2
      have f13 : FA u u3 := g2.tr (f2.tr k2)
      rw [k1, Option.bind_some]
      try dsimp only
      by_cases h61 : bvN l (pbk l (pbk l q + 1)) = 61
      · rw [if_pos h61, if_pos h61, if_neg (gin hx (by decide)), k3.2.2.2.1, nI_1]
        have hlt := bvN_lt (by decide) h61
        have f4 : FN u3 (wr (wr u3 50 12 (nI (pbk l (pbk l q + 1) + 1))) 55 x 0) := (FA.at' u3 _).fn.w (by decide)
        have M4 : MS l (pbk l (pbk l q + 1) + 1) (wr (wr u3 50 12 (nI (pbk l (pbk l q + 1) + 1))) 55 x 0) := k3.fn f4 (by rw [wr_ne _ (by decide), wr_eq]) (by omega)
        have R4 : MR E (sg ||| bitI x) (wr (wr u3 50 12 (nI (pbk l (pbk l q + 1) + 1))) 55 x 0) := MR.begin' (hR.fa f13) hx hs (wr_eq _) (fun k hk => by rw [wr_nek _ hk, wr_ne _ (by decide)]) (by rw [wr_ne _ (by decide), wr_ne _ (by decide)]) (by rw [wr_ne _ (by decide), wr_ne _ (by decide)])
        generalize wr (wr u3 50 12 (nI (pbk l (pbk l q + 1) + 1))) 55 x 0 = u4 at f4 M4 R4 ⊢
        obtain ⟨u5, m1, m2, m3⟩ := k_look F hF M4
        have f15 : FN u u5 := (f13.fn.tr f4).tr m2.fn
        have R5 := R4.fa m2
        have hsx : bt (sg ||| bitI x) x = true := by rw [or_bt sg hx]; simp
        rw [m1, Option.bind_some]
        try dsimp only
        have h12 : (12 : Int32) * nI x = nI (12 * x) := by
          have := nI_12x hx (t := 0) (by decide)
          rw [show nI 0 = (0 : Int32) from rfl, Int32.add_zero, Nat.add_zero] at this
          exact this
        rw [h12, nI_clamp (by omega)]
        have hg : ¬ (nI (12 * x) < 0 ∨ 144 ≤ 12 * x) := gin (by omega) (by decide)
        have hg2 : ¬ (nI x < 0 ∨ 12 ≤ x) := gin hx (by decide)
        have fin : ∀ (c : Int32), pbk l (pbk l (pbk l q + 1) + 1) < l.length → ∃ r u', (some ((1 : Int32), wr (wr (wr (wr u5 50 12 (nI (pbk l (pbk l (pbk l q + 1) + 1) + 1))) 56 (12 * x) c) 57 (12 * x) c) 55 x 1) : Option (Int32 × St)) = some (b2i true, u') ∧ MS l r u' ∧ pbk l r = pbk l (pbk l (pbk l (pbk l q + 1) + 1) + 1) ∧ ((true : Bool) = false → r = pbk l (pbk l (pbk l (pbk l q + 1) + 1) + 1)) ∧ FN u u' ∧ ((true : Bool) = true → MR (E ++ [(x, c, c)]) (sg ||| bitI x) u') := fun c hlt2 => by
          have f6 : FN u5 (wr (wr (wr (wr u5 50 12 (nI (pbk l (pbk l (pbk l q + 1) + 1) + 1))) 56 (12 * x) c) 57 (12 * x) c) 55 x 1) := (((FA.at' u5 _).fn.w (by decide)).w (by decide)).w (by decide)
          refine ⟨pbk l (pbk l (pbk l q + 1) + 1) + 1, _, rfl, m3.fn f6 (by rw [wr_ne _ (by decide), wr_ne _ (by decide), wr_ne _ (by decide), wr_eq]) (by omega), rfl, fun z => Bool.noConfusion z, f15.tr f6, fun _ => ?_⟩
          exact R5.const hx hsx e2 (wr_eq _) (fun k hk => by rw [wr_nek _ hk, wr_ne _ (by decide), wr_ne _ (by decide), wr_ne _ (by decide)]) (by rw [wr_ne _ (by decide), wr_ne _ (by decide), wr_eq]) (fun k hk => by rw [wr_ne _ (by decide), wr_ne _ (by decide), wr_nek _ hk, wr_ne _ (by decide)]) (by rw [wr_ne _ (by decide), wr_eq]) (fun k hk => by rw [wr_ne _ (by decide), wr_nek _ hk, wr_ne _ (by decide), wr_ne _ (by decide)])
        by_cases h48 : bvN l (pbk l (pbk l (pbk l q + 1) + 1)) = 48
        · rw [if_pos h48, if_pos h48, if_neg hg, if_pos h48, if_neg hg, if_neg hg2, if_pos h48, m3.2.2.2.1, nI_1]
          exact fin 1 (bvN_lt (by decide) h48)
        · by_cases h49 : bvN l (pbk l (pbk l (pbk l q + 1) + 1)) = 49
          · rw [if_neg h48, if_pos h49, if_neg h48, if_neg hg, if_neg h48, if_neg hg, if_neg hg2, if_neg h48, if_pos h49, m3.2.2.2.1, nI_1]
            exact fin 0 (bvN_lt (by decide) h49)
          · rw [if_neg h48, if_neg h49, if_neg h48, if_neg h49]
            obtain ⟨u6, t1, t2, t3, t4⟩ := k_terms F hF hx hsx 12 F (pbk l (pbk l (pbk l q + 1) + 1)) E u5 (by rw [e2]; rfl) (by omega) m3 R5
            rw [pbk_pk] at t1 t2 t4
            refine ⟨_, u6, t1, t2, trmS_nb x 12 _ E (pbk_pk _ _), fun _ => rfl, f15.tr t3, t4⟩
      · rw [if_neg h61, if_neg h61]
        exact ⟨_, u3, rfl, k3, pbk_pk _ _, fun _ => rfl, f13.fn, fun z => Bool.noConfusion z⟩
/-! the whole text -/
def sgC (sg : Int32) : Nat := (List.range 12).countP (fun j => bt sg j)
theorem cP_add {p : Nat → Bool} {x : Nat} (hp : p x = false) : ∀ (L : List Nat), L.Nodup → L.countP (fun j => p j || decide (j = x)) = L.countP p + if x ∈ L then 1 else 0
  | [], _ => rfl
  | a :: L, h => by
    have h2 := List.nodup_cons.mp h
    rw [List.countP_cons, List.countP_cons, cP_add hp L h2.2]
    by_cases e : a = x
    · subst e
      rw [hp, if_neg h2.1]
      simp
    · have e2 : ¬ x = a := fun z => e z.symm
      simp only [e, e2, decide_false, Bool.or_false, List.mem_cons, false_or]
      omega
theorem sgC_add {sg : Int32} {x : Nat} (hx : x < 12) (hs : bt sg x = false) : sgC (sg ||| bitI x) = sgC sg + 1 := by
  unfold sgC
  have e : (fun j => bt (sg ||| bitI x) j) = fun j => bt sg j || decide (j = x) := funext fun j => or_bt sg hx j
  rw [e, cP_add (p := fun j => bt sg j) hs _ (List.nodup_range), if_pos (List.mem_range.mpr hx)]
theorem sgC_full {sg : Int32} (h : sgC sg = 12) {x : Nat} (hx : x < 12) : bt sg x = true := by
  have h2 : (List.range 12).countP (fun j => bt sg j) = (List.range 12).length := by rw [List.length_range]; exact h
  exact (List.countP_eq_length.mp h2) x (List.mem_range.mpr hx)
theorem eqS_sg {l : List Nat} {p : Nat} {E : EL} {sg : Int32} (h : (eqS l p E sg).1 = true) : sgC (eqS l p E sg).2.2.2 = sgC sg + 1 := by
  unfold eqS at h ⊢
  cases hj : ltr l p with
  | none => rw [hj] at h; exact Bool.noConfusion h
  | some x =>
    rw [hj] at h
    simp only at h ⊢
    have hx := (ltr_lt hj).1
    by_cases hs : bt sg x = true
    · rw [if_pos hs] at h; exact Bool.noConfusion h
    · rw [if_neg hs] at h ⊢
      have hs2 : bt sg x = false := by simpa using hs
      by_cases h61 : bvN l (pbk l (p + 1)) = 61
      · rw [if_pos h61] at h ⊢
        by_cases h48 : bvN l (pbk l (pbk l (p + 1) + 1)) = 48
        · rw [if_pos h48]; exact sgC_add hx hs2
        · rw [if_neg h48]
          by_cases h49 : bvN l (pbk l (pbk l (p + 1) + 1)) = 49
          · rw [if_pos h49]; exact sgC_add hx hs2
          · rw [if_neg h49]; exact sgC_add hx hs2
      · rw [if_neg h61] at h; exact Bool.noConfusion h
theorem eqS_full {l : List Nat} {p : Nat} {E : EL} {sg : Int32} (h : sgC sg = 12) : (eqS l p E sg).1 = false ∧ (eqS l p E sg).2.1 = p := by
  unfold eqS
  cases hj : ltr l p with
  | none => exact ⟨rfl, rfl⟩
  | some x =>
    simp only
    rw [if_pos (sgC_full h (ltr_lt hj).1)]
    exact ⟨rfl, rfl⟩
theorem k_eqs (F : Nat) (hF : 1000 ≤ F) {l : List Nat} : ∀ (d k q : Nat) (E : EL) (sg : Int32) (u : St), sgC sg + d = 12 → d < k → MS l q u → MR E sg u → ∃ u', (Option.bind (f_X12_equation F u) (fun w12 => (if w12.1 = 0 then some ((w12.2.1 50 12), w12.2) else (Option.bind (l_X12_read_48 F k w12.2) (fun w28 => Sum.elim (fun r => some r) (fun v30 => some ((v30.1 50 12), v30)) w28))))) = some (ftI (rdS l d (pbk l q) E sg).1, u') ∧ FN u u' ∧ ((rdS l d (pbk l q) E sg).1 = none → MR (rdS l d (pbk l q) E sg).2.1 (rdS l d (pbk l q) E sg).2.2 u')
  | d, 0, q, E, sg, u, hd, hk, hM, hR => absurd hk (by omega)
  | d, k + 1, q, E, sg, u, hd, hk, hM, hR => by
    obtain ⟨r, u1, g1, g2, g3, g4, g5, g6⟩ := k_eq F hF hM hR
    rw [g1, Option.bind_some]
    try dsimp only
    cases d with
    | zero =>
      obtain ⟨e1, e2⟩ := eqS_full (l := l) (p := pbk l q) (E := E) (show sgC sg = 12 by omega)
      rw [if_pos (by rw [e1]; rfl), g2.2.2.2.1, g4 e1, e2]
      exact ⟨u1, rfl, g5, fun z => absurd z (Option.some_ne_none _)⟩
    | succ d =>
      unfold rdS
      cases hb : (eqS l (pbk l q) E sg).1 with
      | false =>
        rw [if_pos (by simp [b2i]), if_pos rfl, g2.2.2.2.1, g4 hb]
        exact ⟨u1, rfl, g5, fun z => absurd z (Option.some_ne_none _)⟩
      | true =>
        rw [if_neg (by simp [b2i]), if_neg (by decide)]
        show ∃ u', (Option.bind (b_X12_read_48 F (l_X12_read_48 F k) u1) _) = _ ∧ _
        unfold b_X12_read_48
        obtain ⟨u2, k1, k2, k3⟩ := k_look F hF g2
        rw [g3] at k1 k3
        rw [k1, Option.bind_some]
        try dsimp only
        by_cases h59 : bvN l (eqS l (pbk l q) E sg).2.1 = 59
        · have hlt := bvN_lt (by decide) h59
          rw [if_pos h59, if_neg (show ¬ l.length ≤ (eqS l (pbk l q) E sg).2.1 by omega), if_pos h59, k3.2.2.2.1, nI_1]
          have f3 := FA.at' u2 (nI ((eqS l (pbk l q) E sg).2.1 + 1))
          have M3 := k3.mv f3 (wr_eq _) (show (eqS l (pbk l q) E sg).2.1 + 1 ≤ l.length by omega)
          obtain ⟨u4, m1, m2, m3⟩ := k_eqs F hF d k _ _ _ _ (by rw [eqS_sg hb]; omega) (by omega) M3 (((g6 hb).fa k2).fa f3)
          refine ⟨u4, ?_, (g5.tr (k2.fn.tr f3.fn)).tr m2, m3⟩
          rw [← m1]
          cases f_X12_equation F (wr u2 50 12 (nI ((eqS l (pbk l q) E sg).2.1 + 1))) with
          | none => rfl
          | some w =>
            rw [Option.bind_some, Option.bind_some]
            by_cases hw : w.1 = 0
            · rw [if_pos hw, if_pos hw]; rfl
            · rw [if_neg hw, if_neg hw]
        · rw [if_neg h59]
          obtain ⟨u3, n1, n2, n3⟩ := k_look F hF k3
          have hpp : pbk l (eqS l (pbk l q) E sg).2.1 = (eqS l (pbk l q) E sg).2.1 := by rw [← g3, pbk_pk]
          rw [hpp] at n1 n3
          rw [n1, Option.bind_some]
          try dsimp only
          by_cases he : l.length ≤ (eqS l (pbk l q) E sg).2.1
          · rw [if_pos (bvN_out he), if_pos he]
            exact ⟨u3, rfl, g5.tr (k2.fn.tr n2.fn), fun _ => ((g6 hb).fa k2).fa n2⟩
          · obtain ⟨b, hbb⟩ : ∃ b, l[(eqS l (pbk l q) E sg).2.1]? = some b := ⟨_, List.getElem?_eq_getElem (show (eqS l (pbk l q) E sg).2.1 < l.length by omega)⟩
            have hb2 := (hM.2.1 b (List.mem_of_getElem? hbb)).2
            rw [if_neg (by rw [bvN_in hbb]; exact nI_ne_m1 (by omega)), if_neg he, if_neg h59, n3.2.2.2.1]
            exact ⟨u3, rfl, g5.tr (k2.fn.tr n2.fn), fun z => absurd z (Option.some_ne_none _)⟩
theorem l_r7 (F : Nat) : ∀ (d i k : Nat) (u : St), i + d = 12 → d < k → (∀ j, j < i → u.1 55 j = -1) → ∃ y u', l_X12_read_7 F k (nI i) u = some (y, u') ∧ Fr [55] u u' ∧ ∀ j, j < 12 → u'.1 55 j = -1
  | d, i, 0, u, hd, hk, hj => absurd hk (by omega)
  | d, i, k + 1, u, hd, hk, hj => by
    show ∃ y u', b_X12_read_7 F (l_X12_read_7 F k) _ u = _ ∧ _
    unfold b_X12_read_7
    rw [show (12 : Int32) = nI 12 from rfl]
    cases d with
    | zero =>
      rw [if_pos (nI_le (by omega) (by omega))]
      exact ⟨_, u, rfl, Fr.rf _ _, fun j h => hj j (by omega)⟩
    | succ d =>
      rw [if_neg (nI_ge (show i < 12 by omega) (by decide)), nI_clamp (by omega), if_neg (gin (show i < 12 by omega) (by decide)), nI_1]
      obtain ⟨y, u', k1, k2, k3⟩ := l_r7 F d (i + 1) k (wr u 55 i (-1)) (by omega) (by omega) (fun j h => by
        by_cases e : j = i
        · rw [e, wr_eq]
        · rw [wr_nek _ e]; exact hj j (by omega))
      exact ⟨y, u', k1, ((Fr.rf _ u).w (by decide)).tr k2, k3⟩
/-- the model's read -/
theorem k_read (F : Nat) (hF : 1000 ≤ F) {l : List Nat} {u : St} (hl : l.length ≤ 300) (hb : ∀ b ∈ l, 1 ≤ b ∧ b < 256) (hT : TM l u) : ∃ u', f_X12_read F u = some (ftI (rdA l).1, u') ∧ FN u u' ∧ ((rdA l).1 = none → MR (rdA l).2.1 (rdA l).2.2 u') := by
  unfold f_X12_read
  obtain ⟨y, u1, g1, g2, g3⟩ := l_r7 F 12 0 F (wr u 50 12 0) (by omega) (by omega) (fun j h => absurd h (by omega))
  rw [show nI 0 = 0 from rfl] at g1
  rw [g1, Option.bind_some]
  try dsimp only
  have e50 : u1.1 50 = (wr u 50 12 0).1 50 := g2.2 50 (by decide)
  have f1 : FN u u1 := ⟨((Fr.rf _ u).w (by decide)).tr (g2.mono (by simp)), fun k hk => by rw [e50, wr_nek _ hk]⟩
  have M1 : MS l 0 u1 := ⟨hl, hb, hT.fr (f1.2 2 (by decide)) (f1.1.2 51 (by decide)), by rw [e50, wr_eq]; rfl, by omega⟩
  have R1 : MR [] 0 u1 := fun x hx => ⟨fun _ => ⟨g3 x hx, rfl⟩, fun z => absurd ((bt_zero x).symm.trans z) (by decide)⟩
  obtain ⟨u2, k1, k2, k3⟩ := k_look F hF M1
  rw [k1, Option.bind_some]
  try dsimp only
  unfold rdA
  by_cases he : l.length ≤ pbk l 0
  · rw [if_pos (bvN_out he), if_pos he]
    exact ⟨u2, rfl, f1.tr k2.fn, fun _ => R1.fa k2⟩
  · obtain ⟨b, hbb⟩ : ∃ b, l[pbk l 0]? = some b := ⟨_, List.getElem?_eq_getElem (show pbk l 0 < l.length by omega)⟩
    have hb2 := (hb b (List.mem_of_getElem? hbb)).2
    rw [if_neg (by rw [bvN_in hbb]; exact nI_ne_m1 (by omega)), if_neg he]
    obtain ⟨u3, m1, m2, m3⟩ := k_eqs F hF 12 F (pbk l 0) [] 0 u2 (by decide) (by omega) k3 (R1.fa k2)
    rw [pbk_pk] at m1 m3
    exact ⟨u3, m1, (f1.tr k2.fn).tr m2, m3⟩
