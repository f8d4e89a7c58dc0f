def fil (u : St) (q n : Nat) (v : Int32) : St := (fun p k => if p = q ∧ k < n then v else u.1 p k, u.2)
theorem fil_0 (u : St) (q : Nat) (v : Int32) : fil u q 0 v = u := by
  unfold fil
  refine Prod.ext ?_ rfl
  funext p k
  simp
theorem fil_s (u : St) (q j : Nat) (v : Int32) : wr (fil u q j v) q j v = fil u q (j + 1) v := by
  unfold fil wr
  refine Prod.ext ?_ rfl
  funext p k
  by_cases h : p = q
  · subst h
    by_cases h2 : k = j
    · subst h2; simp
    · by_cases h3 : k < j
      · simp [h2, h3, Nat.lt_succ_of_lt h3]
      · simp [h2, h3, show ¬ k < j + 1 by omega]
  · simp [h]
theorem m_fill (q n : Nat) (v : Int32) (u : St) (hn : n < 2 ^ 31) (hs : SH[q]? = some (1, n, [])) : Mt yJ7_fill_53178 cJ7_fill_53178 4 none 0 (fun ad => [.ref (ad q), .int v]) u (fun _ => none) (fil u q n v) := by
  refine Mt.of (by decide) (fun ad => Nat.le_of_ble_eq_true rfl) ?_
  intro p l e s m args below meth c D cA ad ls C hl
  have hl : lv_has ls 4 [(0, .ref (ad q)), (1, .int v)] := hl
  refine z_iconst C (0 : Int32) dJ7_fill_53178_0 (by decide) ?_
  refine z_istore_n C (i := 2) [(2, .int 0), (0, .ref (ad q)), (1, .int v)] hl dJ7_fill_53178_1 rfl (by decide) rfl (fun ls hl => ?_)
  refine z_aload_n C (i := 0) (k := 1) hl dJ7_fill_53178_2 rfl rfl ?_
  refine z_alen C q n (nI n) hs rfl dJ7_fill_53178_3 ?_
  refine z_istore_n C (i := 3) [(3, .int (nI n)), (2, .int 0), (0, .ref (ad q)), (1, .int v)] hl dJ7_fill_53178_4 rfl (by decide) rfl (fun ls hl => ?_)
  have key : ∀ (t j : Nat), j + t = n → ∀ ls, lv_has ls 4 [(3, .int (nI n)), (2, .int (nI j)), (0, .ref (ad q)), (1, .int v)] → Z SH p l e (rmD 0) s m args below meth c D cA ad (inAd ad) 0 0 (MQ below (Qx D cA ad none (fil u q n v)) args s 0 0 (inAd ad)) (fil u q j v) 5 ls [] := by
    intro t
    induction t with
    | zero =>
      intro j hj ls hl
      have hj : j = n := by omega
      subst hj
      refine z_iload_n C (i := 2) (k := 1) hl dJ7_fill_53178_5 rfl rfl ?_
      refine z_iload_n C (i := 3) (k := 0) hl dJ7_fill_53178_6 rfl rfl ?_
      refine z_icmp_ge C 20 dJ7_fill_53178_7 (by decide) (fun _ => ?_) (fun hc => absurd (nI_le (Nat.le_refl j) hn) hc)
      exact z_vret C dJ7_fill_53178_20
    | succ t ih =>
      intro j hj ls hl
      refine z_iload_n C (i := 2) (k := 1) hl dJ7_fill_53178_5 rfl rfl ?_
      refine z_iload_n C (i := 3) (k := 0) hl dJ7_fill_53178_6 rfl rfl ?_
      refine z_icmp_ge C 20 dJ7_fill_53178_7 (by decide) (fun hc => absurd hc (nI_ge (by omega) hn)) (fun _ => ?_)
      refine z_aload_n C (i := 0) (k := 2) hl dJ7_fill_53178_10 rfl rfl ?_
      refine z_iload_n C (i := 2) (k := 1) hl dJ7_fill_53178_11 rfl rfl ?_
      refine z_iload_n C (i := 1) (k := 3) hl dJ7_fill_53178_12 rfl rfl ?_
      refine z_iast C q n hs (nI_in (by omega) hn) dJ7_fill_53178_13 ?_
      rw [nI_clamp (by omega), fil_s]
      refine z_iinc C (i := 2) (k := 1) (nI (j + 1)) [(2, .int (nI (j + 1))), (3, .int (nI n)), (0, .ref (ad q)), (1, .int v)] hl dJ7_fill_53178_14 rfl (by rw [nI_succ]; rfl) (by decide) rfl (fun ls hl => ?_)
      refine z_goto C 5 dJ7_fill_53178_17 (by decide) ?_
      exact ih (j + 1) (by omega) ls (lv_sub hl [1, 0, 2, 3] rfl)
  have h1 := key n 0 (by omega) ls hl
  rw [fil_0] at h1
  exact h1
theorem tsw8 {x : Int32} (h0 : ¬ x = (0 : Int32)) (h1 : ¬ x = (1 : Int32)) (h2 : ¬ x = (2 : Int32)) (h3 : ¬ x = (3 : Int32)) (h4 : ¬ x = (4 : Int32)) (h5 : ¬ x = (5 : Int32)) (h6 : ¬ x = (6 : Int32)) (h7 : ¬ x = (7 : Int32)) : x.toInt < 0 ∨ 7 < x.toInt := by
  rcases pk_ix x (n := 8) (by decide) with h | h | ⟨j, hj, e⟩
  · left
    exact Int32.lt_iff_toInt_lt.mp h
  · right
    have := Int32.le_iff_toInt_le.mp h
    rw [nI_toInt (by decide)] at this
    omega
  · exfalso
    match j, hj, e with
    | 0, _, e => exact h0 e
    | 1, _, e => exact h1 e
    | 2, _, e => exact h2 e
    | 3, _, e => exact h3 e
    | 4, _, e => exact h4 e
    | 5, _, e => exact h5 e
    | 6, _, e => exact h6 e
    | 7, _, e => exact h7 e
theorem mw_max : Cond.static Lib.Math.max.name ∈ LW ∧ Cond.initialized "java/lang/Math" ∈ LW ∧ Cond.code Lib.Math.max.name Lib.Math.max.code 2 (some .int) ∈ LW := ⟨LW_i 965 (by decide +kernel) rfl, LW_i 20 (by decide +kernel) rfl, LW_i 966 (by decide +kernel) rfl⟩
theorem z_max {sh : List Kd} {p : Program} {l : Launch} {e : Env} {R : Room} {s : State} {m : MethodId} {args : Array Value} {below : List Frame} {meth : Method} {c : Code} {cc : ByteArray} {nL : Nat} {ret : Option FieldType} {own : String} {D : va_G} {cA : Nat → ClassId} {ad : Nat → Nat} {A : Nat → Prop} {cells slots : Nat} {Q : State → Prop} {u : St} {pc : Nat} {ls : Array Slot} {rest : List Value} (C : Cx sh p s m args meth c cc nL ret own D cA ad A) {index : Nat} {x y : Int32} (hw : Cond.methodLink own index Lib.Math.max.name ∈ LW) (hsz : ls.size = nL) (hR : 1 ≤ R.frames ∧ (rest.map fun v => v.category).sum + 13 ≤ R.locals) (hcs : cells ≤ R.cells ∧ slots ≤ R.slots) (hd : decode cc pc = .ok (.invokestatic index, 3)) (kk : Z sh p l e R s m args below meth c D cA ad A cells slots Q u (pc + 3) ls (.int (if x < y then y else x) :: rest)) : Z sh p l e R s m args below meth c D cA ad A cells slots Q u pc ls (.int y :: .int x :: rest) := fun H locs hP hS => va_mmax C.1 C.2.1 (C.2.2.2.1.trans hsz.symm) C.2.2.2.2.1 (C.2.2.2.2.2.1 _ hw) (C.2.2.2.2.2.1 _ mw_max.1) (C.2.2.2.2.2.1 _ mw_max.2.1) (C.2.2.2.2.2.1 _ mw_max.2.2) hR.1 hR.2 hcs.1 hcs.2 hd (kk H locs hP hS)
