def b_X9_putRing_11 (F : Nat) (x1 : Int32) (q2 : Nat) (rec : Int32 → Int32 → Int32 → Int32 → St → Option (Int32 × Int32 × Int32 × Int32 × St)) (x3 : Int32) (x4 : Int32) (x5 : Int32) (x6 : Int32) (u : St) : Option (Int32 × Int32 × Int32 × Int32 × St) := (Option.bind (f_X4_nodes F u) (fun w4 => (if w4.1 ≤ x6 then some (x3, x4, x5, x6, w4.2) else (if x5 < 0 ∨ 10 ≤ x5.toNatClampNeg then none else (if (w4.2.1 32 x5.toNatClampNeg) = (-1 : Int32) then some (x3, x4, x5, x6, w4.2) else (Option.bind (f_X4_delayOf F x5 w4.2) (fun w9 => (if x5 < 0 ∨ 10 ≤ x5.toNatClampNeg then none else (Option.bind (f_X9_tokensOn F (w9.2.1 32 x5.toNatClampNeg) w9.2) (fun w14 => (if x5 < 0 ∨ 10 ≤ x5.toNatClampNeg then none else (Option.bind (f_X4_sourceOf F (w14.2.1 32 x5.toNatClampNeg) w14.2) (fun w19 => (if w19.1 = x1 then some ((x3 + w9.1), (x4 + w14.1), w19.1, x6, w19.2) else rec ((x3 + w9.1)) ((x4 + w14.1)) w19.1 ((x6 + (1 : Int32))) w19.2))))))))))))))
def l_X9_putRing_11 (F : Nat) (x1 : Int32) (q2 : Nat) : Nat → Int32 → Int32 → Int32 → Int32 → St → Option (Int32 × Int32 × Int32 × Int32 × St)
  | 0, _, _, _, _, _ => none
  | k + 1, x3, x4, x5, x6, u => b_X9_putRing_11 F x1 q2 (l_X9_putRing_11 F x1 q2 k) x3 x4 x5 x6 u
def f_X9_putRing (F : Nat) (x1 : Int32) (q2 : Nat) (u : St) : Option (St) := (Option.bind (l_X9_putRing_11 F x1 q2 F (0 : Int32) (0 : Int32) x1 (0 : Int32) u) (fun w23 => (Option.bind (f_X5_put F q2 w23.1 w23.2.1 w23.2.2.2.2) (fun u25 => some u25))))
set_option maxRecDepth 20000 in
set_option maxHeartbeats 4000000 in
theorem zl_X9_putRing_11 {p : Program} {l : Launch} {e : Env} {s : State} {m : MethodId} {args : Array Value} {below : List Frame} {meth : Method} {c : Code} {D : va_G} {cA : Nat → ClassId} {ad : Nat → Nat} {Q : State → Prop} (C : Cx SH p s m args meth c cX9_putRing 7 none RX9 D cA ad (inAd ad)) (F : Nat) (x1 : Int32) (q2 : Nat) (hQ2 : IsR q2) {out : Int32 × Int32 × Int32 × Int32 × St}  (K : ∀ ls : Array Slot, lv_has ls 7 [(0, .ref (ad 27)), (1, .int x1), (2, .ref (ad q2)), (3, .int out.1), (4, .int out.2.1), (5, .int out.2.2.1), (6, .int out.2.2.2.1)] → Z SH p l e (rmD 2) s m args below meth c D cA ad (inAd ad) 0 0 Q out.2.2.2.2 93 ls []) : ∀ (k : Nat) (x3 : Int32) (x4 : Int32) (x5 : Int32) (x6 : Int32) (u : St), l_X9_putRing_11 F x1 q2 k x3 x4 x5 x6 u = some out → ∀ ls : Array Slot, lv_has ls 7 [(0, .ref (ad 27)), (1, .int x1), (2, .ref (ad q2)), (3, .int x3), (4, .int x4), (5, .int x5), (6, .int x6)] → Z SH p l e (rmD 2) s m args below meth c D cA ad (inAd ad) 0 0 Q u 11 ls [] := by
  intro k
  induction k with
  | zero => intro x3 x4 x5 x6 u h; cases h
  | succ k ih =>
    intro x3 x4 x5 x6 u h ls hl
    replace h : b_X9_putRing_11 F x1 q2 (l_X9_putRing_11 F x1 q2 k) x3 x4 x5 x6 u = some out := h
    unfold b_X9_putRing_11 at h
    refine z_iload C (i := 6) (k := 6) hl dX9_putRing_11 rfl ?_
    refine z_aload_n C (i := 0) (k := 0) hl dX9_putRing_13 rfl rfl ?_
    refine z_getr C 27 0 22 fw_X9_35 sh_27 rfl dX9_putRing_14 ?_
    obtain ⟨⟨r3, u1⟩, hc2, h⟩ := bnd h
    try dsimp only at h
    refine z_callV C (ci := 4) [] [.int x6] [.int r3, .int x6] (m_X4_nodes F  _ _ _ hc2) cw_X4_nodes vw_X4_nodes ml_X9_104 sh_22 rfl rfl rfl rfl hl.1 (Nat.le_of_ble_eq_true rfl) ⟨Nat.le_of_ble_eq_true rfl, Nat.le_of_ble_eq_true rfl⟩ ⟨Nat.le_refl _, Nat.le_refl _⟩ rfl dX9_putRing_17 ?_
    refine z_icmp_ge C 93 dX9_putRing_20 (by decide) (fun hc22 => ?_) (fun hc22 => ?_)
    · replace h := (if_pos hc22).symm.trans h
      obtain rfl := Option.some.inj h
      exact K _ (lv_sub hl [0, 1, 2, 3, 4, 5, 6] rfl)
    · replace h := (if_neg hc22).symm.trans h
      refine z_aload_n C (i := 0) (k := 0) hl dX9_putRing_23 rfl rfl ?_
      refine z_getr C 27 5 32 fw_X9_28 sh_27 rfl dX9_putRing_24 ?_
      refine z_iload C (i := 5) (k := 5) hl dX9_putRing_27 rfl ?_
      obtain ⟨hi5, h⟩ := gd h
      refine z_iald C 32 10 sh_32 hi5 dX9_putRing_29 ?_
      refine z_iconst C (-1 : Int32) dX9_putRing_30 (by decide) ?_
      refine z_icmp_eq C 93 dX9_putRing_31 (by decide) (fun hc21 => ?_) (fun hc21 => ?_)
      · replace h := (if_pos hc21).symm.trans h
        obtain rfl := Option.some.inj h
        exact K _ (lv_sub hl [0, 1, 2, 3, 4, 5, 6] rfl)
      · replace h := (if_neg hc21).symm.trans h
        refine z_iload_n C (i := 3) (k := 3) hl dX9_putRing_34 rfl rfl ?_
        refine z_aload_n C (i := 0) (k := 0) hl dX9_putRing_35 rfl rfl ?_
        refine z_getr C 27 0 22 fw_X9_35 sh_27 rfl dX9_putRing_36 ?_
        refine z_iload C (i := 5) (k := 5) hl dX9_putRing_39 rfl ?_
        obtain ⟨⟨r8, u6⟩, hc7, h⟩ := bnd h
        try dsimp only at h
        refine z_callV C (ci := 4) [.int x5] [.int x3] [.int r8, .int x3] (m_X4_delayOf F _ _ _ _ hc7) cw_X4_delayOf vw_X4_delayOf ml_X9_113 sh_22 rfl rfl rfl rfl hl.1 (Nat.le_of_ble_eq_true rfl) ⟨Nat.le_of_ble_eq_true rfl, Nat.le_of_ble_eq_true rfl⟩ ⟨Nat.le_refl _, Nat.le_refl _⟩ rfl dX9_putRing_41 ?_
        refine z_iadd C dX9_putRing_44 ?_
        refine z_istore_n C (i := 3) [(3, .int (x3 + r8)), (0, .ref (ad 27)), (1, .int x1), (2, .ref (ad q2)), (4, .int x4), (5, .int x5), (6, .int x6)] hl dX9_putRing_45 rfl (by decide) rfl (fun ls hl => ?_)
        refine z_iload C (i := 4) (k := 4) hl dX9_putRing_46 rfl ?_
        refine z_aload_n C (i := 0) (k := 1) hl dX9_putRing_48 rfl rfl ?_
        refine z_aload_n C (i := 0) (k := 1) hl dX9_putRing_49 rfl rfl ?_
        refine z_getr C 27 5 32 fw_X9_28 sh_27 rfl dX9_putRing_50 ?_
        refine z_iload C (i := 5) (k := 5) hl dX9_putRing_53 rfl ?_
        obtain ⟨hi10, h⟩ := gd h
        refine z_iald C 32 10 sh_32 hi10 dX9_putRing_55 ?_
        obtain ⟨⟨r13, u11⟩, hc12, h⟩ := bnd h
        try dsimp only at h
        refine z_callV C (ci := 9) [.int (u6.1 32 x5.toNatClampNeg)] [.int x4] [.int r13, .int x4] (m_X9_tokensOn F _ _ _ _ hc12) cw_X9_tokensOn vw_X9_tokensOn ml_X9_116 sh_27 rfl rfl rfl rfl hl.1 (Nat.le_of_ble_eq_true rfl) ⟨Nat.le_of_ble_eq_true rfl, Nat.le_of_ble_eq_true rfl⟩ ⟨Nat.le_refl _, Nat.le_refl _⟩ rfl dX9_putRing_56 ?_
        refine z_iadd C dX9_putRing_59 ?_
        refine z_istore C (i := 4) [(4, .int (x4 + r13)), (3, .int (x3 + r8)), (0, .ref (ad 27)), (1, .int x1), (2, .ref (ad q2)), (5, .int x5), (6, .int x6)] hl dX9_putRing_60 (by decide) rfl (fun ls hl => ?_)
        refine z_aload_n C (i := 0) (k := 2) hl dX9_putRing_62 rfl rfl ?_
        refine z_getr C 27 0 22 fw_X9_35 sh_27 rfl dX9_putRing_63 ?_
        refine z_aload_n C (i := 0) (k := 2) hl dX9_putRing_66 rfl rfl ?_
        refine z_getr C 27 5 32 fw_X9_28 sh_27 rfl dX9_putRing_67 ?_
        refine z_iload C (i := 5) (k := 5) hl dX9_putRing_70 rfl ?_
        obtain ⟨hi15, h⟩ := gd h
        refine z_iald C 32 10 sh_32 hi15 dX9_putRing_72 ?_
        obtain ⟨⟨r18, u16⟩, hc17, h⟩ := bnd h
        try dsimp only at h
        refine z_callV C (ci := 4) [.int (u11.1 32 x5.toNatClampNeg)] [] [.int r18] (m_X4_sourceOf F _ _ _ _ hc17) cw_X4_sourceOf vw_X4_sourceOf ml_X9_119 sh_22 rfl rfl rfl rfl hl.1 (Nat.le_of_ble_eq_true rfl) ⟨Nat.le_of_ble_eq_true rfl, Nat.le_of_ble_eq_true rfl⟩ ⟨Nat.le_refl _, Nat.le_refl _⟩ rfl dX9_putRing_73 ?_
        refine z_istore C (i := 5) [(5, .int r18), (4, .int (x4 + r13)), (3, .int (x3 + r8)), (0, .ref (ad 27)), (1, .int x1), (2, .ref (ad q2)), (6, .int x6)] hl dX9_putRing_76 (by decide) rfl (fun ls hl => ?_)
        refine z_iload C (i := 5) (k := 0) hl dX9_putRing_78 rfl ?_
        refine z_iload_n C (i := 1) (k := 4) hl dX9_putRing_80 rfl rfl ?_
        refine z_icmp_ne C 87 dX9_putRing_81 (by decide) (fun hc20 => ?_) (fun hc20 => ?_)
        · replace h := (if_neg hc20).symm.trans h
          refine z_iinc C (i := 6) (k := 6) (x6 + (1 : Int32)) [(6, .int (x6 + (1 : Int32))), (5, .int r18), (4, .int (x4 + r13)), (3, .int (x3 + r8)), (0, .ref (ad 27)), (1, .int x1), (2, .ref (ad q2))] hl dX9_putRing_87 rfl rfl (by decide) rfl (fun ls hl => ?_)
          refine z_goto C 11 dX9_putRing_90 (by decide) ?_
          exact ih _ _ _ _ _ h _ (lv_sub hl [4, 5, 6, 3, 2, 1, 0] rfl)
        · replace h := (if_pos hc20).symm.trans h
          refine z_goto C 93 dX9_putRing_84 (by decide) ?_
          obtain rfl := Option.some.inj h
          exact K _ (lv_sub hl [3, 4, 5, 2, 1, 0, 6] rfl)
set_option maxRecDepth 20000 in
set_option maxHeartbeats 4000000 in
theorem m_X9_putRing (F : Nat) (x1 : Int32) (q2 : Nat) (u : St) (u' : St) (hQ2 : IsR q2) (h : f_X9_putRing F x1 q2 u = some u') : Mt yX9_putRing cX9_putRing 7 none 2 (fun ad => [.ref (ad 27), .int x1, .ref (ad q2)]) u (fun _ => none) u' := by
  refine Mt.of (by decide) (fun ad => Nat.le_of_ble_eq_true rfl) ?_
  intro p l e s m args below meth c D cA ad ls C hl
  have hl : lv_has ls 7 [(0, .ref (ad 27)), (1, .int x1), (2, .ref (ad q2))] := hl
  unfold f_X9_putRing at h
  refine z_iconst C (0 : Int32) dX9_putRing_0 (by decide) ?_
  refine z_istore_n C (i := 3) [(3, .int (0 : Int32)), (0, .ref (ad 27)), (1, .int x1), (2, .ref (ad q2))] hl dX9_putRing_1 rfl (by decide) rfl (fun ls hl => ?_)
  refine z_iconst C (0 : Int32) dX9_putRing_2 (by decide) ?_
  refine z_istore C (i := 4) [(4, .int (0 : Int32)), (3, .int (0 : Int32)), (0, .ref (ad 27)), (1, .int x1), (2, .ref (ad q2))] hl dX9_putRing_3 (by decide) rfl (fun ls hl => ?_)
  refine z_iload_n C (i := 1) (k := 3) hl dX9_putRing_5 rfl rfl ?_
  refine z_istore C (i := 5) [(5, .int x1), (4, .int (0 : Int32)), (3, .int (0 : Int32)), (0, .ref (ad 27)), (1, .int x1), (2, .ref (ad q2))] hl dX9_putRing_6 (by decide) rfl (fun ls hl => ?_)
  refine z_iconst C (0 : Int32) dX9_putRing_8 (by decide) ?_
  refine z_istore C (i := 6) [(6, .int (0 : Int32)), (5, .int x1), (4, .int (0 : Int32)), (3, .int (0 : Int32)), (0, .ref (ad 27)), (1, .int x1), (2, .ref (ad q2))] hl dX9_putRing_9 (by decide) rfl (fun ls hl => ?_)
  obtain ⟨w23, hw24, h⟩ := bnd h
  refine zl_X9_putRing_11 C F x1 q2 hQ2 (out := w23) (fun ls hl => ?_) F _ _ _ _ _ hw24 _ (lv_sub hl [4, 5, 6, 3, 2, 1, 0] rfl)
  refine z_aload_n C (i := 2) (k := 2) hl dX9_putRing_93 rfl rfl ?_
  refine z_iload_n C (i := 3) (k := 3) hl dX9_putRing_94 rfl rfl ?_
  refine z_iload C (i := 4) (k := 4) hl dX9_putRing_95 rfl ?_
  obtain ⟨u25, hc26, h⟩ := bnd h
  refine z_callV C (ci := 5) [.int w23.1, .int w23.2.1] [] [] (m_X5_put F _ _ _ _ _ hQ2 hc26) cw_X5_put vw_X5_put ml_X9_125 (shR hQ2) rfl rfl rfl rfl hl.1 (Nat.le_of_ble_eq_true rfl) ⟨Nat.le_of_ble_eq_true rfl, Nat.le_of_ble_eq_true rfl⟩ ⟨Nat.le_refl _, Nat.le_refl _⟩ rfl dX9_putRing_97 ?_
  obtain rfl := Option.some.inj h
  exact z_vret C dX9_putRing_100
def b_X9_findGreatest_6 (F : Nat) (q1 : Nat) (rec : Int32 → St → Option ((St) ⊕ (Int32 × St))) (x2 : Int32) (u : St) : Option ((St) ⊕ (Int32 × St)) := (if (1000000 : Int32) ≤ x2 then some (Sum.inr (x2, u)) else (Option.bind (f_X9_nodeBehindGreaterRing F q1 u) (fun w6 => (if w6.1 = (-1 : Int32) then some (Sum.inl w6.2) else (Option.bind (f_X9_nodeOnRing F w6.1 w6.2) (fun w10 => (Option.bind (f_X9_putRing F w10.1 q1 w10.2) (fun u11 => rec ((x2 + (1 : Int32))) u11))))))))
def l_X9_findGreatest_6 (F : Nat) (q1 : Nat) : Nat → Int32 → St → Option ((St) ⊕ (Int32 × St))
  | 0, _, _ => none
  | k + 1, x2, u => b_X9_findGreatest_6 F q1 (l_X9_findGreatest_6 F q1 k) x2 u
def f_X9_findGreatest (F : Nat) (q1 : Nat) (u : St) : Option (St) := (Option.bind (f_X5_putBelowAll F q1 u) (fun u1 => (Option.bind (l_X9_findGreatest_6 F q1 F (0 : Int32) u1) (fun w15 => Sum.elim (fun r => some r) (fun v17 => some v17.2) w15))))
set_option maxRecDepth 20000 in
set_option maxHeartbeats 4000000 in
theorem zl_X9_findGreatest_6 {p : Program} {l : Launch} {e : Env} {s : State} {m : MethodId} {args : Array Value} {below : List Frame} {meth : Method} {c : Code} {D : va_G} {cA : Nat → ClassId} {ad : Nat → Nat} {Q : State → Prop} (C : Cx SH p s m args meth c cX9_findGreatest 4 none RX9 D cA ad (inAd ad)) (F : Nat) (q1 : Nat) (hQ1 : IsR q1) {out : (St) ⊕ (Int32 × St)} (K1 : ∀ (u' : St), out = .inl u' → ∀ (pc : Nat) (ls : Array Slot), decode cX9_findGreatest pc = .ok (.return_, 1) → Z SH p l e (rmD 4) s m args below meth c D cA ad (inAd ad) 0 0 Q u' pc ls []) (K : ∀ (v : Int32 × St), out = .inr v → ∀ ls : Array Slot, lv_has ls 4 [(0, .ref (ad 27)), (1, .ref (ad q1)), (2, .int v.1)] → Z SH p l e (rmD 4) s m args below meth c D cA ad (inAd ad) 0 0 Q v.2 40 ls []) : ∀ (k : Nat) (x2 : Int32) (u : St), l_X9_findGreatest_6 F q1 k x2 u = some out → ∀ ls : Array Slot, lv_has ls 4 [(0, .ref (ad 27)), (1, .ref (ad q1)), (2, .int x2)] → Z SH p l e (rmD 4) s m args below meth c D cA ad (inAd ad) 0 0 Q u 6 ls [] := by
  intro k
  induction k with
  | zero => intro x2 u h; cases h
  | succ k ih =>
    intro x2 u h ls hl
    replace h : b_X9_findGreatest_6 F q1 (l_X9_findGreatest_6 F q1 k) x2 u = some out := h
    unfold b_X9_findGreatest_6 at h
    refine z_iload_n C (i := 2) (k := 2) hl dX9_findGreatest_6 rfl rfl ?_
    refine z_ldc C (v := (1000000 : Int32)) kw_X9_85 dX9_findGreatest_7 ?_
    refine z_icmp_ge C 40 dX9_findGreatest_9 (by decide) (fun hc14 => ?_) (fun hc14 => ?_)
    · replace h := (if_pos hc14).symm.trans h
      exact K _ (Option.some.inj h).symm _ (lv_sub hl [0, 1, 2] rfl)
    · replace h := (if_neg hc14).symm.trans h
      refine z_aload_n C (i := 0) (k := 0) hl dX9_findGreatest_12 rfl rfl ?_
      refine z_aload_n C (i := 1) (k := 1) hl dX9_findGreatest_13 rfl rfl ?_
      obtain ⟨⟨r5, u3⟩, hc4, h⟩ := bnd h
      try dsimp only at h
      refine z_callV C (ci := 9) [.ref (ad q1)] [] [.int r5] (m_X9_nodeBehindGreaterRing F _ _ _ _ hQ1 hc4) cw_X9_nodeBehindGreaterRing vw_X9_nodeBehindGreaterRing ml_X9_86 sh_27 rfl rfl rfl rfl hl.1 (Nat.le_of_ble_eq_true rfl) ⟨Nat.le_of_ble_eq_true rfl, Nat.le_of_ble_eq_true rfl⟩ ⟨Nat.le_refl _, Nat.le_refl _⟩ rfl dX9_findGreatest_14 ?_
      refine z_istore_n C (i := 3) [(3, .int r5), (0, .ref (ad 27)), (1, .ref (ad q1)), (2, .int x2)] hl dX9_findGreatest_17 rfl (by decide) rfl (fun ls hl => ?_)
      refine z_iload_n C (i := 3) (k := 0) hl dX9_findGreatest_18 rfl rfl ?_
      refine z_iconst C (-1 : Int32) dX9_findGreatest_19 (by decide) ?_
      refine z_icmp_ne C 24 dX9_findGreatest_20 (by decide) (fun hc13 => ?_) (fun hc13 => ?_)
      · replace h := (if_neg hc13).symm.trans h
        refine z_aload_n C (i := 0) (k := 1) hl dX9_findGreatest_24 rfl rfl ?_
        refine z_aload_n C (i := 0) (k := 1) hl dX9_findGreatest_25 rfl rfl ?_
        refine z_iload_n C (i := 3) (k := 0) hl dX9_findGreatest_26 rfl rfl ?_
        obtain ⟨⟨r9, u7⟩, hc8, h⟩ := bnd h
        try dsimp only at h
        refine z_callV C (ci := 9) [.int r5] [.ref (ad 27)] [.int r9, .ref (ad 27)] (m_X9_nodeOnRing F _ _ _ _ hc8) cw_X9_nodeOnRing vw_X9_nodeOnRing ml_X9_90 sh_27 rfl rfl rfl rfl hl.1 (Nat.le_of_ble_eq_true rfl) ⟨Nat.le_of_ble_eq_true rfl, Nat.le_of_ble_eq_true rfl⟩ ⟨Nat.le_refl _, Nat.le_refl _⟩ rfl dX9_findGreatest_27 ?_
        refine z_aload_n C (i := 1) (k := 2) hl dX9_findGreatest_30 rfl rfl ?_
        obtain ⟨u11, hc12, h⟩ := bnd h
        refine z_callV C (ci := 9) [.int r9, .ref (ad q1)] [] [] (m_X9_putRing F _ _ _ _ hQ1 hc12) cw_X9_putRing vw_X9_putRing ml_X9_94 sh_27 rfl rfl rfl rfl hl.1 (Nat.le_of_ble_eq_true rfl) ⟨Nat.le_of_ble_eq_true rfl, Nat.le_of_ble_eq_true rfl⟩ ⟨Nat.le_refl _, Nat.le_refl _⟩ rfl dX9_findGreatest_31 ?_
        refine z_iinc C (i := 2) (k := 3) (x2 + (1 : Int32)) [(2, .int (x2 + (1 : Int32))), (3, .int r5), (0, .ref (ad 27)), (1, .ref (ad q1))] hl dX9_findGreatest_34 rfl rfl (by decide) rfl (fun ls hl => ?_)
        refine z_goto C 6 dX9_findGreatest_37 (by decide) ?_
        exact ih _ _ h _ (lv_sub hl [2, 3, 0] rfl)
      · replace h := (if_pos hc13).symm.trans h
        exact K1 _ (Option.some.inj h).symm _ _ dX9_findGreatest_23
set_option maxRecDepth 20000 in
set_option maxHeartbeats 4000000 in
theorem m_X9_findGreatest (F : Nat) (q1 : Nat) (u : St) (u' : St) (hQ1 : IsR q1) (h : f_X9_findGreatest F q1 u = some u') : Mt yX9_findGreatest cX9_findGreatest 4 none 4 (fun ad => [.ref (ad 27), .ref (ad q1)]) u (fun _ => none) u' := by
  refine Mt.of (by decide) (fun ad => Nat.le_of_ble_eq_true rfl) ?_
  intro p l e s m args below meth c D cA ad ls C hl
  have hl : lv_has ls 4 [(0, .ref (ad 27)), (1, .ref (ad q1))] := hl
  unfold f_X9_findGreatest at h
  refine z_aload_n C (i := 1) (k := 1) hl dX9_findGreatest_0 rfl rfl ?_
  obtain ⟨u1, hc2, h⟩ := bnd h
  refine z_callV C (ci := 5) [] [] [] (m_X5_putBelowAll F _ _ _ hQ1 hc2) cw_X5_putBelowAll vw_X5_putBelowAll ml_X9_82 (shR hQ1) rfl rfl rfl rfl hl.1 (Nat.le_of_ble_eq_true rfl) ⟨Nat.le_of_ble_eq_true rfl, Nat.le_of_ble_eq_true rfl⟩ ⟨Nat.le_refl _, Nat.le_refl _⟩ rfl dX9_findGreatest_1 ?_
  refine z_iconst C (0 : Int32) dX9_findGreatest_4 (by decide) ?_
  refine z_istore_n C (i := 2) [(2, .int (0 : Int32)), (0, .ref (ad 27)), (1, .ref (ad q1))] hl dX9_findGreatest_5 rfl (by decide) rfl (fun ls hl => ?_)
  obtain ⟨w15, hw16, h⟩ := bnd h
  refine zl_X9_findGreatest_6 C F q1 hQ1 (out := w15) (fun u8 e18 pc ls hd => ?_) (fun v17 e18 ls hl => ?_) F _ _ hw16 _ (lv_sub hl [1, 2, 0] rfl)
  · subst e18
    obtain rfl := Option.some.inj h
    exact z_vret C hd
  · subst e18
    try dsimp only [Sum.elim] at h
    obtain rfl := Option.some.inj h
    exact z_vret C dX9_findGreatest_40
def b_X9_helper_39 (F : Nat)  (rec : Int32 → St → Option (Int32 × St)) (x1 : Int32) (u : St) : Option (Int32 × St) := (Option.bind (f_X4_arcs F u) (fun w6 => (if w6.1 ≤ x1 then some (x1, w6.2) else (Option.bind (f_X9_findGreatest F 29 (wr w6.2 27 10 x1)) (fun u7 => (Option.bind (f_X5_isLess F 29 30 u7) (fun w12 => (if w12.1 = 0 then rec ((x1 + (1 : Int32))) w12.2 else (Option.bind (f_X5_putAs F 30 29 w12.2) (fun u13 => rec ((x1 + (1 : Int32))) (wr u13 27 9 x1)))))))))))
def l_X9_helper_39 (F : Nat)  : Nat → Int32 → St → Option (Int32 × St)
  | 0, _, _ => none
  | k + 1, x1, u => b_X9_helper_39 F  (l_X9_helper_39 F  k) x1 u
def f_X9_helper (F : Nat)  (u : St) : Option (Int32 × St) := (if (u.1 27 7) = 0 then some ((-1 : Int32), u) else (if (u.1 27 8) = 0 then (Option.bind (f_X5_putAs F 30 28 (wr u 27 9 (-1 : Int32))) (fun u1 => (Option.bind (l_X9_helper_39 F  F (0 : Int32) u1) (fun w17 => some (((wr (wr w17.2 27 10 (-1 : Int32)) 27 8 (1 : Int32)).1 27 9), (wr (wr w17.2 27 10 (-1 : Int32)) 27 8 (1 : Int32))))))) else some ((u.1 27 9), u)))
set_option maxRecDepth 20000 in
set_option maxHeartbeats 4000000 in
theorem zl_X9_helper_39 {p : Program} {l : Launch} {e : Env} {s : State} {m : MethodId} {args : Array Value} {below : List Frame} {meth : Method} {c : Code} {D : va_G} {cA : Nat → ClassId} {ad : Nat → Nat} {Q : State → Prop} (C : Cx SH p s m args meth c cX9_helper 2 (some .int) RX9 D cA ad (inAd ad)) (F : Nat)   {out : Int32 × St}  (K : ∀ ls : Array Slot, lv_has ls 2 [(0, .ref (ad 27)), (1, .int out.1)] → Z SH p l e (rmD 5) s m args below meth c D cA ad (inAd ad) 0 0 Q out.2 99 ls []) : ∀ (k : Nat) (x1 : Int32) (u : St), l_X9_helper_39 F  k x1 u = some out → ∀ ls : Array Slot, lv_has ls 2 [(0, .ref (ad 27)), (1, .int x1)] → Z SH p l e (rmD 5) s m args below meth c D cA ad (inAd ad) 0 0 Q u 39 ls [] := by
  intro k
  induction k with
  | zero => intro x1 u h; cases h
  | succ k ih =>
    intro x1 u h ls hl
    replace h : b_X9_helper_39 F  (l_X9_helper_39 F  k) x1 u = some out := h
    unfold b_X9_helper_39 at h
    refine z_iload_n C (i := 1) (k := 1) hl dX9_helper_39 rfl rfl ?_
    refine z_aload_n C (i := 0) (k := 0) hl dX9_helper_40 rfl rfl ?_
    refine z_getr C 27 0 22 fw_X9_35 sh_27 rfl dX9_helper_41 ?_
    obtain ⟨⟨r5, u3⟩, hc4, h⟩ := bnd h
    try dsimp only at h
    refine z_callV C (ci := 4) [] [.int x1] [.int r5, .int x1] (m_X4_arcs F  _ _ _ hc4) cw_X4_arcs vw_X4_arcs ml_X9_75 sh_22 rfl rfl rfl rfl hl.1 (Nat.le_of_ble_eq_true rfl) ⟨Nat.le_of_ble_eq_true rfl, Nat.le_of_ble_eq_true rfl⟩ ⟨Nat.le_refl _, Nat.le_refl _⟩ rfl dX9_helper_44 ?_
    refine z_icmp_ge C 99 dX9_helper_47 (by decide) (fun hc16 => ?_) (fun hc16 => ?_)
    · replace h := (if_pos hc16).symm.trans h
      obtain rfl := Option.some.inj h
      exact K _ (lv_sub hl [0, 1] rfl)
    · replace h := (if_neg hc16).symm.trans h
      refine z_aload_n C (i := 0) (k := 0) hl dX9_helper_50 rfl rfl ?_
      refine z_iload_n C (i := 1) (k := 1) hl dX9_helper_51 rfl rfl ?_
      refine z_puti C 27 10 pw_X9_31 sh_27 rfl dX9_helper_52 ?_
      refine z_aload_n C (i := 0) (k := 0) hl dX9_helper_55 rfl rfl ?_
      refine z_aload_n C (i := 0) (k := 0) hl dX9_helper_56 rfl rfl ?_
      refine z_getr C 27 2 29 fw_X9_18 sh_27 rfl dX9_helper_57 ?_
      obtain ⟨u7, hc8, h⟩ := bnd h
      refine z_callV C (ci := 9) [.ref (ad 29)] [] [] (m_X9_findGreatest F _ _ _ (Or.inr (Or.inl rfl)) hc8) cw_X9_findGreatest vw_X9_findGreatest ml_X9_58 sh_27 rfl rfl rfl rfl hl.1 (Nat.le_of_ble_eq_true rfl) ⟨Nat.le_of_ble_eq_true rfl, Nat.le_of_ble_eq_true rfl⟩ ⟨Nat.le_refl _, Nat.le_refl _⟩ rfl dX9_helper_60 ?_
      refine z_aload_n C (i := 0) (k := 0) hl dX9_helper_63 rfl rfl ?_
      refine z_getr C 27 2 29 fw_X9_18 sh_27 rfl dX9_helper_64 ?_
      refine z_aload_n C (i := 0) (k := 0) hl dX9_helper_67 rfl rfl ?_
      refine z_getr C 27 3 30 fw_X9_21 sh_27 rfl dX9_helper_68 ?_
      obtain ⟨⟨r11, u9⟩, hc10, h⟩ := bnd h
      try dsimp only at h
      refine z_callV C (ci := 5) [.ref (ad 30)] [] [.int r11] (m_X5_isLess F _ _ _ _ _ (Or.inr (Or.inl rfl)) (Or.inr (Or.inr rfl)) hc10) cw_X5_isLess vw_X5_isLess ml_X9_78 sh_29 rfl rfl rfl rfl hl.1 (Nat.le_of_ble_eq_true rfl) ⟨Nat.le_of_ble_eq_true rfl, Nat.le_of_ble_eq_true rfl⟩ ⟨Nat.le_refl _, Nat.le_refl _⟩ rfl dX9_helper_71 ?_
      refine z_if_eq C 93 dX9_helper_74 (by decide) (fun hc15 => ?_) (fun hc15 => ?_)
      · replace h := (if_pos hc15).symm.trans h
        refine z_iinc C (i := 1) (k := 1) (x1 + (1 : Int32)) [(1, .int (x1 + (1 : Int32))), (0, .ref (ad 27))] hl dX9_helper_93 rfl rfl (by decide) rfl (fun ls hl => ?_)
        refine z_goto C 39 dX9_helper_96 (by decide) ?_
        exact ih _ _ h _ (lv_sub hl [1, 0] rfl)
      · replace h := (if_neg hc15).symm.trans h
        refine z_aload_n C (i := 0) (k := 0) hl dX9_helper_77 rfl rfl ?_
        refine z_getr C 27 3 30 fw_X9_21 sh_27 rfl dX9_helper_78 ?_
        refine z_aload_n C (i := 0) (k := 0) hl dX9_helper_81 rfl rfl ?_
        refine z_getr C 27 2 29 fw_X9_18 sh_27 rfl dX9_helper_82 ?_
        obtain ⟨u13, hc14, h⟩ := bnd h
        refine z_callV C (ci := 5) [.ref (ad 29)] [] [] (m_X5_putAs F _ _ _ _ (Or.inr (Or.inr rfl)) (Or.inr (Or.inl rfl)) hc14) cw_X5_putAs vw_X5_putAs ml_X9_72 sh_30 rfl rfl rfl rfl hl.1 (Nat.le_of_ble_eq_true rfl) ⟨Nat.le_of_ble_eq_true rfl, Nat.le_of_ble_eq_true rfl⟩ ⟨Nat.le_refl _, Nat.le_refl _⟩ rfl dX9_helper_85 ?_
        refine z_aload_n C (i := 0) (k := 0) hl dX9_helper_88 rfl rfl ?_
        refine z_iload_n C (i := 1) (k := 1) hl dX9_helper_89 rfl rfl ?_
        refine z_puti C 27 9 pw_X9_69 sh_27 rfl dX9_helper_90 ?_
        refine z_iinc C (i := 1) (k := 1) (x1 + (1 : Int32)) [(1, .int (x1 + (1 : Int32))), (0, .ref (ad 27))] hl dX9_helper_93 rfl rfl (by decide) rfl (fun ls hl => ?_)
        refine z_goto C 39 dX9_helper_96 (by decide) ?_
        exact ih _ _ h _ (lv_sub hl [1, 0] rfl)
set_option maxRecDepth 20000 in
set_option maxHeartbeats 4000000 in
theorem m_X9_helper (F : Nat)  (u : St) (r : Int32) (u' : St)  (h : f_X9_helper F  u = some (r, u')) : Mt yX9_helper cX9_helper 2 (some .int) 5 (fun ad => [.ref (ad 27)]) u (fun _ => some (.int r)) u' := by
  refine Mt.of (by decide) (fun ad => Nat.le_of_ble_eq_true rfl) ?_
  intro p l e s m args below meth c D cA ad ls C hl
  have hl : lv_has ls 2 [(0, .ref (ad 27))] := hl
  unfold f_X9_helper at h
  refine z_aload_n C (i := 0) (k := 0) hl dX9_helper_0 rfl rfl ?_
  refine z_geti C 27 7 fw_X9_55 sh_27 rfl dX9_helper_1 ?_
  refine z_if_ne C 9 dX9_helper_4 (by decide) (fun hc20 => ?_) (fun hc20 => ?_)
  · replace h := (if_neg hc20).symm.trans h
    refine z_aload_n C (i := 0) (k := 0) hl dX9_helper_9 rfl rfl ?_
    refine z_geti C 27 8 fw_X9_43 sh_27 rfl dX9_helper_10 ?_
    refine z_if_eq C 21 dX9_helper_13 (by decide) (fun hc19 => ?_) (fun hc19 => ?_)
    · replace h := (if_pos hc19).symm.trans h
      refine z_aload_n C (i := 0) (k := 0) hl dX9_helper_21 rfl rfl ?_
      refine z_iconst C (-1 : Int32) dX9_helper_22 (by decide) ?_
      refine z_puti C 27 9 pw_X9_69 sh_27 rfl dX9_helper_23 ?_
      refine z_aload_n C (i := 0) (k := 0) hl dX9_helper_26 rfl rfl ?_
      refine z_getr C 27 3 30 fw_X9_21 sh_27 rfl dX9_helper_27 ?_
      refine z_aload_n C (i := 0) (k := 0) hl dX9_helper_30 rfl rfl ?_
      refine z_getr C 27 1 28 fw_X9_12 sh_27 rfl dX9_helper_31 ?_
      obtain ⟨u1, hc2, h⟩ := bnd h
      refine z_callV C (ci := 5) [.ref (ad 28)] [] [] (m_X5_putAs F _ _ _ _ (Or.inr (Or.inr rfl)) (Or.inl rfl) hc2) cw_X5_putAs vw_X5_putAs ml_X9_72 sh_30 rfl rfl rfl rfl hl.1 (Nat.le_of_ble_eq_true rfl) ⟨Nat.le_of_ble_eq_true rfl, Nat.le_of_ble_eq_true rfl⟩ ⟨Nat.le_refl _, Nat.le_refl _⟩ rfl dX9_helper_34 ?_
      refine z_iconst C (0 : Int32) dX9_helper_37 (by decide) ?_
      refine z_istore_n C (i := 1) [(1, .int (0 : Int32)), (0, .ref (ad 27))] hl dX9_helper_38 rfl (by decide) rfl (fun ls hl => ?_)
      obtain ⟨w17, hw18, h⟩ := bnd h
      refine zl_X9_helper_39 C F (out := w17) (fun ls hl => ?_) F _ _ hw18 _ (lv_sub hl [1, 0] rfl)
      refine z_aload_n C (i := 0) (k := 0) hl dX9_helper_99 rfl rfl ?_
      refine z_iconst C (-1 : Int32) dX9_helper_100 (by decide) ?_
      refine z_puti C 27 10 pw_X9_31 sh_27 rfl dX9_helper_101 ?_
      refine z_aload_n C (i := 0) (k := 0) hl dX9_helper_104 rfl rfl ?_
      refine z_iconst C (1 : Int32) dX9_helper_105 (by decide) ?_
      refine z_putz C 27 8 pw_X9_43 (by decide) sh_27 rfl dX9_helper_106 ?_
      refine z_aload_n C (i := 0) (k := 0) hl dX9_helper_109 rfl rfl ?_
      refine z_geti C 27 9 fw_X9_69 sh_27 rfl dX9_helper_110 ?_
      obtain ⟨rfl, rfl⟩ := r2 h
      exact z_iret C dX9_helper_113
    · replace h := (if_neg hc19).symm.trans h
      refine z_aload_n C (i := 0) (k := 0) hl dX9_helper_16 rfl rfl ?_
      refine z_geti C 27 9 fw_X9_69 sh_27 rfl dX9_helper_17 ?_
      obtain ⟨rfl, rfl⟩ := r2 h
      exact z_iret C dX9_helper_20
  · replace h := (if_pos hc20).symm.trans h
    refine z_iconst C (-1 : Int32) dX9_helper_7 (by decide) ?_
    obtain ⟨rfl, rfl⟩ := r2 h
    exact z_iret C dX9_helper_8
def f_X4_hasRing (F : Nat)  (u : St) : Option (Int32 × St) := (Option.bind (f_X4_nodesBehindRings F (9 : Int32) u) (fun w4 => (if w4.1 = 0 then some ((0 : Int32), w4.2) else some ((1 : Int32), w4.2))))
set_option maxRecDepth 20000 in
set_option maxHeartbeats 4000000 in
theorem m_X4_hasRing (F : Nat)  (u : St) (r : Int32) (u' : St)  (h : f_X4_hasRing F  u = some (r, u')) : Mt yX4_hasRing cX4_hasRing 1 (some .boolean) 3 (fun ad => [.ref (ad 22)]) u (fun _ => some (.int r)) u' := by
  refine Mt.of (by decide) (fun ad => Nat.le_of_ble_eq_true rfl) ?_
  intro p l e s m args below meth c D cA ad ls C hl
  have hl : lv_has ls 1 [(0, .ref (ad 22))] := hl
  unfold f_X4_hasRing at h
  refine z_aload_n C (i := 0) (k := 0) hl dX4_hasRing_0 rfl rfl ?_
  refine z_bipush C (9 : Int32) dX4_hasRing_1 (by decide) ?_
  obtain ⟨⟨r3, u1⟩, hc2, h⟩ := bnd h
  try dsimp only at h
  refine z_callV C (ci := 4) [.int (9 : Int32)] [] [.int r3] (m_X4_nodesBehindRings F _ _ _ _ hc2) cw_X4_nodesBehindRings vw_X4_nodesBehindRings ml_X4_38 sh_22 rfl rfl rfl rfl hl.1 (Nat.le_of_ble_eq_true rfl) ⟨Nat.le_of_ble_eq_true rfl, Nat.le_of_ble_eq_true rfl⟩ ⟨Nat.le_refl _, Nat.le_refl _⟩ rfl dX4_hasRing_3 ?_
  refine z_if_eq C 13 dX4_hasRing_6 (by decide) (fun hc5 => ?_) (fun hc5 => ?_)
  · replace h := (if_pos hc5).symm.trans h
    refine z_iconst C (0 : Int32) dX4_hasRing_13 (by decide) ?_
    obtain ⟨rfl, rfl⟩ := r2 h
    exact z_zret (by decide) C dX4_hasRing_14
  · replace h := (if_neg hc5).symm.trans h
    refine z_iconst C (1 : Int32) dX4_hasRing_9 (by decide) ?_
    refine z_goto C 14 dX4_hasRing_10 (by decide) ?_
    obtain ⟨rfl, rfl⟩ := r2 h
    exact z_zret (by decide) C dX4_hasRing_14
def f_X9_renew (F : Nat)  (u : St) : Option (St) := (if (u.1 27 6) = 0 then (Option.bind (f_X4_hasRing F u) (fun w4 => (if w4.1 = 0 then (if ((wr w4.2 27 7 (0 : Int32)).1 27 7) = 0 then some (wr (wr w4.2 27 7 (0 : Int32)) 27 6 (1 : Int32)) else (Option.bind (f_X9_findGreatest F 28 (wr (wr w4.2 27 7 (0 : Int32)) 27 10 (-1 : Int32))) (fun u5 => some (wr u5 27 6 (1 : Int32))))) else (Option.bind (f_X4_hasDeadRing F w4.2) (fun w11 => (if w11.1 = 0 then (if ((wr w11.2 27 7 (1 : Int32)).1 27 7) = 0 then some (wr (wr w11.2 27 7 (1 : Int32)) 27 6 (1 : Int32)) else (Option.bind (f_X9_findGreatest F 28 (wr (wr w11.2 27 7 (1 : Int32)) 27 10 (-1 : Int32))) (fun u15 => some (wr u15 27 6 (1 : Int32))))) else (if ((wr w11.2 27 7 (0 : Int32)).1 27 7) = 0 then some (wr (wr w11.2 27 7 (0 : Int32)) 27 6 (1 : Int32)) else (Option.bind (f_X9_findGreatest F 28 (wr (wr w11.2 27 7 (0 : Int32)) 27 10 (-1 : Int32))) (fun u12 => some (wr u12 27 6 (1 : Int32))))))))))) else some u)
set_option maxRecDepth 20000 in
set_option maxHeartbeats 4000000 in
theorem m_X9_renew (F : Nat)  (u : St) (u' : St)  (h : f_X9_renew F  u = some u') : Mt yX9_renew cX9_renew 1 none 5 (fun ad => [.ref (ad 27)]) u (fun _ => none) u' := by
  refine Mt.of (by decide) (fun ad => Nat.le_of_ble_eq_true rfl) ?_
  intro p l e s m args below meth c D cA ad ls C hl
  have hl : lv_has ls 1 [(0, .ref (ad 27))] := hl
  unfold f_X9_renew at h
  refine z_aload_n C (i := 0) (k := 0) hl dX9_renew_0 rfl rfl ?_
  refine z_geti C 27 6 fw_X9_39 sh_27 rfl dX9_renew_1 ?_
  refine z_if_eq C 8 dX9_renew_4 (by decide) (fun hc20 => ?_) (fun hc20 => ?_)
  · replace h := (if_pos hc20).symm.trans h
    refine z_aload_n C (i := 0) (k := 0) hl dX9_renew_8 rfl rfl ?_
    refine z_aload_n C (i := 0) (k := 0) hl dX9_renew_9 rfl rfl ?_
    refine z_getr C 27 0 22 fw_X9_35 sh_27 rfl dX9_renew_10 ?_
    obtain ⟨⟨r3, u1⟩, hc2, h⟩ := bnd h
    try dsimp only at h
    refine z_callV C (ci := 4) [] [.ref (ad 27)] [.int r3, .ref (ad 27)] (m_X4_hasRing F  _ _ _ hc2) cw_X4_hasRing vw_X4_hasRing ml_X9_46 sh_22 rfl rfl rfl rfl hl.1 (Nat.le_of_ble_eq_true rfl) ⟨Nat.le_of_ble_eq_true rfl, Nat.le_of_ble_eq_true rfl⟩ ⟨Nat.le_refl _, Nat.le_refl _⟩ rfl dX9_renew_13 ?_
    refine z_if_eq C 33 dX9_renew_16 (by decide) (fun hc19 => ?_) (fun hc19 => ?_)
    · replace h := (if_pos hc19).symm.trans h
      refine z_iconst C (0 : Int32) dX9_renew_33 (by decide) ?_
      refine z_putz C 27 7 pw_X9_55 (by decide) sh_27 rfl dX9_renew_34 ?_
      refine z_aload_n C (i := 0) (k := 0) hl dX9_renew_37 rfl rfl ?_
      refine z_geti C 27 7 fw_X9_55 sh_27 rfl dX9_renew_38 ?_
      refine z_if_eq C 57 dX9_renew_41 (by decide) (fun hc7 => ?_) (fun hc7 => ?_)
      · replace h := (if_pos hc7).symm.trans h
        refine z_aload_n C (i := 0) (k := 0) hl dX9_renew_57 rfl rfl ?_
        refine z_iconst C (1 : Int32) dX9_renew_58 (by decide) ?_
        refine z_putz C 27 6 pw_X9_39 (by decide) sh_27 rfl dX9_renew_59 ?_
        obtain rfl := Option.some.inj h
        exact z_vret C dX9_renew_62
      · replace h := (if_neg hc7).symm.trans h
        refine z_aload_n C (i := 0) (k := 0) hl dX9_renew_44 rfl rfl ?_
        refine z_iconst C (-1 : Int32) dX9_renew_45 (by decide) ?_
        refine z_puti C 27 10 pw_X9_31 sh_27 rfl dX9_renew_46 ?_
        refine z_aload_n C (i := 0) (k := 0) hl dX9_renew_49 rfl rfl ?_
        refine z_aload_n C (i := 0) (k := 0) hl dX9_renew_50 rfl rfl ?_
        refine z_getr C 27 1 28 fw_X9_12 sh_27 rfl dX9_renew_51 ?_
        obtain ⟨u5, hc6, h⟩ := bnd h
        refine z_callV C (ci := 9) [.ref (ad 28)] [] [] (m_X9_findGreatest F _ _ _ (Or.inl rfl) hc6) cw_X9_findGreatest vw_X9_findGreatest ml_X9_58 sh_27 rfl rfl rfl rfl hl.1 (Nat.le_of_ble_eq_true rfl) ⟨Nat.le_of_ble_eq_true rfl, Nat.le_of_ble_eq_true rfl⟩ ⟨Nat.le_refl _, Nat.le_refl _⟩ rfl dX9_renew_54 ?_
        refine z_aload_n C (i := 0) (k := 0) hl dX9_renew_57 rfl rfl ?_
        refine z_iconst C (1 : Int32) dX9_renew_58 (by decide) ?_
        refine z_putz C 27 6 pw_X9_39 (by decide) sh_27 rfl dX9_renew_59 ?_
        obtain rfl := Option.some.inj h
        exact z_vret C dX9_renew_62
    · replace h := (if_neg hc19).symm.trans h
      refine z_aload_n C (i := 0) (k := 0) hl dX9_renew_19 rfl rfl ?_
      refine z_getr C 27 0 22 fw_X9_35 sh_27 rfl dX9_renew_20 ?_
      obtain ⟨⟨r10, u8⟩, hc9, h⟩ := bnd h
      try dsimp only at h
      refine z_callV C (ci := 4) [] [.ref (ad 27)] [.int r10, .ref (ad 27)] (m_X4_hasDeadRing F  _ _ _ hc9) cw_X4_hasDeadRing vw_X4_hasDeadRing ml_X9_52 sh_22 rfl rfl rfl rfl hl.1 (Nat.le_of_ble_eq_true rfl) ⟨Nat.le_of_ble_eq_true rfl, Nat.le_of_ble_eq_true rfl⟩ ⟨Nat.le_refl _, Nat.le_refl _⟩ rfl dX9_renew_23 ?_
      refine z_if_ne C 33 dX9_renew_26 (by decide) (fun hc18 => ?_) (fun hc18 => ?_)
      · replace h := (if_neg hc18).symm.trans h
        refine z_iconst C (0 : Int32) dX9_renew_33 (by decide) ?_
        refine z_putz C 27 7 pw_X9_55 (by decide) sh_27 rfl dX9_renew_34 ?_
        refine z_aload_n C (i := 0) (k := 0) hl dX9_renew_37 rfl rfl ?_
        refine z_geti C 27 7 fw_X9_55 sh_27 rfl dX9_renew_38 ?_
        refine z_if_eq C 57 dX9_renew_41 (by decide) (fun hc14 => ?_) (fun hc14 => ?_)
        · replace h := (if_pos hc14).symm.trans h
          refine z_aload_n C (i := 0) (k := 0) hl dX9_renew_57 rfl rfl ?_
          refine z_iconst C (1 : Int32) dX9_renew_58 (by decide) ?_
          refine z_putz C 27 6 pw_X9_39 (by decide) sh_27 rfl dX9_renew_59 ?_
          obtain rfl := Option.some.inj h
          exact z_vret C dX9_renew_62
        · replace h := (if_neg hc14).symm.trans h
          refine z_aload_n C (i := 0) (k := 0) hl dX9_renew_44 rfl rfl ?_
          refine z_iconst C (-1 : Int32) dX9_renew_45 (by decide) ?_
          refine z_puti C 27 10 pw_X9_31 sh_27 rfl dX9_renew_46 ?_
          refine z_aload_n C (i := 0) (k := 0) hl dX9_renew_49 rfl rfl ?_
          refine z_aload_n C (i := 0) (k := 0) hl dX9_renew_50 rfl rfl ?_
          refine z_getr C 27 1 28 fw_X9_12 sh_27 rfl dX9_renew_51 ?_
          obtain ⟨u12, hc13, h⟩ := bnd h
          refine z_callV C (ci := 9) [.ref (ad 28)] [] [] (m_X9_findGreatest F _ _ _ (Or.inl rfl) hc13) cw_X9_findGreatest vw_X9_findGreatest ml_X9_58 sh_27 rfl rfl rfl rfl hl.1 (Nat.le_of_ble_eq_true rfl) ⟨Nat.le_of_ble_eq_true rfl, Nat.le_of_ble_eq_true rfl⟩ ⟨Nat.le_refl _, Nat.le_refl _⟩ rfl dX9_renew_54 ?_
          refine z_aload_n C (i := 0) (k := 0) hl dX9_renew_57 rfl rfl ?_
          refine z_iconst C (1 : Int32) dX9_renew_58 (by decide) ?_
          refine z_putz C 27 6 pw_X9_39 (by decide) sh_27 rfl dX9_renew_59 ?_
          obtain rfl := Option.some.inj h
          exact z_vret C dX9_renew_62
      · replace h := (if_pos hc18).symm.trans h
        refine z_iconst C (1 : Int32) dX9_renew_29 (by decide) ?_
        refine z_goto C 34 dX9_renew_30 (by decide) ?_
        refine z_putz C 27 7 pw_X9_55 (by decide) sh_27 rfl dX9_renew_34 ?_
        refine z_aload_n C (i := 0) (k := 0) hl dX9_renew_37 rfl rfl ?_
        refine z_geti C 27 7 fw_X9_55 sh_27 rfl dX9_renew_38 ?_
        refine z_if_eq C 57 dX9_renew_41 (by decide) (fun hc17 => ?_) (fun hc17 => ?_)
        · replace h := (if_pos hc17).symm.trans h
          refine z_aload_n C (i := 0) (k := 0) hl dX9_renew_57 rfl rfl ?_
          refine z_iconst C (1 : Int32) dX9_renew_58 (by decide) ?_
          refine z_putz C 27 6 pw_X9_39 (by decide) sh_27 rfl dX9_renew_59 ?_
          obtain rfl := Option.some.inj h
          exact z_vret C dX9_renew_62
        · replace h := (if_neg hc17).symm.trans h
          refine z_aload_n C (i := 0) (k := 0) hl dX9_renew_44 rfl rfl ?_
          refine z_iconst C (-1 : Int32) dX9_renew_45 (by decide) ?_
          refine z_puti C 27 10 pw_X9_31 sh_27 rfl dX9_renew_46 ?_
          refine z_aload_n C (i := 0) (k := 0) hl dX9_renew_49 rfl rfl ?_
          refine z_aload_n C (i := 0) (k := 0) hl dX9_renew_50 rfl rfl ?_
          refine z_getr C 27 1 28 fw_X9_12 sh_27 rfl dX9_renew_51 ?_
          obtain ⟨u15, hc16, h⟩ := bnd h
          refine z_callV C (ci := 9) [.ref (ad 28)] [] [] (m_X9_findGreatest F _ _ _ (Or.inl rfl) hc16) cw_X9_findGreatest vw_X9_findGreatest ml_X9_58 sh_27 rfl rfl rfl rfl hl.1 (Nat.le_of_ble_eq_true rfl) ⟨Nat.le_of_ble_eq_true rfl, Nat.le_of_ble_eq_true rfl⟩ ⟨Nat.le_refl _, Nat.le_refl _⟩ rfl dX9_renew_54 ?_
          refine z_aload_n C (i := 0) (k := 0) hl dX9_renew_57 rfl rfl ?_
          refine z_iconst C (1 : Int32) dX9_renew_58 (by decide) ?_
          refine z_putz C 27 6 pw_X9_39 (by decide) sh_27 rfl dX9_renew_59 ?_
          obtain rfl := Option.some.inj h
          exact z_vret C dX9_renew_62
  · replace h := (if_neg hc20).symm.trans h
    obtain rfl := Option.some.inj h
    exact z_vret C dX9_renew_7
def f_X11_helps (F : Nat)  (u : St) : Option (Int32 × St) := (Option.bind (f_X9_renew F u) (fun u1 => (Option.bind (f_X9_helper F u1) (fun w6 => some (w6.1, w6.2)))))
set_option maxRecDepth 20000 in
set_option maxHeartbeats 4000000 in
theorem m_X11_helps (F : Nat)  (u : St) (r : Int32) (u' : St)  (h : f_X11_helps F  u = some (r, u')) : Mt yX11_helps cX11_helps 1 (some .int) 6 (fun ad => [.ref (ad 0)]) u (fun _ => some (.int r)) u' := by
  refine Mt.of (by decide) (fun ad => Nat.le_of_ble_eq_true rfl) ?_
  intro p l e s m args below meth c D cA ad ls C hl
  have hl : lv_has ls 1 [(0, .ref (ad 0))] := hl
  unfold f_X11_helps at h
  refine z_aload_n C (i := 0) (k := 0) hl dX11_helps_0 rfl rfl ?_
  refine z_getr C 0 8 27 fw_X11_73 sh_0 rfl dX11_helps_1 ?_
  obtain ⟨u1, hc2, h⟩ := bnd h
  refine z_callV C (ci := 9) [] [] [] (m_X9_renew F  _ _ hc2) cw_X9_renew vw_X9_renew ml_X11_203 sh_27 rfl rfl rfl rfl hl.1 (Nat.le_of_ble_eq_true rfl) ⟨Nat.le_of_ble_eq_true rfl, Nat.le_of_ble_eq_true rfl⟩ ⟨Nat.le_refl _, Nat.le_refl _⟩ rfl dX11_helps_4 ?_
  refine z_aload_n C (i := 0) (k := 0) hl dX11_helps_7 rfl rfl ?_
  refine z_getr C 0 8 27 fw_X11_73 sh_0 rfl dX11_helps_8 ?_
  obtain ⟨⟨r5, u3⟩, hc4, h⟩ := bnd h
  try dsimp only at h
  refine z_callV C (ci := 9) [] [] [.int r5] (m_X9_helper F  _ _ _ hc4) cw_X9_helper vw_X9_helper ml_X11_228 sh_27 rfl rfl rfl rfl hl.1 (Nat.le_of_ble_eq_true rfl) ⟨Nat.le_of_ble_eq_true rfl, Nat.le_of_ble_eq_true rfl⟩ ⟨Nat.le_refl _, Nat.le_refl _⟩ rfl dX11_helps_11 ?_
  obtain ⟨rfl, rfl⟩ := r2 h
  exact z_iret C dX11_helps_14
def f_X3_find (F : Nat) (x1 : Int32) (u : St) : Option (St) := (if x1 < 0 ∨ 4096 ≤ x1.toNatClampNeg then none else (if (u.1 19 x1.toNatClampNeg) = 0 then (if (4096 : Int32) ≤ (u.1 18 4) then some u else (if x1 < 0 ∨ 4096 ≤ x1.toNatClampNeg then none else (if ((wr u 19 x1.toNatClampNeg (vp_nar .boolean (1 : Int32))).1 18 4) < 0 ∨ 4096 ≤ ((wr u 19 x1.toNatClampNeg (vp_nar .boolean (1 : Int32))).1 18 4).toNatClampNeg then none else some (wr (wr (wr u 19 x1.toNatClampNeg (vp_nar .boolean (1 : Int32))) 20 ((wr u 19 x1.toNatClampNeg (vp_nar .boolean (1 : Int32))).1 18 4).toNatClampNeg x1) 18 4 (((wr (wr u 19 x1.toNatClampNeg (vp_nar .boolean (1 : Int32))) 20 ((wr u 19 x1.toNatClampNeg (vp_nar .boolean (1 : Int32))).1 18 4).toNatClampNeg x1).1 18 4) + (1 : Int32)))))) else some u))
set_option maxRecDepth 20000 in
set_option maxHeartbeats 4000000 in
theorem m_X3_find (F : Nat) (x1 : Int32) (u : St) (u' : St)  (h : f_X3_find F x1 u = some u') : Mt yX3_find cX3_find 2 none 0 (fun ad => [.ref (ad 18), .int x1]) u (fun _ => none) u' := by
  refine Mt.of (by decide) (fun ad => Nat.le_of_ble_eq_true rfl) ?_
  intro p l e s m args below meth c D cA ad ls C hl
  have hl : lv_has ls 2 [(0, .ref (ad 18)), (1, .int x1)] := hl
  unfold f_X3_find at h
  refine z_aload_n C (i := 0) (k := 0) hl dX3_find_0 rfl rfl ?_
  refine z_getr C 18 2 19 fw_X3_9 sh_18 rfl dX3_find_1 ?_
  refine z_iload_n C (i := 1) (k := 1) hl dX3_find_4 rfl rfl ?_
  obtain ⟨hi1, h⟩ := gd h
  refine z_zald C 19 4096 sh_19 hi1 dX3_find_5 ?_
  refine z_if_ne C 46 dX3_find_6 (by decide) (fun hc5 => ?_) (fun hc5 => ?_)
  · replace h := (if_neg hc5).symm.trans h
    obtain rfl := Option.some.inj h
    exact z_vret C dX3_find_46
  · replace h := (if_pos hc5).symm.trans h
    refine z_aload_n C (i := 0) (k := 0) hl dX3_find_9 rfl rfl ?_
    refine z_geti C 18 4 fw_X3_42 sh_18 rfl dX3_find_10 ?_
    refine z_sipush C (4096 : Int32) dX3_find_13 (by decide) ?_
    refine z_icmp_ge C 46 dX3_find_16 (by decide) (fun hc4 => ?_) (fun hc4 => ?_)
    · replace h := (if_pos hc4).symm.trans h
      obtain rfl := Option.some.inj h
      exact z_vret C dX3_find_46
    · replace h := (if_neg hc4).symm.trans h
      refine z_aload_n C (i := 0) (k := 0) hl dX3_find_19 rfl rfl ?_
      refine z_getr C 18 2 19 fw_X3_9 sh_18 rfl dX3_find_20 ?_
      refine z_iload_n C (i := 1) (k := 1) hl dX3_find_23 rfl rfl ?_
      refine z_iconst C (1 : Int32) dX3_find_24 (by decide) ?_
      obtain ⟨hi2, h⟩ := gd h
      refine z_zast C 19 4096 sh_19 hi2 dX3_find_25 ?_
      refine z_aload_n C (i := 0) (k := 0) hl dX3_find_26 rfl rfl ?_
      refine z_getr C 18 3 20 fw_X3_15 sh_18 rfl dX3_find_27 ?_
      refine z_aload_n C (i := 0) (k := 0) hl dX3_find_30 rfl rfl ?_
      refine z_geti C 18 4 fw_X3_42 sh_18 rfl dX3_find_31 ?_
      refine z_iload_n C (i := 1) (k := 1) hl dX3_find_34 rfl rfl ?_
      obtain ⟨hi3, h⟩ := gd h
      refine z_iast C 20 4096 sh_20 hi3 dX3_find_35 ?_
      refine z_aload_n C (i := 0) (k := 0) hl dX3_find_36 rfl rfl ?_
      refine z_dup C dX3_find_37 rfl ?_
      refine z_geti C 18 4 fw_X3_42 sh_18 rfl dX3_find_38 ?_
      refine z_iconst C (1 : Int32) dX3_find_41 (by decide) ?_
      refine z_iadd C dX3_find_42 ?_
      refine z_puti C 18 4 pw_X3_42 sh_18 rfl dX3_find_43 ?_
      obtain rfl := Option.some.inj h
      exact z_vret C dX3_find_46
def b_X3_goBackFrom_2 (F : Nat) (x1 : Int32) (rec : Int32 → St → Option (Int32 × St)) (x2 : Int32) (u : St) : Option (Int32 × St) := (if (12 : Int32) ≤ x2 then some (x2, u) else (Option.bind (f_X10_placeOf F (x1 ^^^ ((1 : Int32) <<< (x2 &&& 31))) u) (fun w4 => (if w4.1 = (-1 : Int32) then rec ((x2 + (1 : Int32))) w4.2 else (Option.bind (f_X0_askedIn F (x1 ^^^ ((1 : Int32) <<< (x2 &&& 31))) w4.2) (fun w8 => (Option.bind (f_X11_isIn F w8.1 x2 w8.2) (fun w12 => (if w12.1 = 0 then rec ((x2 + (1 : Int32))) w12.2 else (Option.bind (f_X3_find F (x1 ^^^ ((1 : Int32) <<< (x2 &&& 31))) w12.2) (fun u13 => rec ((x2 + (1 : Int32))) u13)))))))))))
def l_X3_goBackFrom_2 (F : Nat) (x1 : Int32) : Nat → Int32 → St → Option (Int32 × St)
  | 0, _, _ => none
  | k + 1, x2, u => b_X3_goBackFrom_2 F x1 (l_X3_goBackFrom_2 F x1 k) x2 u
def f_X3_goBackFrom (F : Nat) (x1 : Int32) (u : St) : Option (St) := (Option.bind (l_X3_goBackFrom_2 F x1 F (0 : Int32) u) (fun w18 => some w18.2))
set_option maxRecDepth 20000 in
set_option maxHeartbeats 4000000 in
theorem zl_X3_goBackFrom_2 {p : Program} {l : Launch} {e : Env} {s : State} {m : MethodId} {args : Array Value} {below : List Frame} {meth : Method} {c : Code} {D : va_G} {cA : Nat → ClassId} {ad : Nat → Nat} {Q : State → Prop} (C : Cx SH p s m args meth c cX3_goBackFrom 4 none RX3 D cA ad (inAd ad)) (F : Nat) (x1 : Int32)  {out : Int32 × St}  (K : ∀ ls : Array Slot, lv_has ls 4 [(0, .ref (ad 18)), (1, .int x1), (2, .int out.1)] → Z SH p l e (rmD 2) s m args below meth c D cA ad (inAd ad) 0 0 Q out.2 52 ls []) : ∀ (k : Nat) (x2 : Int32) (u : St), l_X3_goBackFrom_2 F x1 k x2 u = some out → ∀ ls : Array Slot, lv_has ls 4 [(0, .ref (ad 18)), (1, .int x1), (2, .int x2)] → Z SH p l e (rmD 2) s m args below meth c D cA ad (inAd ad) 0 0 Q u 2 ls [] := by
  intro k
  induction k with
  | zero => intro x2 u h; cases h
  | succ k ih =>
    intro x2 u h ls hl
    replace h : b_X3_goBackFrom_2 F x1 (l_X3_goBackFrom_2 F x1 k) x2 u = some out := h
    unfold b_X3_goBackFrom_2 at h
    refine z_iload_n C (i := 2) (k := 2) hl dX3_goBackFrom_2 rfl rfl ?_
    refine z_bipush C (12 : Int32) dX3_goBackFrom_3 (by decide) ?_
    refine z_icmp_ge C 52 dX3_goBackFrom_5 (by decide) (fun hc17 => ?_) (fun hc17 => ?_)
    · replace h := (if_pos hc17).symm.trans h
      obtain rfl := Option.some.inj h
      exact K _ (lv_sub hl [0, 1, 2] rfl)
    · replace h := (if_neg hc17).symm.trans h
      refine z_iload_n C (i := 1) (k := 1) hl dX3_goBackFrom_8 rfl rfl ?_
      refine z_iconst C (1 : Int32) dX3_goBackFrom_9 (by decide) ?_
      refine z_iload_n C (i := 2) (k := 2) hl dX3_goBackFrom_10 rfl rfl ?_
      refine z_ishl C dX3_goBackFrom_11 ?_
      refine z_ixor C dX3_goBackFrom_12 ?_
      refine z_istore_n C (i := 3) [(3, .int (x1 ^^^ ((1 : Int32) <<< (x2 &&& 31)))), (0, .ref (ad 18)), (1, .int x1), (2, .int x2)] hl dX3_goBackFrom_13 rfl (by decide) rfl (fun ls hl => ?_)
      refine z_aload_n C (i := 0) (k := 1) hl dX3_goBackFrom_14 rfl rfl ?_
      refine z_getr C 18 1 11 fw_X3_23 sh_18 rfl dX3_goBackFrom_15 ?_
      refine z_iload_n C (i := 3) (k := 0) hl dX3_goBackFrom_18 rfl rfl ?_
      obtain ⟨⟨r3, u1⟩, hc2, h⟩ := bnd h
      try dsimp only at h
      refine z_callV C (ci := 10) [.int (x1 ^^^ ((1 : Int32) <<< (x2 &&& 31)))] [] [.int r3] (m_X10_placeOf F _ _ _ _ hc2) cw_X10_placeOf vw_X10_placeOf ml_X3_67 sh_11 rfl rfl rfl rfl hl.1 (Nat.le_of_ble_eq_true rfl) ⟨Nat.le_of_ble_eq_true rfl, Nat.le_of_ble_eq_true rfl⟩ ⟨Nat.le_refl _, Nat.le_refl _⟩ rfl dX3_goBackFrom_19 ?_
      refine z_iconst C (-1 : Int32) dX3_goBackFrom_22 (by decide) ?_
      refine z_icmp_eq C 46 dX3_goBackFrom_23 (by decide) (fun hc16 => ?_) (fun hc16 => ?_)
      · replace h := (if_pos hc16).symm.trans h
        refine z_iinc C (i := 2) (k := 3) (x2 + (1 : Int32)) [(2, .int (x2 + (1 : Int32))), (3, .int (x1 ^^^ ((1 : Int32) <<< (x2 &&& 31)))), (0, .ref (ad 18)), (1, .int x1)] hl dX3_goBackFrom_46 rfl rfl (by decide) rfl (fun ls hl => ?_)
        refine z_goto C 2 dX3_goBackFrom_49 (by decide) ?_
        exact ih _ _ h _ (lv_sub hl [2, 3, 0] rfl)
      · replace h := (if_neg hc16).symm.trans h
        refine z_aload_n C (i := 0) (k := 1) hl dX3_goBackFrom_26 rfl rfl ?_
        refine z_getr C 18 0 4 fw_X3_19 sh_18 rfl dX3_goBackFrom_27 ?_
        refine z_iload_n C (i := 3) (k := 0) hl dX3_goBackFrom_30 rfl rfl ?_
        obtain ⟨⟨r7, u5⟩, hc6, h⟩ := bnd h
        try dsimp only at h
        refine z_callV C (ci := 0) [.int (x1 ^^^ ((1 : Int32) <<< (x2 &&& 31)))] [] [.int r7] (m_X0_askedIn F _ _ _ _ hc6) cw_X0_askedIn vw_X0_askedIn ml_X3_55 sh_4 rfl rfl rfl rfl hl.1 (Nat.le_of_ble_eq_true rfl) ⟨Nat.le_of_ble_eq_true rfl, Nat.le_of_ble_eq_true rfl⟩ ⟨Nat.le_refl _, Nat.le_refl _⟩ rfl dX3_goBackFrom_31 ?_
        refine z_iload_n C (i := 2) (k := 3) hl dX3_goBackFrom_34 rfl rfl ?_
        obtain ⟨⟨r11, u9⟩, hc10, h⟩ := bnd h
        try dsimp only at h
        refine z_callSN C [.int r7, .int x2] [] [.int r11] (m_X11_isIn F _ _ _ _ _ hc10) cw_X11_isIn sw_X11_isIn mn_X3_34 rfl rfl rfl hl.1 (Nat.le_of_ble_eq_true rfl) ⟨Nat.le_of_ble_eq_true rfl, Nat.le_of_ble_eq_true rfl⟩ ⟨Nat.le_refl _, Nat.le_refl _⟩ rfl dX3_goBackFrom_35 ?_
        refine z_if_eq C 46 dX3_goBackFrom_38 (by decide) (fun hc15 => ?_) (fun hc15 => ?_)
        · replace h := (if_pos hc15).symm.trans h
          refine z_iinc C (i := 2) (k := 3) (x2 + (1 : Int32)) [(2, .int (x2 + (1 : Int32))), (3, .int (x1 ^^^ ((1 : Int32) <<< (x2 &&& 31)))), (0, .ref (ad 18)), (1, .int x1)] hl dX3_goBackFrom_46 rfl rfl (by decide) rfl (fun ls hl => ?_)
          refine z_goto C 2 dX3_goBackFrom_49 (by decide) ?_
          exact ih _ _ h _ (lv_sub hl [2, 3, 0] rfl)
        · replace h := (if_neg hc15).symm.trans h
          refine z_aload_n C (i := 0) (k := 1) hl dX3_goBackFrom_41 rfl rfl ?_
          refine z_iload_n C (i := 3) (k := 0) hl dX3_goBackFrom_42 rfl rfl ?_
          obtain ⟨u13, hc14, h⟩ := bnd h
          refine z_callV C (ci := 3) [.int (x1 ^^^ ((1 : Int32) <<< (x2 &&& 31)))] [] [] (m_X3_find F _ _ _ hc14) cw_X3_find vw_X3_find ml_X3_60 sh_18 rfl rfl rfl rfl hl.1 (Nat.le_of_ble_eq_true rfl) ⟨Nat.le_of_ble_eq_true rfl, Nat.le_of_ble_eq_true rfl⟩ ⟨Nat.le_refl _, Nat.le_refl _⟩ rfl dX3_goBackFrom_43 ?_
          refine z_iinc C (i := 2) (k := 3) (x2 + (1 : Int32)) [(2, .int (x2 + (1 : Int32))), (3, .int (x1 ^^^ ((1 : Int32) <<< (x2 &&& 31)))), (0, .ref (ad 18)), (1, .int x1)] hl dX3_goBackFrom_46 rfl rfl (by decide) rfl (fun ls hl => ?_)
          refine z_goto C 2 dX3_goBackFrom_49 (by decide) ?_
          exact ih _ _ h _ (lv_sub hl [2, 3, 0] rfl)
set_option maxRecDepth 20000 in
set_option maxHeartbeats 4000000 in
theorem m_X3_goBackFrom (F : Nat) (x1 : Int32) (u : St) (u' : St)  (h : f_X3_goBackFrom F x1 u = some u') : Mt yX3_goBackFrom cX3_goBackFrom 4 none 2 (fun ad => [.ref (ad 18), .int x1]) u (fun _ => none) u' := by
  refine Mt.of (by decide) (fun ad => Nat.le_of_ble_eq_true rfl) ?_
  intro p l e s m args below meth c D cA ad ls C hl
  have hl : lv_has ls 4 [(0, .ref (ad 18)), (1, .int x1)] := hl
  unfold f_X3_goBackFrom at h
  refine z_iconst C (0 : Int32) dX3_goBackFrom_0 (by decide) ?_
  refine z_istore_n C (i := 2) [(2, .int (0 : Int32)), (0, .ref (ad 18)), (1, .int x1)] hl dX3_goBackFrom_1 rfl (by decide) rfl (fun ls hl => ?_)
  obtain ⟨w18, hw19, h⟩ := bnd h
  refine zl_X3_goBackFrom_2 C F x1 (out := w18) (fun ls hl => ?_) F _ _ hw19 _ (lv_sub hl [1, 2, 0] rfl)
  obtain rfl := Option.some.inj h
  exact z_vret C dX3_goBackFrom_52
def b_X3_leadsThereFromAll_7 (F : Nat) (x1 : Int32) (rec : Int32 → St → Option (Int32 × St)) (x2 : Int32) (u : St) : Option (Int32 × St) := (Option.bind (f_X10_size F u) (fun w4 => (if w4.1 ≤ x2 then some (x2, w4.2) else (Option.bind (f_X10_stateAt F x2 w4.2) (fun w8 => (Option.bind (f_X0_askedIn F w8.1 w8.2) (fun w12 => (Option.bind (f_X11_isIn F w12.1 x1 w12.2) (fun w16 => (if w16.1 = 0 then rec ((x2 + (1 : Int32))) w16.2 else (Option.bind (f_X3_find F w8.1 w16.2) (fun u17 => rec ((x2 + (1 : Int32))) u17))))))))))))
def l_X3_leadsThereFromAll_7 (F : Nat) (x1 : Int32) : Nat → Int32 → St → Option (Int32 × St)
  | 0, _, _ => none
  | k + 1, x2, u => b_X3_leadsThereFromAll_7 F x1 (l_X3_leadsThereFromAll_7 F x1 k) x2 u
def b_X3_leadsThereFromAll_55 (F : Nat)  (rec : Int32 → St → Option (Int32 × St)) (x2 : Int32) (u : St) : Option (Int32 × St) := (if (u.1 18 4) ≤ x2 then some (x2, u) else (if (4096 : Int32) ≤ x2 then some (x2, u) else (if x2 < 0 ∨ 4096 ≤ x2.toNatClampNeg then none else (Option.bind (f_X3_goBackFrom F (u.1 20 x2.toNatClampNeg) u) (fun u24 => rec ((x2 + (1 : Int32))) u24)))))
def l_X3_leadsThereFromAll_55 (F : Nat)  : Nat → Int32 → St → Option (Int32 × St)
  | 0, _, _ => none
  | k + 1, x2, u => b_X3_leadsThereFromAll_55 F  (l_X3_leadsThereFromAll_55 F  k) x2 u
def b_X3_leadsThereFromAll_108 (F : Nat) (x2 : Int32) (rec : Int32 → St → Option (Int32 × St)) (x3 : Int32) (u : St) : Option (Int32 × St) := (if (u.1 18 4) ≤ x3 then some (x3, u) else (if x3 < 0 ∨ 4096 ≤ x3.toNatClampNeg then none else (if (u.1 20 x3.toNatClampNeg) < 0 ∨ 4096 ≤ (u.1 20 x3.toNatClampNeg).toNatClampNeg then none else rec ((x3 + (1 : Int32))) (wr u 19 (u.1 20 x3.toNatClampNeg).toNatClampNeg (vp_nar .boolean (0 : Int32))))))
def l_X3_leadsThereFromAll_108 (F : Nat) (x2 : Int32) : Nat → Int32 → St → Option (Int32 × St)
  | 0, _, _ => none
  | k + 1, x3, u => b_X3_leadsThereFromAll_108 F x2 (l_X3_leadsThereFromAll_108 F x2 k) x3 u
def f_X3_leadsThereFromAll (F : Nat) (x1 : Int32) (u : St) : Option (Int32 × St) := (Option.bind (l_X3_leadsThereFromAll_7 F x1 F (0 : Int32) (wr u 18 4 (0 : Int32))) (fun w21 => (Option.bind (l_X3_leadsThereFromAll_55 F  F (0 : Int32) w21.2) (fun w28 => (Option.bind (f_X10_size F w28.2) (fun w33 => (if (w28.2.1 18 4) = w33.1 then (Option.bind (l_X3_leadsThereFromAll_108 F (1 : Int32) F (0 : Int32) w33.2) (fun w39 => some ((1 : Int32), w39.2))) else (Option.bind (l_X3_leadsThereFromAll_108 F (0 : Int32) F (0 : Int32) w33.2) (fun w37 => some ((0 : Int32), w37.2))))))))))
set_option maxRecDepth 20000 in
set_option maxHeartbeats 4000000 in
theorem zl_X3_leadsThereFromAll_7 {p : Program} {l : Launch} {e : Env} {s : State} {m : MethodId} {args : Array Value} {below : List Frame} {meth : Method} {c : Code} {D : va_G} {cA : Nat → ClassId} {ad : Nat → Nat} {Q : State → Prop} (C : Cx SH p s m args meth c cX3_leadsThereFromAll 4 (some .boolean) RX3 D cA ad (inAd ad)) (F : Nat) (x1 : Int32)  {out : Int32 × St}  (K : ∀ ls : Array Slot, lv_has ls 4 [(0, .ref (ad 18)), (1, .int x1), (2, .int out.1)] → Z SH p l e (rmD 3) s m args below meth c D cA ad (inAd ad) 0 0 Q out.2 53 ls []) : ∀ (k : Nat) (x2 : Int32) (u : St), l_X3_leadsThereFromAll_7 F x1 k x2 u = some out → ∀ ls : Array Slot, lv_has ls 4 [(0, .ref (ad 18)), (1, .int x1), (2, .int x2)] → Z SH p l e (rmD 3) s m args below meth c D cA ad (inAd ad) 0 0 Q u 7 ls [] := by
  intro k
  induction k with
  | zero => intro x2 u h; cases h
  | succ k ih =>
    intro x2 u h ls hl
    replace h : b_X3_leadsThereFromAll_7 F x1 (l_X3_leadsThereFromAll_7 F x1 k) x2 u = some out := h
    unfold b_X3_leadsThereFromAll_7 at h
    refine z_iload_n C (i := 2) (k := 2) hl dX3_leadsThereFromAll_7 rfl rfl ?_
    refine z_aload_n C (i := 0) (k := 0) hl dX3_leadsThereFromAll_8 rfl rfl ?_
    refine z_getr C 18 1 11 fw_X3_23 sh_18 rfl dX3_leadsThereFromAll_9 ?_
    obtain ⟨⟨r3, u1⟩, hc2, h⟩ := bnd h
    try dsimp only at h
    refine z_callV C (ci := 10) [] [.int x2] [.int r3, .int x2] (m_X10_size F  _ _ _ hc2) cw_X10_size vw_X10_size ml_X3_45 sh_11 rfl rfl rfl rfl hl.1 (Nat.le_of_ble_eq_true rfl) ⟨Nat.le_of_ble_eq_true rfl, Nat.le_of_ble_eq_true rfl⟩ ⟨Nat.le_refl _, Nat.le_refl _⟩ rfl dX3_leadsThereFromAll_12 ?_
    refine z_icmp_ge C 53 dX3_leadsThereFromAll_15 (by decide) (fun hc20 => ?_) (fun hc20 => ?_)
    · replace h := (if_pos hc20).symm.trans h
      obtain rfl := Option.some.inj h
      exact K _ (lv_sub hl [0, 1, 2] rfl)
    · replace h := (if_neg hc20).symm.trans h
      refine z_aload_n C (i := 0) (k := 0) hl dX3_leadsThereFromAll_18 rfl rfl ?_
      refine z_getr C 18 1 11 fw_X3_23 sh_18 rfl dX3_leadsThereFromAll_19 ?_
      refine z_iload_n C (i := 2) (k := 2) hl dX3_leadsThereFromAll_22 rfl rfl ?_
      obtain ⟨⟨r7, u5⟩, hc6, h⟩ := bnd h
      try dsimp only at h
      refine z_callV C (ci := 10) [.int x2] [] [.int r7] (m_X10_stateAt F _ _ _ _ hc6) cw_X10_stateAt vw_X10_stateAt ml_X3_51 sh_11 rfl rfl rfl rfl hl.1 (Nat.le_of_ble_eq_true rfl) ⟨Nat.le_of_ble_eq_true rfl, Nat.le_of_ble_eq_true rfl⟩ ⟨Nat.le_refl _, Nat.le_refl _⟩ rfl dX3_leadsThereFromAll_23 ?_
      refine z_istore_n C (i := 3) [(3, .int r7), (0, .ref (ad 18)), (1, .int x1), (2, .int x2)] hl dX3_leadsThereFromAll_26 rfl (by decide) rfl (fun ls hl => ?_)
      refine z_aload_n C (i := 0) (k := 1) hl dX3_leadsThereFromAll_27 rfl rfl ?_
      refine z_getr C 18 0 4 fw_X3_19 sh_18 rfl dX3_leadsThereFromAll_28 ?_
      refine z_iload_n C (i := 3) (k := 0) hl dX3_leadsThereFromAll_31 rfl rfl ?_
      obtain ⟨⟨r11, u9⟩, hc10, h⟩ := bnd h
      try dsimp only at h
      refine z_callV C (ci := 0) [.int r7] [] [.int r11] (m_X0_askedIn F _ _ _ _ hc10) cw_X0_askedIn vw_X0_askedIn ml_X3_55 sh_4 rfl rfl rfl rfl hl.1 (Nat.le_of_ble_eq_true rfl) ⟨Nat.le_of_ble_eq_true rfl, Nat.le_of_ble_eq_true rfl⟩ ⟨Nat.le_refl _, Nat.le_refl _⟩ rfl dX3_leadsThereFromAll_32 ?_
      refine z_iload_n C (i := 1) (k := 2) hl dX3_leadsThereFromAll_35 rfl rfl ?_
      obtain ⟨⟨r15, u13⟩, hc14, h⟩ := bnd h
      try dsimp only at h
      refine z_callSN C [.int r11, .int x1] [] [.int r15] (m_X11_isIn F _ _ _ _ _ hc14) cw_X11_isIn sw_X11_isIn mn_X3_34 rfl rfl rfl hl.1 (Nat.le_of_ble_eq_true rfl) ⟨Nat.le_of_ble_eq_true rfl, Nat.le_of_ble_eq_true rfl⟩ ⟨Nat.le_refl _, Nat.le_refl _⟩ rfl dX3_leadsThereFromAll_36 ?_
      refine z_if_eq C 47 dX3_leadsThereFromAll_39 (by decide) (fun hc19 => ?_) (fun hc19 => ?_)
      · replace h := (if_pos hc19).symm.trans h
        refine z_iinc C (i := 2) (k := 3) (x2 + (1 : Int32)) [(2, .int (x2 + (1 : Int32))), (3, .int r7), (0, .ref (ad 18)), (1, .int x1)] hl dX3_leadsThereFromAll_47 rfl rfl (by decide) rfl (fun ls hl => ?_)
        refine z_goto C 7 dX3_leadsThereFromAll_50 (by decide) ?_
        exact ih _ _ h _ (lv_sub hl [2, 3, 0] rfl)
      · replace h := (if_neg hc19).symm.trans h
        refine z_aload_n C (i := 0) (k := 1) hl dX3_leadsThereFromAll_42 rfl rfl ?_
        refine z_iload_n C (i := 3) (k := 0) hl dX3_leadsThereFromAll_43 rfl rfl ?_
        obtain ⟨u17, hc18, h⟩ := bnd h
        refine z_callV C (ci := 3) [.int r7] [] [] (m_X3_find F _ _ _ hc18) cw_X3_find vw_X3_find ml_X3_60 sh_18 rfl rfl rfl rfl hl.1 (Nat.le_of_ble_eq_true rfl) ⟨Nat.le_of_ble_eq_true rfl, Nat.le_of_ble_eq_true rfl⟩ ⟨Nat.le_refl _, Nat.le_refl _⟩ rfl dX3_leadsThereFromAll_44 ?_
        refine z_iinc C (i := 2) (k := 3) (x2 + (1 : Int32)) [(2, .int (x2 + (1 : Int32))), (3, .int r7), (0, .ref (ad 18)), (1, .int x1)] hl dX3_leadsThereFromAll_47 rfl rfl (by decide) rfl (fun ls hl => ?_)
        refine z_goto C 7 dX3_leadsThereFromAll_50 (by decide) ?_
        exact ih _ _ h _ (lv_sub hl [2, 3, 0] rfl)
set_option maxRecDepth 20000 in
set_option maxHeartbeats 4000000 in
theorem zl_X3_leadsThereFromAll_55 {p : Program} {l : Launch} {e : Env} {s : State} {m : MethodId} {args : Array Value} {below : List Frame} {meth : Method} {c : Code} {D : va_G} {cA : Nat → ClassId} {ad : Nat → Nat} {Q : State → Prop} (C : Cx SH p s m args meth c cX3_leadsThereFromAll 4 (some .boolean) RX3 D cA ad (inAd ad)) (F : Nat)   {out : Int32 × St}  (K : ∀ ls : Array Slot, lv_has ls 4 [(0, .ref (ad 18)), (2, .int out.1)] → Z SH p l e (rmD 3) s m args below meth c D cA ad (inAd ad) 0 0 Q out.2 86 ls []) : ∀ (k : Nat) (x2 : Int32) (u : St), l_X3_leadsThereFromAll_55 F  k x2 u = some out → ∀ ls : Array Slot, lv_has ls 4 [(0, .ref (ad 18)), (2, .int x2)] → Z SH p l e (rmD 3) s m args below meth c D cA ad (inAd ad) 0 0 Q u 55 ls [] := by
  intro k
  induction k with
  | zero => intro x2 u h; cases h
  | succ k ih =>
    intro x2 u h ls hl
    replace h : b_X3_leadsThereFromAll_55 F  (l_X3_leadsThereFromAll_55 F  k) x2 u = some out := h
    unfold b_X3_leadsThereFromAll_55 at h
    refine z_iload_n C (i := 2) (k := 1) hl dX3_leadsThereFromAll_55 rfl rfl ?_
    refine z_aload_n C (i := 0) (k := 0) hl dX3_leadsThereFromAll_56 rfl rfl ?_
    refine z_geti C 18 4 fw_X3_42 sh_18 rfl dX3_leadsThereFromAll_57 ?_
    refine z_icmp_ge C 86 dX3_leadsThereFromAll_60 (by decide) (fun hc27 => ?_) (fun hc27 => ?_)
    · replace h := (if_pos hc27).symm.trans h
      obtain rfl := Option.some.inj h
      exact K _ (lv_sub hl [0, 1] rfl)
    · replace h := (if_neg hc27).symm.trans h
      refine z_iload_n C (i := 2) (k := 1) hl dX3_leadsThereFromAll_63 rfl rfl ?_
      refine z_sipush C (4096 : Int32) dX3_leadsThereFromAll_64 (by decide) ?_
      refine z_icmp_ge C 86 dX3_leadsThereFromAll_67 (by decide) (fun hc26 => ?_) (fun hc26 => ?_)
      · replace h := (if_pos hc26).symm.trans h
        obtain rfl := Option.some.inj h
        exact K _ (lv_sub hl [0, 1] rfl)
      · replace h := (if_neg hc26).symm.trans h
        refine z_aload_n C (i := 0) (k := 0) hl dX3_leadsThereFromAll_70 rfl rfl ?_
        refine z_aload_n C (i := 0) (k := 0) hl dX3_leadsThereFromAll_71 rfl rfl ?_
        refine z_getr C 18 3 20 fw_X3_15 sh_18 rfl dX3_leadsThereFromAll_72 ?_
        refine z_iload_n C (i := 2) (k := 1) hl dX3_leadsThereFromAll_75 rfl rfl ?_
        obtain ⟨hi23, h⟩ := gd h
        refine z_iald C 20 4096 sh_20 hi23 dX3_leadsThereFromAll_76 ?_
        obtain ⟨u24, hc25, h⟩ := bnd h
        refine z_callV C (ci := 3) [.int (u.1 20 x2.toNatClampNeg)] [] [] (m_X3_goBackFrom F _ _ _ hc25) cw_X3_goBackFrom vw_X3_goBackFrom ml_X3_64 sh_18 rfl rfl rfl rfl hl.1 (Nat.le_of_ble_eq_true rfl) ⟨Nat.le_of_ble_eq_true rfl, Nat.le_of_ble_eq_true rfl⟩ ⟨Nat.le_refl _, Nat.le_refl _⟩ rfl dX3_leadsThereFromAll_77 ?_
        refine z_iinc C (i := 2) (k := 1) (x2 + (1 : Int32)) [(2, .int (x2 + (1 : Int32))), (0, .ref (ad 18))] hl dX3_leadsThereFromAll_80 rfl rfl (by decide) rfl (fun ls hl => ?_)
        refine z_goto C 55 dX3_leadsThereFromAll_83 (by decide) ?_
        exact ih _ _ h _ (lv_sub hl [1, 0] rfl)
set_option maxRecDepth 20000 in
set_option maxHeartbeats 4000000 in
theorem zl_X3_leadsThereFromAll_108 {p : Program} {l : Launch} {e : Env} {s : State} {m : MethodId} {args : Array Value} {below : List Frame} {meth : Method} {c : Code} {D : va_G} {cA : Nat → ClassId} {ad : Nat → Nat} {Q : State → Prop} (C : Cx SH p s m args meth c cX3_leadsThereFromAll 4 (some .boolean) RX3 D cA ad (inAd ad)) (F : Nat) (x2 : Int32)  {out : Int32 × St}  (K : ∀ ls : Array Slot, lv_has ls 4 [(0, .ref (ad 18)), (2, .int x2), (3, .int out.1)] → Z SH p l e (rmD 3) s m args below meth c D cA ad (inAd ad) 0 0 Q out.2 134 ls []) : ∀ (k : Nat) (x3 : Int32) (u : St), l_X3_leadsThereFromAll_108 F x2 k x3 u = some out → ∀ ls : Array Slot, lv_has ls 4 [(0, .ref (ad 18)), (2, .int x2), (3, .int x3)] → Z SH p l e (rmD 3) s m args below meth c D cA ad (inAd ad) 0 0 Q u 108 ls [] := by
  intro k
  induction k with
  | zero => intro x3 u h; cases h
  | succ k ih =>
    intro x3 u h ls hl
    replace h : b_X3_leadsThereFromAll_108 F x2 (l_X3_leadsThereFromAll_108 F x2 k) x3 u = some out := h
    unfold b_X3_leadsThereFromAll_108 at h
    refine z_iload_n C (i := 3) (k := 2) hl dX3_leadsThereFromAll_108 rfl rfl ?_
    refine z_aload_n C (i := 0) (k := 0) hl dX3_leadsThereFromAll_109 rfl rfl ?_
    refine z_geti C 18 4 fw_X3_42 sh_18 rfl dX3_leadsThereFromAll_110 ?_
    refine z_icmp_ge C 134 dX3_leadsThereFromAll_113 (by decide) (fun hc36 => ?_) (fun hc36 => ?_)
    · replace h := (if_pos hc36).symm.trans h
      obtain rfl := Option.some.inj h
      exact K _ (lv_sub hl [0, 1, 2] rfl)
    · replace h := (if_neg hc36).symm.trans h
      refine z_aload_n C (i := 0) (k := 0) hl dX3_leadsThereFromAll_116 rfl rfl ?_
      refine z_getr C 18 2 19 fw_X3_9 sh_18 rfl dX3_leadsThereFromAll_117 ?_
      refine z_aload_n C (i := 0) (k := 0) hl dX3_leadsThereFromAll_120 rfl rfl ?_
      refine z_getr C 18 3 20 fw_X3_15 sh_18 rfl dX3_leadsThereFromAll_121 ?_
      refine z_iload_n C (i := 3) (k := 2) hl dX3_leadsThereFromAll_124 rfl rfl ?_
      obtain ⟨hi34, h⟩ := gd h
      refine z_iald C 20 4096 sh_20 hi34 dX3_leadsThereFromAll_125 ?_
      refine z_iconst C (0 : Int32) dX3_leadsThereFromAll_126 (by decide) ?_
      obtain ⟨hi35, h⟩ := gd h
      refine z_zast C 19 4096 sh_19 hi35 dX3_leadsThereFromAll_127 ?_
      refine z_iinc C (i := 3) (k := 2) (x3 + (1 : Int32)) [(3, .int (x3 + (1 : Int32))), (0, .ref (ad 18)), (2, .int x2)] hl dX3_leadsThereFromAll_128 rfl rfl (by decide) rfl (fun ls hl => ?_)
      refine z_goto C 108 dX3_leadsThereFromAll_131 (by decide) ?_
      exact ih _ _ h _ (lv_sub hl [1, 2, 0] rfl)
set_option maxRecDepth 20000 in
set_option maxHeartbeats 4000000 in
theorem m_X3_leadsThereFromAll (F : Nat) (x1 : Int32) (u : St) (r : Int32) (u' : St)  (h : f_X3_leadsThereFromAll F x1 u = some (r, u')) : Mt yX3_leadsThereFromAll cX3_leadsThereFromAll 4 (some .boolean) 3 (fun ad => [.ref (ad 18), .int x1]) u (fun _ => some (.int r)) u' := by
  refine Mt.of (by decide) (fun ad => Nat.le_of_ble_eq_true rfl) ?_
  intro p l e s m args below meth c D cA ad ls C hl
  have hl : lv_has ls 4 [(0, .ref (ad 18)), (1, .int x1)] := hl
  unfold f_X3_leadsThereFromAll at h
  refine z_aload_n C (i := 0) (k := 0) hl dX3_leadsThereFromAll_0 rfl rfl ?_
  refine z_iconst C (0 : Int32) dX3_leadsThereFromAll_1 (by decide) ?_
  refine z_puti C 18 4 pw_X3_42 sh_18 rfl dX3_leadsThereFromAll_2 ?_
  refine z_iconst C (0 : Int32) dX3_leadsThereFromAll_5 (by decide) ?_
  refine z_istore_n C (i := 2) [(2, .int (0 : Int32)), (0, .ref (ad 18)), (1, .int x1)] hl dX3_leadsThereFromAll_6 rfl (by decide) rfl (fun ls hl => ?_)
  obtain ⟨w21, hw22, h⟩ := bnd h
  refine zl_X3_leadsThereFromAll_7 C F x1 (out := w21) (fun ls hl => ?_) F _ _ hw22 _ (lv_sub hl [1, 2, 0] rfl)
  refine z_iconst C (0 : Int32) dX3_leadsThereFromAll_53 (by decide) ?_
  refine z_istore_n C (i := 2) [(2, .int (0 : Int32)), (0, .ref (ad 18)), (1, .int x1)] hl dX3_leadsThereFromAll_54 rfl (by decide) rfl (fun ls hl => ?_)
  obtain ⟨w28, hw29, h⟩ := bnd h
  refine zl_X3_leadsThereFromAll_55 C F (out := w28) (fun ls hl => ?_) F _ _ hw29 _ (lv_sub hl [1, 0] rfl)
  refine z_aload_n C (i := 0) (k := 0) hl dX3_leadsThereFromAll_86 rfl rfl ?_
  refine z_geti C 18 4 fw_X3_42 sh_18 rfl dX3_leadsThereFromAll_87 ?_
  refine z_aload_n C (i := 0) (k := 0) hl dX3_leadsThereFromAll_90 rfl rfl ?_
  refine z_getr C 18 1 11 fw_X3_23 sh_18 rfl dX3_leadsThereFromAll_91 ?_
  obtain ⟨⟨r32, u30⟩, hc31, h⟩ := bnd h
  try dsimp only at h
  refine z_callV C (ci := 10) [] [.int (w28.2.1 18 4)] [.int r32, .int (w28.2.1 18 4)] (m_X10_size F  _ _ _ hc31) cw_X10_size vw_X10_size ml_X3_45 sh_11 rfl rfl rfl rfl hl.1 (Nat.le_of_ble_eq_true rfl) ⟨Nat.le_of_ble_eq_true rfl, Nat.le_of_ble_eq_true rfl⟩ ⟨Nat.le_refl _, Nat.le_refl _⟩ rfl dX3_leadsThereFromAll_94 ?_
  refine z_icmp_ne C 104 dX3_leadsThereFromAll_97 (by decide) (fun hc41 => ?_) (fun hc41 => ?_)
  · replace h := (if_neg hc41).symm.trans h
    refine z_iconst C (0 : Int32) dX3_leadsThereFromAll_104 (by decide) ?_
    refine z_istore_n C (i := 2) [(2, .int (0 : Int32)), (0, .ref (ad 18))] hl dX3_leadsThereFromAll_105 rfl (by decide) rfl (fun ls hl => ?_)
    refine z_iconst C (0 : Int32) dX3_leadsThereFromAll_106 (by decide) ?_
    refine z_istore_n C (i := 3) [(3, .int (0 : Int32)), (2, .int (0 : Int32)), (0, .ref (ad 18))] hl dX3_leadsThereFromAll_107 rfl (by decide) rfl (fun ls hl => ?_)
    obtain ⟨w37, hw38, h⟩ := bnd h
    refine zl_X3_leadsThereFromAll_108 C F (0 : Int32) (out := w37) (fun ls hl => ?_) F _ _ hw38 _ (lv_sub hl [2, 1, 0] rfl)
    refine z_iload_n C (i := 2) (k := 1) hl dX3_leadsThereFromAll_134 rfl rfl ?_
    obtain ⟨rfl, rfl⟩ := r2 h
    exact z_zret (by decide) C dX3_leadsThereFromAll_135
  · replace h := (if_pos hc41).symm.trans h
    refine z_iconst C (1 : Int32) dX3_leadsThereFromAll_100 (by decide) ?_
    refine z_goto C 105 dX3_leadsThereFromAll_101 (by decide) ?_
    refine z_istore_n C (i := 2) [(2, .int (1 : Int32)), (0, .ref (ad 18))] hl dX3_leadsThereFromAll_105 rfl (by decide) rfl (fun ls hl => ?_)
    refine z_iconst C (0 : Int32) dX3_leadsThereFromAll_106 (by decide) ?_
    refine z_istore_n C (i := 3) [(3, .int (0 : Int32)), (2, .int (1 : Int32)), (0, .ref (ad 18))] hl dX3_leadsThereFromAll_107 rfl (by decide) rfl (fun ls hl => ?_)
    obtain ⟨w39, hw40, h⟩ := bnd h
    refine zl_X3_leadsThereFromAll_108 C F (1 : Int32) (out := w39) (fun ls hl => ?_) F _ _ hw40 _ (lv_sub hl [2, 1, 0] rfl)
    refine z_iload_n C (i := 2) (k := 1) hl dX3_leadsThereFromAll_134 rfl rfl ?_
    obtain ⟨rfl, rfl⟩ := r2 h
    exact z_zret (by decide) C dX3_leadsThereFromAll_135
