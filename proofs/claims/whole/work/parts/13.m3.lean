def b_X7_pastBlanks_2 (F : Nat)  (rec : Int32 → St → Option (Int32 × St)) (x2 : Int32) (u : St) : Option (Int32 × St) := (if x2 < 0 then some (x2, u) else (if (u.1 1 1) ≤ x2 then some (x2, u) else (if x2 < 0 ∨ 300 ≤ x2.toNatClampNeg then none else (if (u.1 2 x2.toNatClampNeg) = (32 : Int32) then rec ((x2 + (1 : Int32))) u else some (x2, u)))))
def l_X7_pastBlanks_2 (F : Nat)  : Nat → Int32 → St → Option (Int32 × St)
  | 0, _, _ => none
  | k + 1, x2, u => b_X7_pastBlanks_2 F  (l_X7_pastBlanks_2 F  k) x2 u
def f_X7_pastBlanks (F : Nat) (x1 : Int32) (u : St) : Option (Int32 × St) := (Option.bind (l_X7_pastBlanks_2 F  F x1 u) (fun w5 => some (w5.1, w5.2)))
set_option maxRecDepth 20000 in
set_option maxHeartbeats 4000000 in
theorem zl_X7_pastBlanks_2 {p : Program} {l : Launch} {e : Env} {s : State} {m : MethodId} {args : Array Value} {below : List Frame} {meth : Method} {c : Code} {D : va_G} {cA : Nat → ClassId} {ad : Nat → Nat} {Q : State → Prop} (C : Cx SH p s m args meth c cX7_pastBlanks 3 (some .int) RX7 D cA ad (inAd ad)) (F : Nat)   {out : Int32 × St}  (K : ∀ ls : Array Slot, lv_has ls 3 [(0, .ref (ad 1)), (2, .int out.1)] → Z SH p l e (rmD 0) s m args below meth c D cA ad (inAd ad) 0 0 Q out.2 31 ls []) : ∀ (k : Nat) (x2 : Int32) (u : St), l_X7_pastBlanks_2 F  k x2 u = some out → ∀ ls : Array Slot, lv_has ls 3 [(0, .ref (ad 1)), (2, .int x2)] → Z SH p l e (rmD 0) s m args below meth c D cA ad (inAd ad) 0 0 Q u 2 ls [] := by
  intro k
  induction k with
  | zero => intro x2 u h; cases h
  | succ k ih =>
    intro x2 u h ls hl
    replace h : b_X7_pastBlanks_2 F  (l_X7_pastBlanks_2 F  k) x2 u = some out := h
    unfold b_X7_pastBlanks_2 at h
    refine z_iload_n C (i := 2) (k := 1) hl dX7_pastBlanks_2 rfl rfl ?_
    refine z_if_lt C 31 dX7_pastBlanks_3 (by decide) (fun hc4 => ?_) (fun hc4 => ?_)
    · replace h := (if_pos hc4).symm.trans h
      obtain rfl := Option.some.inj h
      exact K _ (lv_sub hl [0, 1] rfl)
    · replace h := (if_neg hc4).symm.trans h
      refine z_iload_n C (i := 2) (k := 1) hl dX7_pastBlanks_6 rfl rfl ?_
      refine z_aload_n C (i := 0) (k := 0) hl dX7_pastBlanks_7 rfl rfl ?_
      refine z_geti C 1 1 fw_X7_15 sh_1 rfl dX7_pastBlanks_8 ?_
      refine z_icmp_ge C 31 dX7_pastBlanks_11 (by decide) (fun hc3 => ?_) (fun hc3 => ?_)
      · replace h := (if_pos hc3).symm.trans h
        obtain rfl := Option.some.inj h
        exact K _ (lv_sub hl [0, 1] rfl)
      · replace h := (if_neg hc3).symm.trans h
        refine z_aload_n C (i := 0) (k := 0) hl dX7_pastBlanks_14 rfl rfl ?_
        refine z_getr C 1 0 2 fw_X7_9 sh_1 rfl dX7_pastBlanks_15 ?_
        refine z_iload_n C (i := 2) (k := 1) hl dX7_pastBlanks_18 rfl rfl ?_
        obtain ⟨hi1, h⟩ := gd h
        refine z_iald C 2 300 sh_2 hi1 dX7_pastBlanks_19 ?_
        refine z_bipush C (32 : Int32) dX7_pastBlanks_20 (by decide) ?_
        refine z_icmp_ne C 31 dX7_pastBlanks_22 (by decide) (fun hc2 => ?_) (fun hc2 => ?_)
        · replace h := (if_neg hc2).symm.trans h
          obtain rfl := Option.some.inj h
          exact K _ (lv_sub hl [0, 1] rfl)
        · replace h := (if_pos hc2).symm.trans h
          refine z_iinc C (i := 2) (k := 1) (x2 + (1 : Int32)) [(2, .int (x2 + (1 : Int32))), (0, .ref (ad 1))] hl dX7_pastBlanks_25 rfl rfl (by decide) rfl (fun ls hl => ?_)
          refine z_goto C 2 dX7_pastBlanks_28 (by decide) ?_
          exact ih _ _ h _ (lv_sub hl [1, 0] rfl)
set_option maxRecDepth 20000 in
set_option maxHeartbeats 4000000 in
theorem m_X7_pastBlanks (F : Nat) (x1 : Int32) (u : St) (r : Int32) (u' : St)  (h : f_X7_pastBlanks F x1 u = some (r, u')) : Mt yX7_pastBlanks cX7_pastBlanks 3 (some .int) 0 (fun ad => [.ref (ad 1), .int x1]) u (fun _ => some (.int r)) u' := by
  refine Mt.of (by decide) (fun ad => Nat.le_of_ble_eq_true rfl) ?_
  intro p l e s m args below meth c D cA ad ls C hl
  have hl : lv_has ls 3 [(0, .ref (ad 1)), (1, .int x1)] := hl
  unfold f_X7_pastBlanks at h
  refine z_iload_n C (i := 1) (k := 1) hl dX7_pastBlanks_0 rfl rfl ?_
  refine z_istore_n C (i := 2) [(2, .int x1), (0, .ref (ad 1)), (1, .int x1)] hl dX7_pastBlanks_1 rfl (by decide) rfl (fun ls hl => ?_)
  obtain ⟨w5, hw6, h⟩ := bnd h
  refine zl_X7_pastBlanks_2 C F (out := w5) (fun ls hl => ?_) F _ _ hw6 _ (lv_sub hl [1, 0] rfl)
  refine z_iload_n C (i := 2) (k := 1) hl dX7_pastBlanks_31 rfl rfl ?_
  obtain ⟨rfl, rfl⟩ := r2 h
  exact z_iret C dX7_pastBlanks_32
def f_X6_step (F : Nat)  (u : St) : Option (St) := (Option.bind (f_X7_pastBlanks F ((u.1 3 1) + (1 : Int32)) u) (fun w4 => some (wr w4.2 3 1 w4.1)))
set_option maxRecDepth 20000 in
set_option maxHeartbeats 4000000 in
theorem m_X6_step (F : Nat)  (u : St) (u' : St)  (h : f_X6_step F  u = some u') : Mt yX6_step cX6_step 1 none 1 (fun ad => [.ref (ad 3)]) u (fun _ => none) u' := by
  refine Mt.of (by decide) (fun ad => Nat.le_of_ble_eq_true rfl) ?_
  intro p l e s m args below meth c D cA ad ls C hl
  have hl : lv_has ls 1 [(0, .ref (ad 3))] := hl
  unfold f_X6_step at h
  refine z_aload_n C (i := 0) (k := 0) hl dX6_step_0 rfl rfl ?_
  refine z_aload_n C (i := 0) (k := 0) hl dX6_step_1 rfl rfl ?_
  refine z_getr C 3 0 1 fw_X6_9 sh_3 rfl dX6_step_2 ?_
  refine z_aload_n C (i := 0) (k := 0) hl dX6_step_5 rfl rfl ?_
  refine z_geti C 3 1 fw_X6_26 sh_3 rfl dX6_step_6 ?_
  refine z_iconst C (1 : Int32) dX6_step_9 (by decide) ?_
  refine z_iadd C dX6_step_10 ?_
  obtain ⟨⟨r3, u1⟩, hc2, h⟩ := bnd h
  try dsimp only at h
  refine z_callV C (ci := 7) [.int ((u.1 3 1) + (1 : Int32))] [.ref (ad 3)] [.int r3, .ref (ad 3)] (m_X7_pastBlanks F _ _ _ _ hc2) cw_X7_pastBlanks vw_X7_pastBlanks ml_X6_20 sh_1 rfl rfl rfl rfl hl.1 (Nat.le_of_ble_eq_true rfl) ⟨Nat.le_of_ble_eq_true rfl, Nat.le_of_ble_eq_true rfl⟩ ⟨Nat.le_refl _, Nat.le_refl _⟩ rfl dX6_step_11 ?_
  refine z_puti C 3 1 pw_X6_26 sh_3 rfl dX6_step_14 ?_
  obtain rfl := Option.some.inj h
  exact z_vret C dX6_step_17
def b_X6_readTerm_22 (F : Nat) (x1 : Int32) (q2 : Nat) (rec : Int32 → Int32 → Int32 → Int32 → St → Option (Int32 × Int32 × Int32 × Int32 × St)) (x3 : Int32) (x4 : Int32) (x5 : Int32) (x6 : Int32) (u : St) : Option (Int32 × Int32 × Int32 × Int32 × St) := (if (8 : Int32) ≤ x6 then some (x3, x4, x5, x6, u) else (if x5 = (-1 : Int32) then some (x3, x4, x5, x6, u) else (Option.bind (f_X6_step F u) (fun u5 => (Option.bind (f_X6_isOn F (39 : Int32) u5) (fun w10 => (if w10.1 = 0 then (Option.bind (f_X6_signalHere F w10.2) (fun w14 => rec ((x3 ||| ((1 : Int32) <<< (x5 &&& 31)))) x4 w14.1 ((x6 + (1 : Int32))) w14.2)) else (Option.bind (f_X6_step F w10.2) (fun u15 => (Option.bind (f_X6_signalHere F u15) (fun w20 => rec x3 ((x4 ||| ((1 : Int32) <<< (x5 &&& 31)))) w20.1 ((x6 + (1 : Int32))) w20.2)))))))))))
def l_X6_readTerm_22 (F : Nat) (x1 : Int32) (q2 : Nat) : Nat → Int32 → Int32 → Int32 → Int32 → St → Option (Int32 × Int32 × Int32 × Int32 × St)
  | 0, _, _, _, _, _ => none
  | k + 1, x3, x4, x5, x6, u => b_X6_readTerm_22 F x1 q2 (l_X6_readTerm_22 F x1 q2 k) x3 x4 x5 x6 u
def f_X6_readTerm (F : Nat) (x1 : Int32) (q2 : Nat) (u : St) : Option (Int32 × St) := (Option.bind (f_X6_signalHere F u) (fun w4 => (if w4.1 = (-1 : Int32) then some ((0 : Int32), w4.2) else (Option.bind (l_X6_readTerm_22 F x1 q2 F (0 : Int32) (0 : Int32) w4.1 (0 : Int32) w4.2) (fun w24 => (Option.bind (f_X1_addTerm F q2 x1 w24.1 w24.2.1 w24.2.2.2.2) (fun u26 => (if w24.2.2.1 = (-1 : Int32) then some ((1 : Int32), u26) else some ((0 : Int32), u26)))))))))
set_option maxRecDepth 20000 in
set_option maxHeartbeats 4000000 in
theorem zl_X6_readTerm_22 {p : Program} {l : Launch} {e : Env} {s : State} {m : MethodId} {args : Array Value} {below : List Frame} {meth : Method} {c : Code} {D : va_G} {cA : Nat → ClassId} {ad : Nat → Nat} {Q : State → Prop} (C : Cx SH p s m args meth c cX6_readTerm 7 (some .boolean) RX6 D cA ad (inAd ad)) (F : Nat) (x1 : Int32) (q2 : Nat) (hQ2 : IsE q2) {out : Int32 × Int32 × Int32 × Int32 × St}  (K : ∀ ls : Array Slot, lv_has ls 7 [(0, .ref (ad 3)), (1, .int x1), (2, .ref (ad q2)), (3, .int out.1), (4, .int out.2.1), (5, .int out.2.2.1), (6, .int out.2.2.2.1)] → Z SH p l e (rmD 2) s m args below meth c D cA ad (inAd ad) 0 0 Q out.2.2.2.2 83 ls []) : ∀ (k : Nat) (x3 : Int32) (x4 : Int32) (x5 : Int32) (x6 : Int32) (u : St), l_X6_readTerm_22 F x1 q2 k x3 x4 x5 x6 u = some out → ∀ ls : Array Slot, lv_has ls 7 [(0, .ref (ad 3)), (1, .int x1), (2, .ref (ad q2)), (3, .int x3), (4, .int x4), (5, .int x5), (6, .int x6)] → Z SH p l e (rmD 2) s m args below meth c D cA ad (inAd ad) 0 0 Q u 22 ls [] := by
  intro k
  induction k with
  | zero => intro x3 x4 x5 x6 u h; cases h
  | succ k ih =>
    intro x3 x4 x5 x6 u h ls hl
    replace h : b_X6_readTerm_22 F x1 q2 (l_X6_readTerm_22 F x1 q2 k) x3 x4 x5 x6 u = some out := h
    unfold b_X6_readTerm_22 at h
    refine z_iload C (i := 6) (k := 6) hl dX6_readTerm_22 rfl ?_
    refine z_bipush C (8 : Int32) dX6_readTerm_24 (by decide) ?_
    refine z_icmp_ge C 83 dX6_readTerm_26 (by decide) (fun hc23 => ?_) (fun hc23 => ?_)
    · replace h := (if_pos hc23).symm.trans h
      obtain rfl := Option.some.inj h
      exact K _ (lv_sub hl [0, 1, 2, 3, 4, 5, 6] rfl)
    · replace h := (if_neg hc23).symm.trans h
      refine z_iload C (i := 5) (k := 5) hl dX6_readTerm_29 rfl ?_
      refine z_iconst C (-1 : Int32) dX6_readTerm_31 (by decide) ?_
      refine z_icmp_eq C 83 dX6_readTerm_32 (by decide) (fun hc22 => ?_) (fun hc22 => ?_)
      · replace h := (if_pos hc22).symm.trans h
        obtain rfl := Option.some.inj h
        exact K _ (lv_sub hl [0, 1, 2, 3, 4, 5, 6] rfl)
      · replace h := (if_neg hc22).symm.trans h
        refine z_aload_n C (i := 0) (k := 0) hl dX6_readTerm_35 rfl rfl ?_
        obtain ⟨u5, hc6, h⟩ := bnd h
        refine z_callV C (ci := 6) [] [] [] (m_X6_step F  _ _ hc6) cw_X6_step vw_X6_step ml_X6_42 sh_3 rfl rfl rfl rfl hl.1 (Nat.le_of_ble_eq_true rfl) ⟨Nat.le_of_ble_eq_true rfl, Nat.le_of_ble_eq_true rfl⟩ ⟨Nat.le_refl _, Nat.le_refl _⟩ rfl dX6_readTerm_36 ?_
        refine z_aload_n C (i := 0) (k := 0) hl dX6_readTerm_39 rfl rfl ?_
        refine z_bipush C (39 : Int32) dX6_readTerm_40 (by decide) ?_
        obtain ⟨⟨r9, u7⟩, hc8, h⟩ := bnd h
        try dsimp only at h
        refine z_callV C (ci := 6) [.int (39 : Int32)] [] [.int r9] (m_X6_isOn F _ _ _ _ hc8) cw_X6_isOn vw_X6_isOn ml_X6_38 sh_3 rfl rfl rfl rfl hl.1 (Nat.le_of_ble_eq_true rfl) ⟨Nat.le_of_ble_eq_true rfl, Nat.le_of_ble_eq_true rfl⟩ ⟨Nat.le_refl _, Nat.le_refl _⟩ rfl dX6_readTerm_42 ?_
        refine z_if_eq C 64 dX6_readTerm_45 (by decide) (fun hc21 => ?_) (fun hc21 => ?_)
        · replace h := (if_pos hc21).symm.trans h
          refine z_iload_n C (i := 3) (k := 3) hl dX6_readTerm_64 rfl rfl ?_
          refine z_iconst C (1 : Int32) dX6_readTerm_65 (by decide) ?_
          refine z_iload C (i := 5) (k := 5) hl dX6_readTerm_66 rfl ?_
          refine z_ishl C dX6_readTerm_68 ?_
          refine z_ior C dX6_readTerm_69 ?_
          refine z_istore_n C (i := 3) [(3, .int (x3 ||| ((1 : Int32) <<< (x5 &&& 31)))), (0, .ref (ad 3)), (1, .int x1), (2, .ref (ad q2)), (4, .int x4), (5, .int x5), (6, .int x6)] hl dX6_readTerm_70 rfl (by decide) rfl (fun ls hl => ?_)
          refine z_aload_n C (i := 0) (k := 1) hl dX6_readTerm_71 rfl rfl ?_
          obtain ⟨⟨r13, u11⟩, hc12, h⟩ := bnd h
          try dsimp only at h
          refine z_callV C (ci := 6) [] [] [.int r13] (m_X6_signalHere F  _ _ _ hc12) cw_X6_signalHere vw_X6_signalHere ml_X6_45 sh_3 rfl rfl rfl rfl hl.1 (Nat.le_of_ble_eq_true rfl) ⟨Nat.le_of_ble_eq_true rfl, Nat.le_of_ble_eq_true rfl⟩ ⟨Nat.le_refl _, Nat.le_refl _⟩ rfl dX6_readTerm_72 ?_
          refine z_istore C (i := 5) [(5, .int r13), (3, .int (x3 ||| ((1 : Int32) <<< (x5 &&& 31)))), (0, .ref (ad 3)), (1, .int x1), (2, .ref (ad q2)), (4, .int x4), (6, .int x6)] hl dX6_readTerm_75 (by decide) rfl (fun ls hl => ?_)
          refine z_iinc C (i := 6) (k := 6) (x6 + (1 : Int32)) [(6, .int (x6 + (1 : Int32))), (5, .int r13), (3, .int (x3 ||| ((1 : Int32) <<< (x5 &&& 31)))), (0, .ref (ad 3)), (1, .int x1), (2, .ref (ad q2)), (4, .int x4)] hl dX6_readTerm_77 rfl rfl (by decide) rfl (fun ls hl => ?_)
          refine z_goto C 22 dX6_readTerm_80 (by decide) ?_
          exact ih _ _ _ _ _ h _ (lv_sub hl [3, 4, 5, 2, 6, 1, 0] rfl)
        · replace h := (if_neg hc21).symm.trans h
          refine z_iload C (i := 4) (k := 4) hl dX6_readTerm_48 rfl ?_
          refine z_iconst C (1 : Int32) dX6_readTerm_50 (by decide) ?_
          refine z_iload C (i := 5) (k := 5) hl dX6_readTerm_51 rfl ?_
          refine z_ishl C dX6_readTerm_53 ?_
          refine z_ior C dX6_readTerm_54 ?_
          refine z_istore C (i := 4) [(4, .int (x4 ||| ((1 : Int32) <<< (x5 &&& 31)))), (0, .ref (ad 3)), (1, .int x1), (2, .ref (ad q2)), (3, .int x3), (5, .int x5), (6, .int x6)] hl dX6_readTerm_55 (by decide) rfl (fun ls hl => ?_)
          refine z_aload_n C (i := 0) (k := 1) hl dX6_readTerm_57 rfl rfl ?_
          obtain ⟨u15, hc16, h⟩ := bnd h
          refine z_callV C (ci := 6) [] [] [] (m_X6_step F  _ _ hc16) cw_X6_step vw_X6_step ml_X6_42 sh_3 rfl rfl rfl rfl hl.1 (Nat.le_of_ble_eq_true rfl) ⟨Nat.le_of_ble_eq_true rfl, Nat.le_of_ble_eq_true rfl⟩ ⟨Nat.le_refl _, Nat.le_refl _⟩ rfl dX6_readTerm_58 ?_
          refine z_goto C 71 dX6_readTerm_61 (by decide) ?_
          refine z_aload_n C (i := 0) (k := 1) hl dX6_readTerm_71 rfl rfl ?_
          obtain ⟨⟨r19, u17⟩, hc18, h⟩ := bnd h
          try dsimp only at h
          refine z_callV C (ci := 6) [] [] [.int r19] (m_X6_signalHere F  _ _ _ hc18) cw_X6_signalHere vw_X6_signalHere ml_X6_45 sh_3 rfl rfl rfl rfl hl.1 (Nat.le_of_ble_eq_true rfl) ⟨Nat.le_of_ble_eq_true rfl, Nat.le_of_ble_eq_true rfl⟩ ⟨Nat.le_refl _, Nat.le_refl _⟩ rfl dX6_readTerm_72 ?_
          refine z_istore C (i := 5) [(5, .int r19), (4, .int (x4 ||| ((1 : Int32) <<< (x5 &&& 31)))), (0, .ref (ad 3)), (1, .int x1), (2, .ref (ad q2)), (3, .int x3), (6, .int x6)] hl dX6_readTerm_75 (by decide) rfl (fun ls hl => ?_)
          refine z_iinc C (i := 6) (k := 6) (x6 + (1 : Int32)) [(6, .int (x6 + (1 : Int32))), (5, .int r19), (4, .int (x4 ||| ((1 : Int32) <<< (x5 &&& 31)))), (0, .ref (ad 3)), (1, .int x1), (2, .ref (ad q2)), (3, .int x3)] hl dX6_readTerm_77 rfl rfl (by decide) rfl (fun ls hl => ?_)
          refine z_goto C 22 dX6_readTerm_80 (by decide) ?_
          exact ih _ _ _ _ _ h _ (lv_sub hl [3, 4, 5, 6, 2, 1, 0] rfl)
set_option maxRecDepth 20000 in
set_option maxHeartbeats 4000000 in
theorem m_X6_readTerm (F : Nat) (x1 : Int32) (q2 : Nat) (u : St) (r : Int32) (u' : St) (hQ2 : IsE q2) (h : f_X6_readTerm F x1 q2 u = some (r, u')) : Mt yX6_readTerm cX6_readTerm 7 (some .boolean) 2 (fun ad => [.ref (ad 3), .int x1, .ref (ad q2)]) u (fun _ => some (.int r)) u' := by
  refine Mt.of (by decide) (fun ad => Nat.le_of_ble_eq_true rfl) ?_
  intro p l e s m args below meth c D cA ad ls C hl
  have hl : lv_has ls 7 [(0, .ref (ad 3)), (1, .int x1), (2, .ref (ad q2))] := hl
  unfold f_X6_readTerm at h
  refine z_iconst C (0 : Int32) dX6_readTerm_0 (by decide) ?_
  refine z_istore_n C (i := 3) [(3, .int (0 : Int32)), (0, .ref (ad 3)), (1, .int x1), (2, .ref (ad q2))] hl dX6_readTerm_1 rfl (by decide) rfl (fun ls hl => ?_)
  refine z_iconst C (0 : Int32) dX6_readTerm_2 (by decide) ?_
  refine z_istore C (i := 4) [(4, .int (0 : Int32)), (3, .int (0 : Int32)), (0, .ref (ad 3)), (1, .int x1), (2, .ref (ad q2))] hl dX6_readTerm_3 (by decide) rfl (fun ls hl => ?_)
  refine z_aload_n C (i := 0) (k := 2) hl dX6_readTerm_5 rfl rfl ?_
  obtain ⟨⟨r3, u1⟩, hc2, h⟩ := bnd h
  try dsimp only at h
  refine z_callV C (ci := 6) [] [] [.int r3] (m_X6_signalHere F  _ _ _ hc2) cw_X6_signalHere vw_X6_signalHere ml_X6_45 sh_3 rfl rfl rfl rfl hl.1 (Nat.le_of_ble_eq_true rfl) ⟨Nat.le_of_ble_eq_true rfl, Nat.le_of_ble_eq_true rfl⟩ ⟨Nat.le_refl _, Nat.le_refl _⟩ rfl dX6_readTerm_6 ?_
  refine z_istore C (i := 5) [(5, .int r3), (4, .int (0 : Int32)), (3, .int (0 : Int32)), (0, .ref (ad 3)), (1, .int x1), (2, .ref (ad q2))] hl dX6_readTerm_9 (by decide) rfl (fun ls hl => ?_)
  refine z_iload C (i := 5) (k := 0) hl dX6_readTerm_11 rfl ?_
  refine z_iconst C (-1 : Int32) dX6_readTerm_13 (by decide) ?_
  refine z_icmp_ne C 19 dX6_readTerm_14 (by decide) (fun hc29 => ?_) (fun hc29 => ?_)
  · replace h := (if_neg hc29).symm.trans h
    refine z_iconst C (0 : Int32) dX6_readTerm_19 (by decide) ?_
    refine z_istore C (i := 6) [(6, .int (0 : Int32)), (5, .int r3), (4, .int (0 : Int32)), (3, .int (0 : Int32)), (0, .ref (ad 3)), (1, .int x1), (2, .ref (ad q2))] hl dX6_readTerm_20 (by decide) rfl (fun ls hl => ?_)
    obtain ⟨w24, hw25, h⟩ := bnd h
    refine zl_X6_readTerm_22 C F x1 q2 hQ2 (out := w24) (fun ls hl => ?_) F _ _ _ _ _ hw25 _ (lv_sub hl [4, 5, 6, 3, 2, 1, 0] rfl)
    refine z_aload_n C (i := 2) (k := 2) hl dX6_readTerm_83 rfl rfl ?_
    refine z_iload_n C (i := 1) (k := 1) hl dX6_readTerm_84 rfl rfl ?_
    refine z_iload_n C (i := 3) (k := 3) hl dX6_readTerm_85 rfl rfl ?_
    refine z_iload C (i := 4) (k := 4) hl dX6_readTerm_86 rfl ?_
    obtain ⟨u26, hc27, h⟩ := bnd h
    refine z_callV C (ci := 1) [.int x1, .int w24.1, .int w24.2.1] [] [] (m_X1_addTerm F _ _ _ _ _ _ hQ2 hc27) cw_X1_addTerm vw_X1_addTerm ml_X6_68 (shE hQ2) rfl rfl rfl rfl hl.1 (Nat.le_of_ble_eq_true rfl) ⟨Nat.le_of_ble_eq_true rfl, Nat.le_of_ble_eq_true rfl⟩ ⟨Nat.le_refl _, Nat.le_refl _⟩ rfl dX6_readTerm_88 ?_
    refine z_iload C (i := 5) (k := 5) hl dX6_readTerm_91 rfl ?_
    refine z_iconst C (-1 : Int32) dX6_readTerm_93 (by decide) ?_
    refine z_icmp_ne C 101 dX6_readTerm_94 (by decide) (fun hc28 => ?_) (fun hc28 => ?_)
    · replace h := (if_neg hc28).symm.trans h
      refine z_iconst C (0 : Int32) dX6_readTerm_101 (by decide) ?_
      obtain ⟨rfl, rfl⟩ := r2 h
      exact z_zret (by decide) C dX6_readTerm_102
    · replace h := (if_pos hc28).symm.trans h
      refine z_iconst C (1 : Int32) dX6_readTerm_97 (by decide) ?_
      refine z_goto C 102 dX6_readTerm_98 (by decide) ?_
      obtain ⟨rfl, rfl⟩ := r2 h
      exact z_zret (by decide) C dX6_readTerm_102
  · replace h := (if_pos hc29).symm.trans h
    refine z_iconst C (0 : Int32) dX6_readTerm_17 (by decide) ?_
    obtain ⟨rfl, rfl⟩ := r2 h
    exact z_zret (by decide) C dX6_readTerm_18
def b_X6_readTerms_2 (F : Nat) (x1 : Int32) (q2 : Nat) (rec : Int32 → St → Option ((Int32 × St) ⊕ (Int32 × St))) (x3 : Int32) (u : St) : Option ((Int32 × St) ⊕ (Int32 × St)) := (if (12 : Int32) ≤ x3 then some (Sum.inr (x3, u)) else (Option.bind (f_X6_readTerm F x1 q2 u) (fun w4 => (if w4.1 = 0 then some (Sum.inl ((0 : Int32), w4.2)) else (Option.bind (f_X6_isOn F (43 : Int32) w4.2) (fun w8 => (if w8.1 = 0 then some (Sum.inl ((1 : Int32), w8.2)) else (Option.bind (f_X6_step F w8.2) (fun u9 => rec ((x3 + (1 : Int32))) u9)))))))))
def l_X6_readTerms_2 (F : Nat) (x1 : Int32) (q2 : Nat) : Nat → Int32 → St → Option ((Int32 × St) ⊕ (Int32 × St))
  | 0, _, _ => none
  | k + 1, x3, u => b_X6_readTerms_2 F x1 q2 (l_X6_readTerms_2 F x1 q2 k) x3 u
def f_X6_readTerms (F : Nat) (x1 : Int32) (q2 : Nat) (u : St) : Option (Int32 × St) := (Option.bind (l_X6_readTerms_2 F x1 q2 F (0 : Int32) u) (fun w14 => Sum.elim (fun r => some r) (fun v16 => some ((0 : Int32), v16.2)) w14))
set_option maxRecDepth 20000 in
set_option maxHeartbeats 4000000 in
theorem zl_X6_readTerms_2 {p : Program} {l : Launch} {e : Env} {s : State} {m : MethodId} {args : Array Value} {below : List Frame} {meth : Method} {c : Code} {D : va_G} {cA : Nat → ClassId} {ad : Nat → Nat} {Q : State → Prop} (C : Cx SH p s m args meth c cX6_readTerms 4 (some .boolean) RX6 D cA ad (inAd ad)) (F : Nat) (x1 : Int32) (q2 : Nat) (hQ2 : IsE q2) {out : (Int32 × St) ⊕ (Int32 × St)} (K1 : ∀ (r : Int32) (u' : St), out = .inl (r, u') → (r = 0 ∨ r = 1) → ∀ (pc : Nat) (ls : Array Slot), decode cX6_readTerms pc = .ok (.ireturn, 1) → Z SH p l e (rmD 3) s m args below meth c D cA ad (inAd ad) 0 0 Q u' pc ls [.int r]) (K : ∀ (v : Int32 × St), out = .inr v → ∀ ls : Array Slot, lv_has ls 4 [(0, .ref (ad 3)), (1, .int x1), (2, .ref (ad q2)), (3, .int v.1)] → Z SH p l e (rmD 3) s m args below meth c D cA ad (inAd ad) 0 0 Q v.2 40 ls []) : ∀ (k : Nat) (x3 : Int32) (u : St), l_X6_readTerms_2 F x1 q2 k x3 u = some out → ∀ ls : Array Slot, lv_has ls 4 [(0, .ref (ad 3)), (1, .int x1), (2, .ref (ad q2)), (3, .int x3)] → Z SH p l e (rmD 3) s m args below meth c D cA ad (inAd ad) 0 0 Q u 2 ls [] := by
  intro k
  induction k with
  | zero => intro x3 u h; cases h
  | succ k ih =>
    intro x3 u h ls hl
    replace h : b_X6_readTerms_2 F x1 q2 (l_X6_readTerms_2 F x1 q2 k) x3 u = some out := h
    unfold b_X6_readTerms_2 at h
    refine z_iload_n C (i := 3) (k := 3) hl dX6_readTerms_2 rfl rfl ?_
    refine z_bipush C (12 : Int32) dX6_readTerms_3 (by decide) ?_
    refine z_icmp_ge C 40 dX6_readTerms_5 (by decide) (fun hc13 => ?_) (fun hc13 => ?_)
    · replace h := (if_pos hc13).symm.trans h
      exact K _ (Option.some.inj h).symm _ (lv_sub hl [0, 1, 2, 3] rfl)
    · replace h := (if_neg hc13).symm.trans h
      refine z_aload_n C (i := 0) (k := 0) hl dX6_readTerms_8 rfl rfl ?_
      refine z_iload_n C (i := 1) (k := 1) hl dX6_readTerms_9 rfl rfl ?_
      refine z_aload_n C (i := 2) (k := 2) hl dX6_readTerms_10 rfl rfl ?_
      obtain ⟨⟨r3, u1⟩, hc2, h⟩ := bnd h
      try dsimp only at h
      refine z_callV C (ci := 6) [.int x1, .ref (ad q2)] [] [.int r3] (m_X6_readTerm F _ _ _ _ _ hQ2 hc2) cw_X6_readTerm vw_X6_readTerm ml_X6_65 sh_3 rfl rfl rfl rfl hl.1 (Nat.le_of_ble_eq_true rfl) ⟨Nat.le_of_ble_eq_true rfl, Nat.le_of_ble_eq_true rfl⟩ ⟨Nat.le_refl _, Nat.le_refl _⟩ rfl dX6_readTerms_11 ?_
      refine z_if_ne C 19 dX6_readTerms_14 (by decide) (fun hc12 => ?_) (fun hc12 => ?_)
      · replace h := (if_neg hc12).symm.trans h
        refine z_aload_n C (i := 0) (k := 0) hl dX6_readTerms_19 rfl rfl ?_
        refine z_bipush C (43 : Int32) dX6_readTerms_20 (by decide) ?_
        obtain ⟨⟨r7, u5⟩, hc6, h⟩ := bnd h
        try dsimp only at h
        refine z_callV C (ci := 6) [.int (43 : Int32)] [] [.int r7] (m_X6_isOn F _ _ _ _ hc6) cw_X6_isOn vw_X6_isOn ml_X6_38 sh_3 rfl rfl rfl rfl hl.1 (Nat.le_of_ble_eq_true rfl) ⟨Nat.le_of_ble_eq_true rfl, Nat.le_of_ble_eq_true rfl⟩ ⟨Nat.le_refl _, Nat.le_refl _⟩ rfl dX6_readTerms_22 ?_
        refine z_if_ne C 30 dX6_readTerms_25 (by decide) (fun hc11 => ?_) (fun hc11 => ?_)
        · replace h := (if_neg hc11).symm.trans h
          refine z_aload_n C (i := 0) (k := 0) hl dX6_readTerms_30 rfl rfl ?_
          obtain ⟨u9, hc10, h⟩ := bnd h
          refine z_callV C (ci := 6) [] [] [] (m_X6_step F  _ _ hc10) cw_X6_step vw_X6_step ml_X6_42 sh_3 rfl rfl rfl rfl hl.1 (Nat.le_of_ble_eq_true rfl) ⟨Nat.le_of_ble_eq_true rfl, Nat.le_of_ble_eq_true rfl⟩ ⟨Nat.le_refl _, Nat.le_refl _⟩ rfl dX6_readTerms_31 ?_
          refine z_iinc C (i := 3) (k := 3) (x3 + (1 : Int32)) [(3, .int (x3 + (1 : Int32))), (0, .ref (ad 3)), (1, .int x1), (2, .ref (ad q2))] hl dX6_readTerms_34 rfl rfl (by decide) rfl (fun ls hl => ?_)
          refine z_goto C 2 dX6_readTerms_37 (by decide) ?_
          exact ih _ _ h _ (lv_sub hl [1, 2, 3, 0] rfl)
        · replace h := (if_pos hc11).symm.trans h
          refine z_iconst C (1 : Int32) dX6_readTerms_28 (by decide) ?_
          exact K1 _ _ (Option.some.inj h).symm (by decide) _ _ dX6_readTerms_29
      · replace h := (if_pos hc12).symm.trans h
        refine z_iconst C (0 : Int32) dX6_readTerms_17 (by decide) ?_
        exact K1 _ _ (Option.some.inj h).symm (by decide) _ _ dX6_readTerms_18
set_option maxRecDepth 20000 in
set_option maxHeartbeats 4000000 in
theorem m_X6_readTerms (F : Nat) (x1 : Int32) (q2 : Nat) (u : St) (r : Int32) (u' : St) (hQ2 : IsE q2) (h : f_X6_readTerms F x1 q2 u = some (r, u')) : Mt yX6_readTerms cX6_readTerms 4 (some .boolean) 3 (fun ad => [.ref (ad 3), .int x1, .ref (ad q2)]) u (fun _ => some (.int r)) u' := by
  refine Mt.of (by decide) (fun ad => Nat.le_of_ble_eq_true rfl) ?_
  intro p l e s m args below meth c D cA ad ls C hl
  have hl : lv_has ls 4 [(0, .ref (ad 3)), (1, .int x1), (2, .ref (ad q2))] := hl
  unfold f_X6_readTerms at h
  refine z_iconst C (0 : Int32) dX6_readTerms_0 (by decide) ?_
  refine z_istore_n C (i := 3) [(3, .int (0 : Int32)), (0, .ref (ad 3)), (1, .int x1), (2, .ref (ad q2))] hl dX6_readTerms_1 rfl (by decide) rfl (fun ls hl => ?_)
  obtain ⟨w14, hw15, h⟩ := bnd h
  refine zl_X6_readTerms_2 C F x1 q2 hQ2 (out := w14) (fun r8 u8 e17 hz9 pc ls hd => ?_) (fun v16 e17 ls hl => ?_) F _ _ hw15 _ (lv_sub hl [1, 2, 3, 0] rfl)
  · subst e17
    obtain ⟨rfl, rfl⟩ := r2 h
    exact z_zret hz9 C hd
  · subst e17
    try dsimp only [Sum.elim] at h
    refine z_iconst C (0 : Int32) dX6_readTerms_40 (by decide) ?_
    obtain ⟨rfl, rfl⟩ := r2 h
    exact z_zret (by decide) C dX6_readTerms_41
def f_X6_readEquation (F : Nat) (q1 : Nat) (u : St) : Option (Int32 × St) := (Option.bind (f_X6_signalHere F u) (fun w4 => (if w4.1 = (-1 : Int32) then some ((0 : Int32), w4.2) else (Option.bind (f_X1_has F q1 w4.1 w4.2) (fun w8 => (if w8.1 = 0 then (Option.bind (f_X6_step F w8.2) (fun u9 => (Option.bind (f_X6_isOn F (61 : Int32) u9) (fun w14 => (if w14.1 = 0 then some ((0 : Int32), w14.2) else (Option.bind (f_X6_step F w14.2) (fun u15 => (Option.bind (f_X1_addEquation F q1 w4.1 u15) (fun u17 => (Option.bind (f_X6_isOn F (48 : Int32) u17) (fun w22 => (if w22.1 = 0 then (Option.bind (f_X6_isOn F (49 : Int32) w22.2) (fun w34 => (if w34.1 = 0 then (Option.bind (f_X6_readTerms F w4.1 q1 w34.2) (fun w38 => (if w38.1 = 0 ∨ w38.1 = 1 then some (w38.1, w38.2) else none))) else (Option.bind (f_X6_isOn F (49 : Int32) w34.2) (fun w43 => (Option.bind (f_X1_addConstant F q1 w4.1 w43.1 w43.2) (fun u44 => (Option.bind (f_X6_step F u44) (fun u46 => some ((1 : Int32), u46)))))))))) else (Option.bind (f_X6_isOn F (49 : Int32) w22.2) (fun w26 => (Option.bind (f_X1_addConstant F q1 w4.1 w26.1 w26.2) (fun u27 => (Option.bind (f_X6_step F u27) (fun u29 => some ((1 : Int32), u29))))))))))))))))))) else some ((0 : Int32), w8.2)))))))
set_option maxRecDepth 20000 in
set_option maxHeartbeats 4000000 in
theorem m_X6_readEquation (F : Nat) (q1 : Nat) (u : St) (r : Int32) (u' : St) (hQ1 : IsE q1) (h : f_X6_readEquation F q1 u = some (r, u')) : Mt yX6_readEquation cX6_readEquation 3 (some .boolean) 4 (fun ad => [.ref (ad 3), .ref (ad q1)]) u (fun _ => some (.int r)) u' := by
  refine Mt.of (by decide) (fun ad => Nat.le_of_ble_eq_true rfl) ?_
  intro p l e s m args below meth c D cA ad ls C hl
  have hl : lv_has ls 3 [(0, .ref (ad 3)), (1, .ref (ad q1))] := hl
  unfold f_X6_readEquation at h
  refine z_aload_n C (i := 0) (k := 0) hl dX6_readEquation_0 rfl rfl ?_
  obtain ⟨⟨r3, u1⟩, hc2, h⟩ := bnd h
  try dsimp only at h
  refine z_callV C (ci := 6) [] [] [.int r3] (m_X6_signalHere F  _ _ _ hc2) cw_X6_signalHere vw_X6_signalHere ml_X6_45 sh_3 rfl rfl rfl rfl hl.1 (Nat.le_of_ble_eq_true rfl) ⟨Nat.le_of_ble_eq_true rfl, Nat.le_of_ble_eq_true rfl⟩ ⟨Nat.le_refl _, Nat.le_refl _⟩ rfl dX6_readEquation_1 ?_
  refine z_istore_n C (i := 2) [(2, .int r3), (0, .ref (ad 3)), (1, .ref (ad q1))] hl dX6_readEquation_4 rfl (by decide) rfl (fun ls hl => ?_)
  refine z_iload_n C (i := 2) (k := 0) hl dX6_readEquation_5 rfl rfl ?_
  refine z_iconst C (-1 : Int32) dX6_readEquation_6 (by decide) ?_
  refine z_icmp_eq C 18 dX6_readEquation_7 (by decide) (fun hc52 => ?_) (fun hc52 => ?_)
  · replace h := (if_pos hc52).symm.trans h
    refine z_iconst C (0 : Int32) dX6_readEquation_18 (by decide) ?_
    obtain ⟨rfl, rfl⟩ := r2 h
    exact z_zret (by decide) C dX6_readEquation_19
  · replace h := (if_neg hc52).symm.trans h
    refine z_aload_n C (i := 1) (k := 2) hl dX6_readEquation_10 rfl rfl ?_
    refine z_iload_n C (i := 2) (k := 0) hl dX6_readEquation_11 rfl rfl ?_
    obtain ⟨⟨r7, u5⟩, hc6, h⟩ := bnd h
    try dsimp only at h
    refine z_callV C (ci := 1) [.int r3] [] [.int r7] (m_X1_has F _ _ _ _ _ hQ1 hc6) cw_X1_has vw_X1_has ml_X6_49 (shE hQ1) rfl rfl rfl rfl hl.1 (Nat.le_of_ble_eq_true rfl) ⟨Nat.le_of_ble_eq_true rfl, Nat.le_of_ble_eq_true rfl⟩ ⟨Nat.le_refl _, Nat.le_refl _⟩ rfl dX6_readEquation_12 ?_
    refine z_if_eq C 20 dX6_readEquation_15 (by decide) (fun hc51 => ?_) (fun hc51 => ?_)
    · replace h := (if_pos hc51).symm.trans h
      refine z_aload_n C (i := 0) (k := 1) hl dX6_readEquation_20 rfl rfl ?_
      obtain ⟨u9, hc10, h⟩ := bnd h
      refine z_callV C (ci := 6) [] [] [] (m_X6_step F  _ _ hc10) cw_X6_step vw_X6_step ml_X6_42 sh_3 rfl rfl rfl rfl hl.1 (Nat.le_of_ble_eq_true rfl) ⟨Nat.le_of_ble_eq_true rfl, Nat.le_of_ble_eq_true rfl⟩ ⟨Nat.le_refl _, Nat.le_refl _⟩ rfl dX6_readEquation_21 ?_
      refine z_aload_n C (i := 0) (k := 1) hl dX6_readEquation_24 rfl rfl ?_
      refine z_bipush C (61 : Int32) dX6_readEquation_25 (by decide) ?_
      obtain ⟨⟨r13, u11⟩, hc12, h⟩ := bnd h
      try dsimp only at h
      refine z_callV C (ci := 6) [.int (61 : Int32)] [] [.int r13] (m_X6_isOn F _ _ _ _ hc12) cw_X6_isOn vw_X6_isOn ml_X6_38 sh_3 rfl rfl rfl rfl hl.1 (Nat.le_of_ble_eq_true rfl) ⟨Nat.le_of_ble_eq_true rfl, Nat.le_of_ble_eq_true rfl⟩ ⟨Nat.le_refl _, Nat.le_refl _⟩ rfl dX6_readEquation_27 ?_
      refine z_if_ne C 35 dX6_readEquation_30 (by decide) (fun hc50 => ?_) (fun hc50 => ?_)
      · replace h := (if_neg hc50).symm.trans h
        refine z_aload_n C (i := 0) (k := 1) hl dX6_readEquation_35 rfl rfl ?_
        obtain ⟨u15, hc16, h⟩ := bnd h
        refine z_callV C (ci := 6) [] [] [] (m_X6_step F  _ _ hc16) cw_X6_step vw_X6_step ml_X6_42 sh_3 rfl rfl rfl rfl hl.1 (Nat.le_of_ble_eq_true rfl) ⟨Nat.le_of_ble_eq_true rfl, Nat.le_of_ble_eq_true rfl⟩ ⟨Nat.le_refl _, Nat.le_refl _⟩ rfl dX6_readEquation_36 ?_
        refine z_aload_n C (i := 1) (k := 2) hl dX6_readEquation_39 rfl rfl ?_
        refine z_iload_n C (i := 2) (k := 0) hl dX6_readEquation_40 rfl rfl ?_
        obtain ⟨u17, hc18, h⟩ := bnd h
        refine z_callV C (ci := 1) [.int r3] [] [] (m_X1_addEquation F _ _ _ _ hQ1 hc18) cw_X1_addEquation vw_X1_addEquation ml_X6_53 (shE hQ1) rfl rfl rfl rfl hl.1 (Nat.le_of_ble_eq_true rfl) ⟨Nat.le_of_ble_eq_true rfl, Nat.le_of_ble_eq_true rfl⟩ ⟨Nat.le_refl _, Nat.le_refl _⟩ rfl dX6_readEquation_41 ?_
        refine z_aload_n C (i := 0) (k := 1) hl dX6_readEquation_44 rfl rfl ?_
        refine z_bipush C (48 : Int32) dX6_readEquation_45 (by decide) ?_
        obtain ⟨⟨r21, u19⟩, hc20, h⟩ := bnd h
        try dsimp only at h
        refine z_callV C (ci := 6) [.int (48 : Int32)] [] [.int r21] (m_X6_isOn F _ _ _ _ hc20) cw_X6_isOn vw_X6_isOn ml_X6_38 sh_3 rfl rfl rfl rfl hl.1 (Nat.le_of_ble_eq_true rfl) ⟨Nat.le_of_ble_eq_true rfl, Nat.le_of_ble_eq_true rfl⟩ ⟨Nat.le_refl _, Nat.le_refl _⟩ rfl dX6_readEquation_47 ?_
        refine z_if_ne C 62 dX6_readEquation_50 (by decide) (fun hc49 => ?_) (fun hc49 => ?_)
        · replace h := (if_neg hc49).symm.trans h
          refine z_aload_n C (i := 1) (k := 2) hl dX6_readEquation_62 rfl rfl ?_
          refine z_iload_n C (i := 2) (k := 0) hl dX6_readEquation_63 rfl rfl ?_
          refine z_aload_n C (i := 0) (k := 1) hl dX6_readEquation_64 rfl rfl ?_
          refine z_bipush C (49 : Int32) dX6_readEquation_65 (by decide) ?_
          obtain ⟨⟨r25, u23⟩, hc24, h⟩ := bnd h
          try dsimp only at h
          refine z_callV C (ci := 6) [.int (49 : Int32)] [.int r3, .ref (ad q1)] [.int r25, .int r3, .ref (ad q1)] (m_X6_isOn F _ _ _ _ hc24) cw_X6_isOn vw_X6_isOn ml_X6_38 sh_3 rfl rfl rfl rfl hl.1 (Nat.le_of_ble_eq_true rfl) ⟨Nat.le_of_ble_eq_true rfl, Nat.le_of_ble_eq_true rfl⟩ ⟨Nat.le_refl _, Nat.le_refl _⟩ rfl dX6_readEquation_67 ?_
          obtain ⟨u27, hc28, h⟩ := bnd h
          refine z_callV C (ci := 1) [.int r3, .int r25] [] [] (m_X1_addConstant F _ _ _ _ _ hQ1 hc28) cw_X1_addConstant vw_X1_addConstant ml_X6_57 (shE hQ1) rfl rfl rfl rfl hl.1 (Nat.le_of_ble_eq_true rfl) ⟨Nat.le_of_ble_eq_true rfl, Nat.le_of_ble_eq_true rfl⟩ ⟨Nat.le_refl _, Nat.le_refl _⟩ rfl dX6_readEquation_70 ?_
          refine z_aload_n C (i := 0) (k := 1) hl dX6_readEquation_73 rfl rfl ?_
          obtain ⟨u29, hc30, h⟩ := bnd h
          refine z_callV C (ci := 6) [] [] [] (m_X6_step F  _ _ hc30) cw_X6_step vw_X6_step ml_X6_42 sh_3 rfl rfl rfl rfl hl.1 (Nat.le_of_ble_eq_true rfl) ⟨Nat.le_of_ble_eq_true rfl, Nat.le_of_ble_eq_true rfl⟩ ⟨Nat.le_refl _, Nat.le_refl _⟩ rfl dX6_readEquation_74 ?_
          refine z_iconst C (1 : Int32) dX6_readEquation_77 (by decide) ?_
          obtain ⟨rfl, rfl⟩ := r2 h
          exact z_zret (by decide) C dX6_readEquation_78
        · replace h := (if_pos hc49).symm.trans h
          refine z_aload_n C (i := 0) (k := 1) hl dX6_readEquation_53 rfl rfl ?_
          refine z_bipush C (49 : Int32) dX6_readEquation_54 (by decide) ?_
          obtain ⟨⟨r33, u31⟩, hc32, h⟩ := bnd h
          try dsimp only at h
          refine z_callV C (ci := 6) [.int (49 : Int32)] [] [.int r33] (m_X6_isOn F _ _ _ _ hc32) cw_X6_isOn vw_X6_isOn ml_X6_38 sh_3 rfl rfl rfl rfl hl.1 (Nat.le_of_ble_eq_true rfl) ⟨Nat.le_of_ble_eq_true rfl, Nat.le_of_ble_eq_true rfl⟩ ⟨Nat.le_refl _, Nat.le_refl _⟩ rfl dX6_readEquation_56 ?_
          refine z_if_eq C 79 dX6_readEquation_59 (by decide) (fun hc48 => ?_) (fun hc48 => ?_)
          · replace h := (if_pos hc48).symm.trans h
            refine z_aload_n C (i := 0) (k := 1) hl dX6_readEquation_79 rfl rfl ?_
            refine z_iload_n C (i := 2) (k := 0) hl dX6_readEquation_80 rfl rfl ?_
            refine z_aload_n C (i := 1) (k := 2) hl dX6_readEquation_81 rfl rfl ?_
            obtain ⟨⟨r37, u35⟩, hc36, h⟩ := bnd h
            try dsimp only at h
            refine z_callV C (ci := 6) [.int r3, .ref (ad q1)] [] [.int r37] (m_X6_readTerms F _ _ _ _ _ hQ1 hc36) cw_X6_readTerms vw_X6_readTerms ml_X6_61 sh_3 rfl rfl rfl rfl hl.1 (Nat.le_of_ble_eq_true rfl) ⟨Nat.le_of_ble_eq_true rfl, Nat.le_of_ble_eq_true rfl⟩ ⟨Nat.le_refl _, Nat.le_refl _⟩ rfl dX6_readEquation_82 ?_
            obtain ⟨hz39, h⟩ := gp h
            obtain ⟨rfl, rfl⟩ := r2 h
            exact z_zret hz39 C dX6_readEquation_85
          · replace h := (if_neg hc48).symm.trans h
            refine z_aload_n C (i := 1) (k := 2) hl dX6_readEquation_62 rfl rfl ?_
            refine z_iload_n C (i := 2) (k := 0) hl dX6_readEquation_63 rfl rfl ?_
            refine z_aload_n C (i := 0) (k := 1) hl dX6_readEquation_64 rfl rfl ?_
            refine z_bipush C (49 : Int32) dX6_readEquation_65 (by decide) ?_
            obtain ⟨⟨r42, u40⟩, hc41, h⟩ := bnd h
            try dsimp only at h
            refine z_callV C (ci := 6) [.int (49 : Int32)] [.int r3, .ref (ad q1)] [.int r42, .int r3, .ref (ad q1)] (m_X6_isOn F _ _ _ _ hc41) cw_X6_isOn vw_X6_isOn ml_X6_38 sh_3 rfl rfl rfl rfl hl.1 (Nat.le_of_ble_eq_true rfl) ⟨Nat.le_of_ble_eq_true rfl, Nat.le_of_ble_eq_true rfl⟩ ⟨Nat.le_refl _, Nat.le_refl _⟩ rfl dX6_readEquation_67 ?_
            obtain ⟨u44, hc45, h⟩ := bnd h
            refine z_callV C (ci := 1) [.int r3, .int r42] [] [] (m_X1_addConstant F _ _ _ _ _ hQ1 hc45) cw_X1_addConstant vw_X1_addConstant ml_X6_57 (shE hQ1) rfl rfl rfl rfl hl.1 (Nat.le_of_ble_eq_true rfl) ⟨Nat.le_of_ble_eq_true rfl, Nat.le_of_ble_eq_true rfl⟩ ⟨Nat.le_refl _, Nat.le_refl _⟩ rfl dX6_readEquation_70 ?_
            refine z_aload_n C (i := 0) (k := 1) hl dX6_readEquation_73 rfl rfl ?_
            obtain ⟨u46, hc47, h⟩ := bnd h
            refine z_callV C (ci := 6) [] [] [] (m_X6_step F  _ _ hc47) cw_X6_step vw_X6_step ml_X6_42 sh_3 rfl rfl rfl rfl hl.1 (Nat.le_of_ble_eq_true rfl) ⟨Nat.le_of_ble_eq_true rfl, Nat.le_of_ble_eq_true rfl⟩ ⟨Nat.le_refl _, Nat.le_refl _⟩ rfl dX6_readEquation_74 ?_
            refine z_iconst C (1 : Int32) dX6_readEquation_77 (by decide) ?_
            obtain ⟨rfl, rfl⟩ := r2 h
            exact z_zret (by decide) C dX6_readEquation_78
      · replace h := (if_pos hc50).symm.trans h
        refine z_iconst C (0 : Int32) dX6_readEquation_33 (by decide) ?_
        obtain ⟨rfl, rfl⟩ := r2 h
        exact z_zret (by decide) C dX6_readEquation_34
    · replace h := (if_neg hc51).symm.trans h
      refine z_iconst C (0 : Int32) dX6_readEquation_18 (by decide) ?_
      obtain ⟨rfl, rfl⟩ := r2 h
      exact z_zret (by decide) C dX6_readEquation_19
def b_X6_read_27 (F : Nat) (q1 : Nat) (rec : Int32 → St → Option ((Int32 × St) ⊕ (Int32 × St))) (x2 : Int32) (u : St) : Option ((Int32 × St) ⊕ (Int32 × St)) := (if (12 : Int32) ≤ x2 then some (Sum.inr (x2, u)) else (Option.bind (f_X6_readEquation F q1 u) (fun w14 => (if w14.1 = 0 then some (Sum.inl ((w14.2.1 3 1), w14.2)) else (Option.bind (f_X6_isAtEnd F w14.2) (fun w18 => (if w18.1 = 0 then (Option.bind (f_X6_isOn F (59 : Int32) w18.2) (fun w22 => (if w22.1 = 0 then some (Sum.inl ((w22.2.1 3 1), w22.2)) else (Option.bind (f_X6_step F w22.2) (fun u23 => rec ((x2 + (1 : Int32))) u23))))) else some (Sum.inl ((-1 : Int32), w18.2)))))))))
def l_X6_read_27 (F : Nat) (q1 : Nat) : Nat → Int32 → St → Option ((Int32 × St) ⊕ (Int32 × St))
  | 0, _, _ => none
  | k + 1, x2, u => b_X6_read_27 F q1 (l_X6_read_27 F q1 k) x2 u
def f_X6_read (F : Nat) (q1 : Nat) (u : St) : Option (Int32 × St) := (Option.bind (f_X1_removeAll F q1 u) (fun u1 => (Option.bind (f_X7_pastBlanks F (0 : Int32) u1) (fun w6 => (Option.bind (f_X6_isAtEnd F (wr w6.2 3 1 w6.1)) (fun w10 => (if w10.1 = 0 then (Option.bind (l_X6_read_27 F q1 F (0 : Int32) w10.2) (fun w29 => Sum.elim (fun r => some r) (fun v31 => some ((v31.2.1 3 1), v31.2)) w29)) else some ((-1 : Int32), w10.2))))))))
set_option maxRecDepth 20000 in
set_option maxHeartbeats 4000000 in
theorem zl_X6_read_27 {p : Program} {l : Launch} {e : Env} {s : State} {m : MethodId} {args : Array Value} {below : List Frame} {meth : Method} {c : Code} {D : va_G} {cA : Nat → ClassId} {ad : Nat → Nat} {Q : State → Prop} (C : Cx SH p s m args meth c cX6_read 3 (some .int) RX6 D cA ad (inAd ad)) (F : Nat) (q1 : Nat) (hQ1 : IsE q1) {out : (Int32 × St) ⊕ (Int32 × St)} (K1 : ∀ (r : Int32) (u' : St), out = .inl (r, u') → ∀ (pc : Nat) (ls : Array Slot), decode cX6_read pc = .ok (.ireturn, 1) → Z SH p l e (rmD 5) s m args below meth c D cA ad (inAd ad) 0 0 Q u' pc ls [.int r]) (K : ∀ (v : Int32 × St), out = .inr v → ∀ ls : Array Slot, lv_has ls 3 [(0, .ref (ad 3)), (1, .ref (ad q1)), (2, .int v.1)] → Z SH p l e (rmD 5) s m args below meth c D cA ad (inAd ad) 0 0 Q v.2 79 ls []) : ∀ (k : Nat) (x2 : Int32) (u : St), l_X6_read_27 F q1 k x2 u = some out → ∀ ls : Array Slot, lv_has ls 3 [(0, .ref (ad 3)), (1, .ref (ad q1)), (2, .int x2)] → Z SH p l e (rmD 5) s m args below meth c D cA ad (inAd ad) 0 0 Q u 27 ls [] := by
  intro k
  induction k with
  | zero => intro x2 u h; cases h
  | succ k ih =>
    intro x2 u h ls hl
    replace h : b_X6_read_27 F q1 (l_X6_read_27 F q1 k) x2 u = some out := h
    unfold b_X6_read_27 at h
    refine z_iload_n C (i := 2) (k := 2) hl dX6_read_27 rfl rfl ?_
    refine z_bipush C (12 : Int32) dX6_read_28 (by decide) ?_
    refine z_icmp_ge C 79 dX6_read_30 (by decide) (fun hc28 => ?_) (fun hc28 => ?_)
    · replace h := (if_pos hc28).symm.trans h
      exact K _ (Option.some.inj h).symm _ (lv_sub hl [0, 1, 2] rfl)
    · replace h := (if_neg hc28).symm.trans h
      refine z_aload_n C (i := 0) (k := 0) hl dX6_read_33 rfl rfl ?_
      refine z_aload_n C (i := 1) (k := 1) hl dX6_read_34 rfl rfl ?_
      obtain ⟨⟨r13, u11⟩, hc12, h⟩ := bnd h
      try dsimp only at h
      refine z_callV C (ci := 6) [.ref (ad q1)] [] [.int r13] (m_X6_readEquation F _ _ _ _ hQ1 hc12) cw_X6_readEquation vw_X6_readEquation ml_X6_34 sh_3 rfl rfl rfl rfl hl.1 (Nat.le_of_ble_eq_true rfl) ⟨Nat.le_of_ble_eq_true rfl, Nat.le_of_ble_eq_true rfl⟩ ⟨Nat.le_refl _, Nat.le_refl _⟩ rfl dX6_read_35 ?_
      refine z_if_ne C 46 dX6_read_38 (by decide) (fun hc27 => ?_) (fun hc27 => ?_)
      · replace h := (if_neg hc27).symm.trans h
        refine z_aload_n C (i := 0) (k := 0) hl dX6_read_46 rfl rfl ?_
        obtain ⟨⟨r17, u15⟩, hc16, h⟩ := bnd h
        try dsimp only at h
        refine z_callV C (ci := 6) [] [] [.int r17] (m_X6_isAtEnd F  _ _ _ hc16) cw_X6_isAtEnd vw_X6_isAtEnd ml_X6_30 sh_3 rfl rfl rfl rfl hl.1 (Nat.le_of_ble_eq_true rfl) ⟨Nat.le_of_ble_eq_true rfl, Nat.le_of_ble_eq_true rfl⟩ ⟨Nat.le_refl _, Nat.le_refl _⟩ rfl dX6_read_47 ?_
        refine z_if_eq C 55 dX6_read_50 (by decide) (fun hc26 => ?_) (fun hc26 => ?_)
        · replace h := (if_pos hc26).symm.trans h
          refine z_aload_n C (i := 0) (k := 0) hl dX6_read_55 rfl rfl ?_
          refine z_bipush C (59 : Int32) dX6_read_56 (by decide) ?_
          obtain ⟨⟨r21, u19⟩, hc20, h⟩ := bnd h
          try dsimp only at h
          refine z_callV C (ci := 6) [.int (59 : Int32)] [] [.int r21] (m_X6_isOn F _ _ _ _ hc20) cw_X6_isOn vw_X6_isOn ml_X6_38 sh_3 rfl rfl rfl rfl hl.1 (Nat.le_of_ble_eq_true rfl) ⟨Nat.le_of_ble_eq_true rfl, Nat.le_of_ble_eq_true rfl⟩ ⟨Nat.le_refl _, Nat.le_refl _⟩ rfl dX6_read_58 ?_
          refine z_if_ne C 69 dX6_read_61 (by decide) (fun hc25 => ?_) (fun hc25 => ?_)
          · replace h := (if_neg hc25).symm.trans h
            refine z_aload_n C (i := 0) (k := 0) hl dX6_read_69 rfl rfl ?_
            obtain ⟨u23, hc24, h⟩ := bnd h
            refine z_callV C (ci := 6) [] [] [] (m_X6_step F  _ _ hc24) cw_X6_step vw_X6_step ml_X6_42 sh_3 rfl rfl rfl rfl hl.1 (Nat.le_of_ble_eq_true rfl) ⟨Nat.le_of_ble_eq_true rfl, Nat.le_of_ble_eq_true rfl⟩ ⟨Nat.le_refl _, Nat.le_refl _⟩ rfl dX6_read_70 ?_
            refine z_iinc C (i := 2) (k := 2) (x2 + (1 : Int32)) [(2, .int (x2 + (1 : Int32))), (0, .ref (ad 3)), (1, .ref (ad q1))] hl dX6_read_73 rfl rfl (by decide) rfl (fun ls hl => ?_)
            refine z_goto C 27 dX6_read_76 (by decide) ?_
            exact ih _ _ h _ (lv_sub hl [1, 2, 0] rfl)
          · replace h := (if_pos hc25).symm.trans h
            refine z_aload_n C (i := 0) (k := 0) hl dX6_read_64 rfl rfl ?_
            refine z_geti C 3 1 fw_X6_26 sh_3 rfl dX6_read_65 ?_
            exact K1 _ _ (Option.some.inj h).symm _ _ dX6_read_68
        · replace h := (if_neg hc26).symm.trans h
          refine z_iconst C (-1 : Int32) dX6_read_53 (by decide) ?_
          exact K1 _ _ (Option.some.inj h).symm _ _ dX6_read_54
      · replace h := (if_pos hc27).symm.trans h
        refine z_aload_n C (i := 0) (k := 0) hl dX6_read_41 rfl rfl ?_
        refine z_geti C 3 1 fw_X6_26 sh_3 rfl dX6_read_42 ?_
        exact K1 _ _ (Option.some.inj h).symm _ _ dX6_read_45
set_option maxRecDepth 20000 in
set_option maxHeartbeats 4000000 in
theorem m_X6_read (F : Nat) (q1 : Nat) (u : St) (r : Int32) (u' : St) (hQ1 : IsE q1) (h : f_X6_read F q1 u = some (r, u')) : Mt yX6_read cX6_read 3 (some .int) 5 (fun ad => [.ref (ad 3), .ref (ad q1)]) u (fun _ => some (.int r)) u' := by
  refine Mt.of (by decide) (fun ad => Nat.le_of_ble_eq_true rfl) ?_
  intro p l e s m args below meth c D cA ad ls C hl
  have hl : lv_has ls 3 [(0, .ref (ad 3)), (1, .ref (ad q1))] := hl
  unfold f_X6_read at h
  refine z_aload_n C (i := 1) (k := 1) hl dX6_read_0 rfl rfl ?_
  obtain ⟨u1, hc2, h⟩ := bnd h
  refine z_callV C (ci := 1) [] [] [] (m_X1_removeAll F _ _ _ hQ1 hc2) cw_X1_removeAll vw_X1_removeAll ml_X6_15 (shE hQ1) rfl rfl rfl rfl hl.1 (Nat.le_of_ble_eq_true rfl) ⟨Nat.le_of_ble_eq_true rfl, Nat.le_of_ble_eq_true rfl⟩ ⟨Nat.le_refl _, Nat.le_refl _⟩ rfl dX6_read_1 ?_
  refine z_aload_n C (i := 0) (k := 0) hl dX6_read_4 rfl rfl ?_
  refine z_aload_n C (i := 0) (k := 0) hl dX6_read_5 rfl rfl ?_
  refine z_getr C 3 0 1 fw_X6_9 sh_3 rfl dX6_read_6 ?_
  refine z_iconst C (0 : Int32) dX6_read_9 (by decide) ?_
  obtain ⟨⟨r5, u3⟩, hc4, h⟩ := bnd h
  try dsimp only at h
  refine z_callV C (ci := 7) [.int (0 : Int32)] [.ref (ad 3)] [.int r5, .ref (ad 3)] (m_X7_pastBlanks F _ _ _ _ hc4) cw_X7_pastBlanks vw_X7_pastBlanks ml_X6_20 sh_1 rfl rfl rfl rfl hl.1 (Nat.le_of_ble_eq_true rfl) ⟨Nat.le_of_ble_eq_true rfl, Nat.le_of_ble_eq_true rfl⟩ ⟨Nat.le_refl _, Nat.le_refl _⟩ rfl dX6_read_10 ?_
  refine z_puti C 3 1 pw_X6_26 sh_3 rfl dX6_read_13 ?_
  refine z_aload_n C (i := 0) (k := 0) hl dX6_read_16 rfl rfl ?_
  obtain ⟨⟨r9, u7⟩, hc8, h⟩ := bnd h
  try dsimp only at h
  refine z_callV C (ci := 6) [] [] [.int r9] (m_X6_isAtEnd F  _ _ _ hc8) cw_X6_isAtEnd vw_X6_isAtEnd ml_X6_30 sh_3 rfl rfl rfl rfl hl.1 (Nat.le_of_ble_eq_true rfl) ⟨Nat.le_of_ble_eq_true rfl, Nat.le_of_ble_eq_true rfl⟩ ⟨Nat.le_refl _, Nat.le_refl _⟩ rfl dX6_read_17 ?_
  refine z_if_eq C 25 dX6_read_20 (by decide) (fun hc33 => ?_) (fun hc33 => ?_)
  · replace h := (if_pos hc33).symm.trans h
    refine z_iconst C (0 : Int32) dX6_read_25 (by decide) ?_
    refine z_istore_n C (i := 2) [(2, .int (0 : Int32)), (0, .ref (ad 3)), (1, .ref (ad q1))] hl dX6_read_26 rfl (by decide) rfl (fun ls hl => ?_)
    obtain ⟨w29, hw30, h⟩ := bnd h
    refine zl_X6_read_27 C F q1 hQ1 (out := w29) (fun r8 u8 e32 pc ls hd => ?_) (fun v31 e32 ls hl => ?_) F _ _ hw30 _ (lv_sub hl [1, 2, 0] rfl)
    · subst e32
      obtain ⟨rfl, rfl⟩ := r2 h
      exact z_iret C hd
    · subst e32
      try dsimp only [Sum.elim] at h
      refine z_aload_n C (i := 0) (k := 0) hl dX6_read_79 rfl rfl ?_
      refine z_geti C 3 1 fw_X6_26 sh_3 rfl dX6_read_80 ?_
      obtain ⟨rfl, rfl⟩ := r2 h
      exact z_iret C dX6_read_83
  · replace h := (if_neg hc33).symm.trans h
    refine z_iconst C (-1 : Int32) dX6_read_23 (by decide) ?_
    obtain ⟨rfl, rfl⟩ := r2 h
    exact z_iret C dX6_read_24
def f_X7_cut (F : Nat) (x1 : Int32) (u : St) : Option (St) := some (wr u 1 1 x1)
set_option maxRecDepth 20000 in
set_option maxHeartbeats 4000000 in
theorem m_X7_cut (F : Nat) (x1 : Int32) (u : St) (u' : St)  (h : f_X7_cut F x1 u = some u') : Mt yX7_cut cX7_cut 2 none 0 (fun ad => [.ref (ad 1), .int x1]) u (fun _ => none) u' := by
  refine Mt.of (by decide) (fun ad => Nat.le_of_ble_eq_true rfl) ?_
  intro p l e s m args below meth c D cA ad ls C hl
  have hl : lv_has ls 2 [(0, .ref (ad 1)), (1, .int x1)] := hl
  unfold f_X7_cut at h
  refine z_aload_n C (i := 0) (k := 0) hl dX7_cut_0 rfl rfl ?_
  refine z_iload_n C (i := 1) (k := 1) hl dX7_cut_1 rfl rfl ?_
  refine z_puti C 1 1 pw_X7_15 sh_1 rfl dX7_cut_2 ?_
  obtain rfl := Option.some.inj h
  exact z_vret C dX7_cut_5
def f_X11_circuit (F : Nat) (x1 : Int32) (u : St) : Option (Int32 × St) := (Option.bind (f_X11_isState F x1 u) (fun w4 => (if w4.1 = 0 then some ((0 : Int32), w4.2) else (if ((w4.2.1 0 10).toNatClampNeg) = 7 ∨ ((w4.2.1 0 10).toNatClampNeg) = 46 then (Option.bind (f_X6_read F ((w4.2.1 0 10).toNatClampNeg) w4.2) (fun w9 => (if w9.1 = (-1 : Int32) then (if ((w9.2.1 0 10).toNatClampNeg) = 7 ∨ ((w9.2.1 0 10).toNatClampNeg) = 46 then (Option.bind (f_X0_begin F ((w9.2.1 0 10).toNatClampNeg) x1 w9.2) (fun w14 => (if w14.1 = 7 ∨ w14.1 = 46 then (Option.bind (f_X7_cut F (0 : Int32) (wr w14.2 0 10 (nI w14.1))) (fun u16 => (Option.bind (f_X11_forgetWalk F u16) (fun u18 => some ((1 : Int32), u18))))) else none))) else none) else some ((0 : Int32), w9.2)))) else none))))
set_option maxRecDepth 20000 in
set_option maxHeartbeats 4000000 in
theorem m_X11_circuit (F : Nat) (x1 : Int32) (u : St) (r : Int32) (u' : St)  (h : f_X11_circuit F x1 u = some (r, u')) : Mt yX11_circuit cX11_circuit 2 (some .boolean) 6 (fun ad => [.ref (ad 0), .int x1]) u (fun _ => some (.int r)) u' := by
  refine Mt.of (by decide) (fun ad => Nat.le_of_ble_eq_true rfl) ?_
  intro p l e s m args below meth c D cA ad ls C hl
  have hl : lv_has ls 2 [(0, .ref (ad 0)), (1, .int x1)] := hl
  unfold f_X11_circuit at h
  refine z_iload_n C (i := 1) (k := 1) hl dX11_circuit_0 rfl rfl ?_
  obtain ⟨⟨r3, u1⟩, hc2, h⟩ := bnd h
  try dsimp only at h
  refine z_callS C [.int x1] [] [.int r3] (m_X11_isState F _ _ _ _ hc2) cw_X11_isState sw_X11_isState ml_X11_110 rfl rfl rfl hl.1 (Nat.le_of_ble_eq_true rfl) ⟨Nat.le_of_ble_eq_true rfl, Nat.le_of_ble_eq_true rfl⟩ ⟨Nat.le_refl _, Nat.le_refl _⟩ rfl dX11_circuit_1 ?_
  refine z_if_eq C 22 dX11_circuit_4 (by decide) (fun hc21 => ?_) (fun hc21 => ?_)
  · replace h := (if_pos hc21).symm.trans h
    refine z_iconst C (0 : Int32) dX11_circuit_22 (by decide) ?_
    obtain ⟨rfl, rfl⟩ := r2 h
    exact z_zret (by decide) C dX11_circuit_23
  · replace h := (if_neg hc21).symm.trans h
    refine z_aload_n C (i := 0) (k := 0) hl dX11_circuit_7 rfl rfl ?_
    refine z_getr C 0 1 3 fw_X11_21 sh_0 rfl dX11_circuit_8 ?_
    refine z_aload_n C (i := 0) (k := 0) hl dX11_circuit_11 rfl rfl ?_
    obtain ⟨hq5, h⟩ := gp h
    refine z_getd C 0 10 fw_X11_87 sh_0 rfl dX11_circuit_12 ?_
    obtain ⟨⟨r8, u6⟩, hc7, h⟩ := bnd h
    try dsimp only at h
    refine z_callV C (ci := 6) [.ref (ad ((u1.1 0 10).toNatClampNeg))] [] [.int r8] (m_X6_read F _ _ _ _ hq5 hc7) cw_X6_read vw_X6_read ml_X11_106 sh_3 rfl rfl rfl rfl hl.1 (Nat.le_of_ble_eq_true rfl) ⟨Nat.le_of_ble_eq_true rfl, Nat.le_of_ble_eq_true rfl⟩ ⟨Nat.le_refl _, Nat.le_refl _⟩ rfl dX11_circuit_15 ?_
    refine z_iconst C (-1 : Int32) dX11_circuit_18 (by decide) ?_
    refine z_icmp_eq C 24 dX11_circuit_19 (by decide) (fun hc20 => ?_) (fun hc20 => ?_)
    · replace h := (if_pos hc20).symm.trans h
      refine z_aload_n C (i := 0) (k := 0) hl dX11_circuit_24 rfl rfl ?_
      refine z_aload_n C (i := 0) (k := 0) hl dX11_circuit_25 rfl rfl ?_
      refine z_getr C 0 2 4 fw_X11_28 sh_0 rfl dX11_circuit_26 ?_
      refine z_aload_n C (i := 0) (k := 0) hl dX11_circuit_29 rfl rfl ?_
      obtain ⟨hq10, h⟩ := gp h
      refine z_getd C 0 10 fw_X11_87 sh_0 rfl dX11_circuit_30 ?_
      refine z_iload_n C (i := 1) (k := 1) hl dX11_circuit_33 rfl rfl ?_
      obtain ⟨⟨r13, u11⟩, hc12, h⟩ := bnd h
      try dsimp only at h
      refine z_callV C (ci := 0) [.ref (ad ((u6.1 0 10).toNatClampNeg)), .int x1] [.ref (ad 0)] [.ref (ad r13), .ref (ad 0)] (m_X0_begin F _ _ _ _ _ hq10 hc12) cw_X0_begin vw_X0_begin ml_X11_114 sh_4 rfl rfl rfl rfl hl.1 (Nat.le_of_ble_eq_true rfl) ⟨Nat.le_of_ble_eq_true rfl, Nat.le_of_ble_eq_true rfl⟩ ⟨Nat.le_refl _, Nat.le_refl _⟩ rfl dX11_circuit_34 ?_
      obtain ⟨hq15, h⟩ := gp h
      refine z_putd C 0 10 r13 (IsE.lt hq15) pw_X11_87 sh_0 rfl dX11_circuit_37 ?_
      refine z_aload_n C (i := 0) (k := 0) hl dX11_circuit_40 rfl rfl ?_
      refine z_getr C 0 0 1 fw_X11_12 sh_0 rfl dX11_circuit_41 ?_
      refine z_iconst C (0 : Int32) dX11_circuit_44 (by decide) ?_
      obtain ⟨u16, hc17, h⟩ := bnd h
      refine z_callV C (ci := 7) [.int (0 : Int32)] [] [] (m_X7_cut F _ _ _ hc17) cw_X7_cut vw_X7_cut ml_X11_103 sh_1 rfl rfl rfl rfl hl.1 (Nat.le_of_ble_eq_true rfl) ⟨Nat.le_of_ble_eq_true rfl, Nat.le_of_ble_eq_true rfl⟩ ⟨Nat.le_refl _, Nat.le_refl _⟩ rfl dX11_circuit_45 ?_
      refine z_aload_n C (i := 0) (k := 0) hl dX11_circuit_48 rfl rfl ?_
      obtain ⟨u18, hc19, h⟩ := bnd h
      refine z_callV C (ci := 11) [] [] [] (m_X11_forgetWalk F  _ _ hc19) cw_X11_forgetWalk vw_X11_forgetWalk ml_X11_118 sh_0 rfl rfl rfl rfl hl.1 (Nat.le_of_ble_eq_true rfl) ⟨Nat.le_of_ble_eq_true rfl, Nat.le_of_ble_eq_true rfl⟩ ⟨Nat.le_refl _, Nat.le_refl _⟩ rfl dX11_circuit_49 ?_
      refine z_iconst C (1 : Int32) dX11_circuit_52 (by decide) ?_
      obtain ⟨rfl, rfl⟩ := r2 h
      exact z_zret (by decide) C dX11_circuit_53
    · replace h := (if_neg hc20).symm.trans h
      refine z_iconst C (0 : Int32) dX11_circuit_22 (by decide) ?_
      obtain ⟨rfl, rfl⟩ := r2 h
      exact z_zret (by decide) C dX11_circuit_23
def f_X4_removeAll (F : Nat)  (u : St) : Option (St) := some (wr (wr u 22 4 (0 : Int32)) 22 5 (0 : Int32))
set_option maxRecDepth 20000 in
set_option maxHeartbeats 4000000 in
theorem m_X4_removeAll (F : Nat)  (u : St) (u' : St)  (h : f_X4_removeAll F  u = some u') : Mt yX4_removeAll cX4_removeAll 1 none 0 (fun ad => [.ref (ad 22)]) u (fun _ => none) u' := by
  refine Mt.of (by decide) (fun ad => Nat.le_of_ble_eq_true rfl) ?_
  intro p l e s m args below meth c D cA ad ls C hl
  have hl : lv_has ls 1 [(0, .ref (ad 22))] := hl
  unfold f_X4_removeAll at h
  refine z_aload_n C (i := 0) (k := 0) hl dX4_removeAll_0 rfl rfl ?_
  refine z_iconst C (0 : Int32) dX4_removeAll_1 (by decide) ?_
  refine z_puti C 22 4 pw_X4_24 sh_22 rfl dX4_removeAll_2 ?_
  refine z_aload_n C (i := 0) (k := 0) hl dX4_removeAll_5 rfl rfl ?_
  refine z_iconst C (0 : Int32) dX4_removeAll_6 (by decide) ?_
  refine z_puti C 22 5 pw_X4_28 sh_22 rfl dX4_removeAll_7 ?_
  obtain rfl := Option.some.inj h
  exact z_vret C dX4_removeAll_10
def f_X11_clear (F : Nat)  (u : St) : Option (St) := (Option.bind (f_X4_removeAll F u) (fun u1 => (Option.bind (f_X11_forgetRings F u1) (fun u3 => some u3))))
set_option maxRecDepth 20000 in
set_option maxHeartbeats 4000000 in
theorem m_X11_clear (F : Nat)  (u : St) (u' : St)  (h : f_X11_clear F  u = some u') : Mt yX11_clear cX11_clear 1 none 2 (fun ad => [.ref (ad 0)]) u (fun _ => none) u' := by
  refine Mt.of (by decide) (fun ad => Nat.le_of_ble_eq_true rfl) ?_
  intro p l e s m args below meth c D cA ad ls C hl
  have hl : lv_has ls 1 [(0, .ref (ad 0))] := hl
  unfold f_X11_clear at h
  refine z_aload_n C (i := 0) (k := 0) hl dX11_clear_0 rfl rfl ?_
  refine z_getr C 0 7 22 fw_X11_64 sh_0 rfl dX11_clear_1 ?_
  obtain ⟨u1, hc2, h⟩ := bnd h
  refine z_callV C (ci := 4) [] [] [] (m_X4_removeAll F  _ _ hc2) cw_X4_removeAll vw_X4_removeAll ml_X11_194 sh_22 rfl rfl rfl rfl hl.1 (Nat.le_of_ble_eq_true rfl) ⟨Nat.le_of_ble_eq_true rfl, Nat.le_of_ble_eq_true rfl⟩ ⟨Nat.le_refl _, Nat.le_refl _⟩ rfl dX11_clear_4 ?_
  refine z_aload_n C (i := 0) (k := 0) hl dX11_clear_7 rfl rfl ?_
  obtain ⟨u3, hc4, h⟩ := bnd h
  refine z_callV C (ci := 11) [] [] [] (m_X11_forgetRings F  _ _ hc4) cw_X11_forgetRings vw_X11_forgetRings ml_X11_184 sh_0 rfl rfl rfl rfl hl.1 (Nat.le_of_ble_eq_true rfl) ⟨Nat.le_of_ble_eq_true rfl, Nat.le_of_ble_eq_true rfl⟩ ⟨Nat.le_refl _, Nat.le_refl _⟩ rfl dX11_clear_8 ?_
  obtain rfl := Option.some.inj h
  exact z_vret C dX11_clear_11
def f_X0_equations (F : Nat)  (u : St) : Option (Int32 × St) := (if ((u.1 4 2).toNatClampNeg) = 7 ∨ ((u.1 4 2).toNatClampNeg) = 46 then (Option.bind (f_X1_signals F ((u.1 4 2).toNatClampNeg) u) (fun w5 => (Option.bind (f_J6_bitCount_0f7a4 F w5.1 w5.2) (fun w9 => some (w9.1, w9.2))))) else none)
set_option maxRecDepth 20000 in
set_option maxHeartbeats 4000000 in
theorem m_X0_equations (F : Nat)  (u : St) (r : Int32) (u' : St)  (h : f_X0_equations F  u = some (r, u')) : Mt yX0_equations cX0_equations 1 (some .int) 1 (fun ad => [.ref (ad 4)]) u (fun _ => some (.int r)) u' := by
  refine Mt.of (by decide) (fun ad => Nat.le_of_ble_eq_true rfl) ?_
  intro p l e s m args below meth c D cA ad ls C hl
  have hl : lv_has ls 1 [(0, .ref (ad 4))] := hl
  unfold f_X0_equations at h
  refine z_aload_n C (i := 0) (k := 0) hl dX0_equations_0 rfl rfl ?_
  obtain ⟨hq1, h⟩ := gp h
  refine z_getd C 4 2 fw_X0_21 sh_4 rfl dX0_equations_1 ?_
  obtain ⟨⟨r4, u2⟩, hc3, h⟩ := bnd h
  try dsimp only at h
  refine z_callV C (ci := 1) [] [] [.int r4] (m_X1_signals F _ _ _ _ hq1 hc3) cw_X1_signals vw_X1_signals ml_X0_38 (shE hq1) rfl rfl rfl rfl hl.1 (Nat.le_of_ble_eq_true rfl) ⟨Nat.le_of_ble_eq_true rfl, Nat.le_of_ble_eq_true rfl⟩ ⟨Nat.le_refl _, Nat.le_refl _⟩ rfl dX0_equations_4 ?_
  obtain ⟨⟨r8, u6⟩, hc7, h⟩ := bnd h
  try dsimp only at h
  refine z_callS C [.int r4] [] [.int r8] (m_J6_bitCount_0f7a4 F _ _ _ _ hc7) cw_J6_bitCount_0f7a4 sw_J6_bitCount_0f7a4 ml_X0_42 rfl rfl rfl hl.1 (Nat.le_of_ble_eq_true rfl) ⟨Nat.le_of_ble_eq_true rfl, Nat.le_of_ble_eq_true rfl⟩ ⟨Nat.le_refl _, Nat.le_refl _⟩ rfl dX0_equations_7 ?_
  obtain ⟨rfl, rfl⟩ := r2 h
  exact z_iret C dX0_equations_10
def f_X1_terms (F : Nat) (q0 : Nat) (u : St) : Option (Int32 × St) := some ((u.1 q0 3), u)
set_option maxRecDepth 20000 in
set_option maxHeartbeats 4000000 in
theorem m_X1_terms (F : Nat) (q0 : Nat) (u : St) (r : Int32) (u' : St) (hQ0 : IsE q0) (h : f_X1_terms F q0 u = some (r, u')) : Mt yX1_terms cX1_terms 1 (some .int) 0 (fun ad => [.ref (ad q0)]) u (fun _ => some (.int r)) u' := by
  refine Mt.of (by decide) (fun ad => Nat.le_of_ble_eq_true rfl) ?_
  intro p l e s m args below meth c D cA ad ls C hl
  have hl : lv_has ls 1 [(0, .ref (ad q0))] := hl
  unfold f_X1_terms at h
  refine z_aload_n C (i := 0) (k := 0) hl dX1_terms_0 rfl rfl ?_
  refine z_geti C q0 3 fw_X1_21 (shE hQ0) rfl dX1_terms_1 ?_
  obtain ⟨rfl, rfl⟩ := r2 h
  exact z_iret C dX1_terms_4
def f_X0_terms (F : Nat)  (u : St) : Option (Int32 × St) := (if ((u.1 4 2).toNatClampNeg) = 7 ∨ ((u.1 4 2).toNatClampNeg) = 46 then (Option.bind (f_X1_terms F ((u.1 4 2).toNatClampNeg) u) (fun w5 => some (w5.1, w5.2))) else none)
set_option maxRecDepth 20000 in
set_option maxHeartbeats 4000000 in
theorem m_X0_terms (F : Nat)  (u : St) (r : Int32) (u' : St)  (h : f_X0_terms F  u = some (r, u')) : Mt yX0_terms cX0_terms 1 (some .int) 1 (fun ad => [.ref (ad 4)]) u (fun _ => some (.int r)) u' := by
  refine Mt.of (by decide) (fun ad => Nat.le_of_ble_eq_true rfl) ?_
  intro p l e s m args below meth c D cA ad ls C hl
  have hl : lv_has ls 1 [(0, .ref (ad 4))] := hl
  unfold f_X0_terms at h
  refine z_aload_n C (i := 0) (k := 0) hl dX0_terms_0 rfl rfl ?_
  obtain ⟨hq1, h⟩ := gp h
  refine z_getd C 4 2 fw_X0_21 sh_4 rfl dX0_terms_1 ?_
  obtain ⟨⟨r4, u2⟩, hc3, h⟩ := bnd h
  try dsimp only at h
  refine z_callV C (ci := 1) [] [] [.int r4] (m_X1_terms F _ _ _ _ hq1 hc3) cw_X1_terms vw_X1_terms ml_X0_48 (shE hq1) rfl rfl rfl rfl hl.1 (Nat.le_of_ble_eq_true rfl) ⟨Nat.le_of_ble_eq_true rfl, Nat.le_of_ble_eq_true rfl⟩ ⟨Nat.le_refl _, Nat.le_refl _⟩ rfl dX0_terms_4 ?_
  obtain ⟨rfl, rfl⟩ := r2 h
  exact z_iret C dX0_terms_7
def f_X10_stops (F : Nat)  (u : St) : Option (Int32 × St) := some ((u.1 11 6), u)
set_option maxRecDepth 20000 in
set_option maxHeartbeats 4000000 in
theorem m_X10_stops (F : Nat)  (u : St) (r : Int32) (u' : St)  (h : f_X10_stops F  u = some (r, u')) : Mt yX10_stops cX10_stops 1 (some .int) 0 (fun ad => [.ref (ad 11)]) u (fun _ => some (.int r)) u' := by
  refine Mt.of (by decide) (fun ad => Nat.le_of_ble_eq_true rfl) ?_
  intro p l e s m args below meth c D cA ad ls C hl
  have hl : lv_has ls 1 [(0, .ref (ad 11))] := hl
  unfold f_X10_stops at h
  refine z_aload_n C (i := 0) (k := 0) hl dX10_stops_0 rfl rfl ?_
  refine z_geti C 11 6 fw_X10_42 sh_11 rfl dX10_stops_1 ?_
  obtain ⟨rfl, rfl⟩ := r2 h
  exact z_iret C dX10_stops_4
def f_X10_size (F : Nat)  (u : St) : Option (Int32 × St) := some ((u.1 11 5), u)
set_option maxRecDepth 20000 in
set_option maxHeartbeats 4000000 in
theorem m_X10_size (F : Nat)  (u : St) (r : Int32) (u' : St)  (h : f_X10_size F  u = some (r, u')) : Mt yX10_size cX10_size 1 (some .int) 0 (fun ad => [.ref (ad 11)]) u (fun _ => some (.int r)) u' := by
  refine Mt.of (by decide) (fun ad => Nat.le_of_ble_eq_true rfl) ?_
  intro p l e s m args below meth c D cA ad ls C hl
  have hl : lv_has ls 1 [(0, .ref (ad 11))] := hl
  unfold f_X10_size at h
  refine z_aload_n C (i := 0) (k := 0) hl dX10_size_0 rfl rfl ?_
  refine z_geti C 11 5 fw_X10_38 sh_11 rfl dX10_size_1 ?_
  obtain ⟨rfl, rfl⟩ := r2 h
  exact z_iret C dX10_size_4
def f_X10_stateAt (F : Nat) (x1 : Int32) (u : St) : Option (Int32 × St) := (if x1 < 0 then some ((-1 : Int32), u) else (if (u.1 11 5) ≤ x1 then some ((-1 : Int32), u) else (if x1 < 0 ∨ 4096 ≤ x1.toNatClampNeg then none else some ((u.1 12 x1.toNatClampNeg), u))))
set_option maxRecDepth 20000 in
set_option maxHeartbeats 4000000 in
theorem m_X10_stateAt (F : Nat) (x1 : Int32) (u : St) (r : Int32) (u' : St)  (h : f_X10_stateAt F x1 u = some (r, u')) : Mt yX10_stateAt cX10_stateAt 2 (some .int) 0 (fun ad => [.ref (ad 11), .int x1]) u (fun _ => some (.int r)) u' := by
  refine Mt.of (by decide) (fun ad => Nat.le_of_ble_eq_true rfl) ?_
  intro p l e s m args below meth c D cA ad ls C hl
  have hl : lv_has ls 2 [(0, .ref (ad 11)), (1, .int x1)] := hl
  unfold f_X10_stateAt at h
  refine z_iload_n C (i := 1) (k := 1) hl dX10_stateAt_0 rfl rfl ?_
  refine z_if_lt C 21 dX10_stateAt_1 (by decide) (fun hc3 => ?_) (fun hc3 => ?_)
  · replace h := (if_pos hc3).symm.trans h
    refine z_iconst C (-1 : Int32) dX10_stateAt_21 (by decide) ?_
    obtain ⟨rfl, rfl⟩ := r2 h
    exact z_iret C dX10_stateAt_22
  · replace h := (if_neg hc3).symm.trans h
    refine z_iload_n C (i := 1) (k := 1) hl dX10_stateAt_4 rfl rfl ?_
    refine z_aload_n C (i := 0) (k := 0) hl dX10_stateAt_5 rfl rfl ?_
    refine z_geti C 11 5 fw_X10_38 sh_11 rfl dX10_stateAt_6 ?_
    refine z_icmp_ge C 21 dX10_stateAt_9 (by decide) (fun hc2 => ?_) (fun hc2 => ?_)
    · replace h := (if_pos hc2).symm.trans h
      refine z_iconst C (-1 : Int32) dX10_stateAt_21 (by decide) ?_
      obtain ⟨rfl, rfl⟩ := r2 h
      exact z_iret C dX10_stateAt_22
    · replace h := (if_neg hc2).symm.trans h
      refine z_aload_n C (i := 0) (k := 0) hl dX10_stateAt_12 rfl rfl ?_
      refine z_getr C 11 1 12 fw_X10_9 sh_11 rfl dX10_stateAt_13 ?_
      refine z_iload_n C (i := 1) (k := 1) hl dX10_stateAt_16 rfl rfl ?_
      obtain ⟨hi1, h⟩ := gd h
      refine z_iald C 12 4096 sh_12 hi1 dX10_stateAt_17 ?_
      refine z_goto C 22 dX10_stateAt_18 (by decide) ?_
      obtain ⟨rfl, rfl⟩ := r2 h
      exact z_iret C dX10_stateAt_22
def f_X0_takenBackBy (F : Nat) (x1 : Int32) (x2 : Int32) (u : St) : Option (Int32 × St) := (Option.bind (f_X0_askedIn F x2 u) (fun w4 => (if x1 < 0 ∨ 12 ≤ x1.toNatClampNeg then none else (Option.bind (f_X0_askedIn F (x2 ^^^ ((1 : Int32) <<< (x1 &&& 31))) w4.2) (fun w9 => some ((((w4.1 &&& (((1 : Int32) <<< (x1 &&& 31)) ^^^ (-1 : Int32))) &&& ((w4.2.1 6 x1.toNatClampNeg) ^^^ (-1 : Int32))) &&& (w9.1 ^^^ (-1 : Int32))), w9.2))))))
set_option maxRecDepth 20000 in
set_option maxHeartbeats 4000000 in
theorem m_X0_takenBackBy (F : Nat) (x1 : Int32) (x2 : Int32) (u : St) (r : Int32) (u' : St)  (h : f_X0_takenBackBy F x1 x2 u = some (r, u')) : Mt yX0_takenBackBy cX0_takenBackBy 4 (some .int) 2 (fun ad => [.ref (ad 4), .int x1, .int x2]) u (fun _ => some (.int r)) u' := by
  refine Mt.of (by decide) (fun ad => Nat.le_of_ble_eq_true rfl) ?_
  intro p l e s m args below meth c D cA ad ls C hl
  have hl : lv_has ls 4 [(0, .ref (ad 4)), (1, .int x1), (2, .int x2)] := hl
  unfold f_X0_takenBackBy at h
  refine z_aload_n C (i := 0) (k := 0) hl dX0_takenBackBy_0 rfl rfl ?_
  refine z_iload_n C (i := 2) (k := 2) hl dX0_takenBackBy_1 rfl rfl ?_
  obtain ⟨⟨r3, u1⟩, hc2, h⟩ := bnd h
  try dsimp only at h
  refine z_callV C (ci := 0) [.int x2] [] [.int r3] (m_X0_askedIn F _ _ _ _ hc2) cw_X0_askedIn vw_X0_askedIn ml_X0_58 sh_4 rfl rfl rfl rfl hl.1 (Nat.le_of_ble_eq_true rfl) ⟨Nat.le_of_ble_eq_true rfl, Nat.le_of_ble_eq_true rfl⟩ ⟨Nat.le_refl _, Nat.le_refl _⟩ rfl dX0_takenBackBy_2 ?_
  refine z_iconst C (1 : Int32) dX0_takenBackBy_5 (by decide) ?_
  refine z_iload_n C (i := 1) (k := 1) hl dX0_takenBackBy_6 rfl rfl ?_
  refine z_ishl C dX0_takenBackBy_7 ?_
  refine z_iconst C (-1 : Int32) dX0_takenBackBy_8 (by decide) ?_
  refine z_ixor C dX0_takenBackBy_9 ?_
  refine z_iand C dX0_takenBackBy_10 ?_
  refine z_aload_n C (i := 0) (k := 0) hl dX0_takenBackBy_11 rfl rfl ?_
  refine z_getr C 4 1 6 fw_X0_15 sh_4 rfl dX0_takenBackBy_12 ?_
  refine z_iload_n C (i := 1) (k := 1) hl dX0_takenBackBy_15 rfl rfl ?_
  obtain ⟨hi5, h⟩ := gd h
  refine z_iald C 6 12 sh_6 hi5 dX0_takenBackBy_16 ?_
  refine z_iconst C (-1 : Int32) dX0_takenBackBy_17 (by decide) ?_
  refine z_ixor C dX0_takenBackBy_18 ?_
  refine z_iand C dX0_takenBackBy_19 ?_
  refine z_istore_n C (i := 3) [(3, .int ((r3 &&& (((1 : Int32) <<< (x1 &&& 31)) ^^^ (-1 : Int32))) &&& ((u1.1 6 x1.toNatClampNeg) ^^^ (-1 : Int32)))), (0, .ref (ad 4)), (1, .int x1), (2, .int x2)] hl dX0_takenBackBy_20 rfl (by decide) rfl (fun ls hl => ?_)
  refine z_iload_n C (i := 3) (k := 0) hl dX0_takenBackBy_21 rfl rfl ?_
  refine z_aload_n C (i := 0) (k := 1) hl dX0_takenBackBy_22 rfl rfl ?_
  refine z_iload_n C (i := 2) (k := 3) hl dX0_takenBackBy_23 rfl rfl ?_
  refine z_iconst C (1 : Int32) dX0_takenBackBy_24 (by decide) ?_
  refine z_iload_n C (i := 1) (k := 2) hl dX0_takenBackBy_25 rfl rfl ?_
  refine z_ishl C dX0_takenBackBy_26 ?_
  refine z_ixor C dX0_takenBackBy_27 ?_
  obtain ⟨⟨r8, u6⟩, hc7, h⟩ := bnd h
  try dsimp only at h
  refine z_callV C (ci := 0) [.int (x2 ^^^ ((1 : Int32) <<< (x1 &&& 31)))] [.int ((r3 &&& (((1 : Int32) <<< (x1 &&& 31)) ^^^ (-1 : Int32))) &&& ((u1.1 6 x1.toNatClampNeg) ^^^ (-1 : Int32)))] [.int r8, .int ((r3 &&& (((1 : Int32) <<< (x1 &&& 31)) ^^^ (-1 : Int32))) &&& ((u1.1 6 x1.toNatClampNeg) ^^^ (-1 : Int32)))] (m_X0_askedIn F _ _ _ _ hc7) cw_X0_askedIn vw_X0_askedIn ml_X0_58 sh_4 rfl rfl rfl rfl hl.1 (Nat.le_of_ble_eq_true rfl) ⟨Nat.le_of_ble_eq_true rfl, Nat.le_of_ble_eq_true rfl⟩ ⟨Nat.le_refl _, Nat.le_refl _⟩ rfl dX0_takenBackBy_28 ?_
  refine z_iconst C (-1 : Int32) dX0_takenBackBy_31 (by decide) ?_
  refine z_ixor C dX0_takenBackBy_32 ?_
  refine z_iand C dX0_takenBackBy_33 ?_
  obtain ⟨rfl, rfl⟩ := r2 h
  exact z_iret C dX0_takenBackBy_34
