def b_X2_hazardsIn_14 (F : Nat) (x1 : Int32) (x2 : Int32) (rec : Int32 → Int32 → St → Option (Int32 × Int32 × St)) (x3 : Int32) (x4 : Int32) (u : St) : Option (Int32 × Int32 × St) := (if (12 : Int32) ≤ x4 then some (x3, x4, u) else (Option.bind (f_X11_isIn F x2 x4 u) (fun w8 => (if w8.1 = 0 then rec x3 ((x4 + (1 : Int32))) w8.2 else (Option.bind (f_X0_takenBackBy F x4 x1 w8.2) (fun w12 => (Option.bind (f_J6_bitCount_0f7a4 F w12.1 w12.2) (fun w16 => rec ((x3 + w16.1)) ((x4 + (1 : Int32))) w16.2))))))))
def l_X2_hazardsIn_14 (F : Nat) (x1 : Int32) (x2 : Int32) : Nat → Int32 → Int32 → St → Option (Int32 × Int32 × St)
  | 0, _, _, _ => none
  | k + 1, x3, x4, u => b_X2_hazardsIn_14 F x1 x2 (l_X2_hazardsIn_14 F x1 x2 k) x3 x4 u
def f_X2_hazardsIn (F : Nat) (x1 : Int32) (u : St) : Option (Int32 × St) := (Option.bind (f_X0_askedIn F x1 u) (fun w4 => (Option.bind (l_X2_hazardsIn_14 F x1 w4.1 F (0 : Int32) (0 : Int32) w4.2) (fun w19 => some (w19.1, w19.2.2)))))
set_option maxRecDepth 20000 in
set_option maxHeartbeats 4000000 in
theorem zl_X2_hazardsIn_14 {p : Program} {l : Launch} {e : Env} {s : State} {m : MethodId} {args : Array Value} {below : List Frame} {meth : Method} {c : Code} {D : va_G} {cA : Nat → ClassId} {ad : Nat → Nat} {Q : State → Prop} (C : Cx SH p s m args meth c cX2_hazardsIn 5 (some .int) RX2 D cA ad (inAd ad)) (F : Nat) (x1 : Int32) (x2 : Int32)  {out : Int32 × Int32 × St}  (K : ∀ ls : Array Slot, lv_has ls 5 [(0, .ref (ad 16)), (1, .int x1), (2, .int x2), (3, .int out.1), (4, .int out.2.1)] → Z SH p l e (rmD 3) s m args below meth c D cA ad (inAd ad) 0 0 Q out.2.2 52 ls []) : ∀ (k : Nat) (x3 : Int32) (x4 : Int32) (u : St), l_X2_hazardsIn_14 F x1 x2 k x3 x4 u = some out → ∀ ls : Array Slot, lv_has ls 5 [(0, .ref (ad 16)), (1, .int x1), (2, .int x2), (3, .int x3), (4, .int x4)] → Z SH p l e (rmD 3) s m args below meth c D cA ad (inAd ad) 0 0 Q u 14 ls [] := by
  intro k
  induction k with
  | zero => intro x3 x4 u h; cases h
  | succ k ih =>
    intro x3 x4 u h ls hl
    replace h : b_X2_hazardsIn_14 F x1 x2 (l_X2_hazardsIn_14 F x1 x2 k) x3 x4 u = some out := h
    unfold b_X2_hazardsIn_14 at h
    refine z_iload C (i := 4) (k := 4) hl dX2_hazardsIn_14 rfl ?_
    refine z_bipush C (12 : Int32) dX2_hazardsIn_16 (by decide) ?_
    refine z_icmp_ge C 52 dX2_hazardsIn_18 (by decide) (fun hc18 => ?_) (fun hc18 => ?_)
    · replace h := (if_pos hc18).symm.trans h
      obtain rfl := Option.some.inj h
      exact K _ (lv_sub hl [0, 1, 2, 3, 4] rfl)
    · replace h := (if_neg hc18).symm.trans h
      refine z_iload_n C (i := 2) (k := 2) hl dX2_hazardsIn_21 rfl rfl ?_
      refine z_iload C (i := 4) (k := 4) hl dX2_hazardsIn_22 rfl ?_
      obtain ⟨⟨r7, u5⟩, hc6, h⟩ := bnd h
      try dsimp only at h
      refine z_callSN C [.int x2, .int x4] [] [.int r7] (m_X11_isIn F _ _ _ _ _ hc6) cw_X11_isIn sw_X11_isIn mn_X2_48 rfl rfl rfl hl.1 (Nat.le_of_ble_eq_true rfl) ⟨Nat.le_of_ble_eq_true rfl, Nat.le_of_ble_eq_true rfl⟩ ⟨Nat.le_refl _, Nat.le_refl _⟩ rfl dX2_hazardsIn_24 ?_
      refine z_if_eq C 46 dX2_hazardsIn_27 (by decide) (fun hc17 => ?_) (fun hc17 => ?_)
      · replace h := (if_pos hc17).symm.trans h
        refine z_iinc C (i := 4) (k := 4) (x4 + (1 : Int32)) [(4, .int (x4 + (1 : Int32))), (0, .ref (ad 16)), (1, .int x1), (2, .int x2), (3, .int x3)] hl dX2_hazardsIn_46 rfl rfl (by decide) rfl (fun ls hl => ?_)
        refine z_goto C 14 dX2_hazardsIn_49 (by decide) ?_
        exact ih _ _ _ h _ (lv_sub hl [1, 2, 3, 4, 0] rfl)
      · replace h := (if_neg hc17).symm.trans h
        refine z_iload_n C (i := 3) (k := 3) hl dX2_hazardsIn_30 rfl rfl ?_
        refine z_aload_n C (i := 0) (k := 0) hl dX2_hazardsIn_31 rfl rfl ?_
        refine z_getr C 16 0 4 fw_X2_15 sh_16 rfl dX2_hazardsIn_32 ?_
        refine z_iload C (i := 4) (k := 4) hl dX2_hazardsIn_35 rfl ?_
        refine z_iload_n C (i := 1) (k := 1) hl dX2_hazardsIn_37 rfl rfl ?_
        obtain ⟨⟨r11, u9⟩, hc10, h⟩ := bnd h
        try dsimp only at h
        refine z_callV C (ci := 0) [.int x4, .int x1] [.int x3] [.int r11, .int x3] (m_X0_takenBackBy F _ _ _ _ _ hc10) cw_X0_takenBackBy vw_X0_takenBackBy ml_X2_52 sh_4 rfl rfl rfl rfl hl.1 (Nat.le_of_ble_eq_true rfl) ⟨Nat.le_of_ble_eq_true rfl, Nat.le_of_ble_eq_true rfl⟩ ⟨Nat.le_refl _, Nat.le_refl _⟩ rfl dX2_hazardsIn_38 ?_
        obtain ⟨⟨r15, u13⟩, hc14, h⟩ := bnd h
        try dsimp only at h
        refine z_callS C [.int r11] [.int x3] [.int r15, .int x3] (m_J6_bitCount_0f7a4 F _ _ _ _ hc14) cw_J6_bitCount_0f7a4 sw_J6_bitCount_0f7a4 ml_X2_56 rfl rfl rfl hl.1 (Nat.le_of_ble_eq_true rfl) ⟨Nat.le_of_ble_eq_true rfl, Nat.le_of_ble_eq_true rfl⟩ ⟨Nat.le_refl _, Nat.le_refl _⟩ rfl dX2_hazardsIn_41 ?_
        refine z_iadd C dX2_hazardsIn_44 ?_
        refine z_istore_n C (i := 3) [(3, .int (x3 + r15)), (0, .ref (ad 16)), (1, .int x1), (2, .int x2), (4, .int x4)] hl dX2_hazardsIn_45 rfl (by decide) rfl (fun ls hl => ?_)
        refine z_iinc C (i := 4) (k := 4) (x4 + (1 : Int32)) [(4, .int (x4 + (1 : Int32))), (3, .int (x3 + r15)), (0, .ref (ad 16)), (1, .int x1), (2, .int x2)] hl dX2_hazardsIn_46 rfl rfl (by decide) rfl (fun ls hl => ?_)
        refine z_goto C 14 dX2_hazardsIn_49 (by decide) ?_
        exact ih _ _ _ h _ (lv_sub hl [2, 3, 4, 1, 0] rfl)
set_option maxRecDepth 20000 in
set_option maxHeartbeats 4000000 in
theorem m_X2_hazardsIn (F : Nat) (x1 : Int32) (u : St) (r : Int32) (u' : St)  (h : f_X2_hazardsIn F x1 u = some (r, u')) : Mt yX2_hazardsIn cX2_hazardsIn 5 (some .int) 3 (fun ad => [.ref (ad 16), .int x1]) u (fun _ => some (.int r)) u' := by
  refine Mt.of (by decide) (fun ad => Nat.le_of_ble_eq_true rfl) ?_
  intro p l e s m args below meth c D cA ad ls C hl
  have hl : lv_has ls 5 [(0, .ref (ad 16)), (1, .int x1)] := hl
  unfold f_X2_hazardsIn at h
  refine z_aload_n C (i := 0) (k := 0) hl dX2_hazardsIn_0 rfl rfl ?_
  refine z_getr C 16 0 4 fw_X2_15 sh_16 rfl dX2_hazardsIn_1 ?_
  refine z_iload_n C (i := 1) (k := 1) hl dX2_hazardsIn_4 rfl rfl ?_
  obtain ⟨⟨r3, u1⟩, hc2, h⟩ := bnd h
  try dsimp only at h
  refine z_callV C (ci := 0) [.int x1] [] [.int r3] (m_X0_askedIn F _ _ _ _ hc2) cw_X0_askedIn vw_X0_askedIn ml_X2_43 sh_4 rfl rfl rfl rfl hl.1 (Nat.le_of_ble_eq_true rfl) ⟨Nat.le_of_ble_eq_true rfl, Nat.le_of_ble_eq_true rfl⟩ ⟨Nat.le_refl _, Nat.le_refl _⟩ rfl dX2_hazardsIn_5 ?_
  refine z_istore_n C (i := 2) [(2, .int r3), (0, .ref (ad 16)), (1, .int x1)] hl dX2_hazardsIn_8 rfl (by decide) rfl (fun ls hl => ?_)
  refine z_iconst C (0 : Int32) dX2_hazardsIn_9 (by decide) ?_
  refine z_istore_n C (i := 3) [(3, .int (0 : Int32)), (2, .int r3), (0, .ref (ad 16)), (1, .int x1)] hl dX2_hazardsIn_10 rfl (by decide) rfl (fun ls hl => ?_)
  refine z_iconst C (0 : Int32) dX2_hazardsIn_11 (by decide) ?_
  refine z_istore C (i := 4) [(4, .int (0 : Int32)), (3, .int (0 : Int32)), (2, .int r3), (0, .ref (ad 16)), (1, .int x1)] hl dX2_hazardsIn_12 (by decide) rfl (fun ls hl => ?_)
  obtain ⟨w19, hw20, h⟩ := bnd h
  refine zl_X2_hazardsIn_14 C F x1 r3 (out := w19) (fun ls hl => ?_) F _ _ _ hw20 _ (lv_sub hl [3, 4, 2, 1, 0] rfl)
  refine z_iload_n C (i := 3) (k := 3) hl dX2_hazardsIn_52 rfl rfl ?_
  obtain ⟨rfl, rfl⟩ := r2 h
  exact z_iret C dX2_hazardsIn_53
def b_X2_renew_15 (F : Nat)  (rec : Int32 → St → Option (Int32 × St)) (x1 : Int32) (u : St) : Option (Int32 × St) := (Option.bind (f_X10_size F u) (fun w4 => (if w4.1 ≤ x1 then some (x1, w4.2) else (if (4096 : Int32) ≤ x1 then some (x1, w4.2) else (Option.bind (f_X10_stateAt F x1 w4.2) (fun w8 => (Option.bind (f_X2_hazardsIn F w8.1 w8.2) (fun w12 => (if x1 < 0 ∨ 4096 ≤ x1.toNatClampNeg then none else rec ((x1 + (1 : Int32))) (wr (wr w12.2 16 3 ((w4.2.1 16 3) + w12.1)) 17 x1.toNatClampNeg ((wr w12.2 16 3 ((w4.2.1 16 3) + w12.1)).1 16 3)))))))))))
def l_X2_renew_15 (F : Nat)  : Nat → Int32 → St → Option (Int32 × St)
  | 0, _, _ => none
  | k + 1, x1, u => b_X2_renew_15 F  (l_X2_renew_15 F  k) x1 u
def f_X2_renew (F : Nat)  (u : St) : Option (St) := (if (u.1 16 4) = 0 then (Option.bind (l_X2_renew_15 F  F (0 : Int32) (wr u 16 3 (0 : Int32))) (fun w16 => some (wr w16.2 16 4 (1 : Int32)))) else some u)
set_option maxRecDepth 20000 in
set_option maxHeartbeats 4000000 in
theorem zl_X2_renew_15 {p : Program} {l : Launch} {e : Env} {s : State} {m : MethodId} {args : Array Value} {below : List Frame} {meth : Method} {c : Code} {D : va_G} {cA : Nat → ClassId} {ad : Nat → Nat} {Q : State → Prop} (C : Cx SH p s m args meth c cX2_renew 2 none RX2 D cA ad (inAd ad)) (F : Nat)   {out : Int32 × St}  (K : ∀ ls : Array Slot, lv_has ls 2 [(0, .ref (ad 16)), (1, .int out.1)] → Z SH p l e (rmD 4) s m args below meth c D cA ad (inAd ad) 0 0 Q out.2 70 ls []) : ∀ (k : Nat) (x1 : Int32) (u : St), l_X2_renew_15 F  k x1 u = some out → ∀ ls : Array Slot, lv_has ls 2 [(0, .ref (ad 16)), (1, .int x1)] → Z SH p l e (rmD 4) s m args below meth c D cA ad (inAd ad) 0 0 Q u 15 ls [] := by
  intro k
  induction k with
  | zero => intro x1 u h; cases h
  | succ k ih =>
    intro x1 u h ls hl
    replace h : b_X2_renew_15 F  (l_X2_renew_15 F  k) x1 u = some out := h
    unfold b_X2_renew_15 at h
    refine z_iload_n C (i := 1) (k := 1) hl dX2_renew_15 rfl rfl ?_
    refine z_aload_n C (i := 0) (k := 0) hl dX2_renew_16 rfl rfl ?_
    refine z_getr C 16 1 11 fw_X2_19 sh_16 rfl dX2_renew_17 ?_
    obtain ⟨⟨r3, u1⟩, hc2, h⟩ := bnd h
    try dsimp only at h
    refine z_callV C (ci := 10) [] [.int x1] [.int r3, .int x1] (m_X10_size F  _ _ _ hc2) cw_X10_size vw_X10_size ml_X2_31 sh_11 rfl rfl rfl rfl hl.1 (Nat.le_of_ble_eq_true rfl) ⟨Nat.le_of_ble_eq_true rfl, Nat.le_of_ble_eq_true rfl⟩ ⟨Nat.le_refl _, Nat.le_refl _⟩ rfl dX2_renew_20 ?_
    refine z_icmp_ge C 70 dX2_renew_23 (by decide) (fun hc15 => ?_) (fun hc15 => ?_)
    · replace h := (if_pos hc15).symm.trans h
      obtain rfl := Option.some.inj h
      exact K _ (lv_sub hl [0, 1] rfl)
    · replace h := (if_neg hc15).symm.trans h
      refine z_iload_n C (i := 1) (k := 1) hl dX2_renew_26 rfl rfl ?_
      refine z_sipush C (4096 : Int32) dX2_renew_27 (by decide) ?_
      refine z_icmp_ge C 70 dX2_renew_30 (by decide) (fun hc14 => ?_) (fun hc14 => ?_)
      · replace h := (if_pos hc14).symm.trans h
        obtain rfl := Option.some.inj h
        exact K _ (lv_sub hl [0, 1] rfl)
      · replace h := (if_neg hc14).symm.trans h
        refine z_aload_n C (i := 0) (k := 0) hl dX2_renew_33 rfl rfl ?_
        refine z_dup C dX2_renew_34 rfl ?_
        refine z_geti C 16 3 fw_X2_27 sh_16 rfl dX2_renew_35 ?_
        refine z_aload_n C (i := 0) (k := 0) hl dX2_renew_38 rfl rfl ?_
        refine z_aload_n C (i := 0) (k := 0) hl dX2_renew_39 rfl rfl ?_
        refine z_getr C 16 1 11 fw_X2_19 sh_16 rfl dX2_renew_40 ?_
        refine z_iload_n C (i := 1) (k := 1) hl dX2_renew_43 rfl rfl ?_
        obtain ⟨⟨r7, u5⟩, hc6, h⟩ := bnd h
        try dsimp only at h
        refine z_callV C (ci := 10) [.int x1] [.ref (ad 16), .int (u1.1 16 3), .ref (ad 16)] [.int r7, .ref (ad 16), .int (u1.1 16 3), .ref (ad 16)] (m_X10_stateAt F _ _ _ _ hc6) cw_X10_stateAt vw_X10_stateAt ml_X2_36 sh_11 rfl rfl rfl rfl hl.1 (Nat.le_of_ble_eq_true rfl) ⟨Nat.le_of_ble_eq_true rfl, Nat.le_of_ble_eq_true rfl⟩ ⟨Nat.le_refl _, Nat.le_refl _⟩ rfl dX2_renew_44 ?_
        obtain ⟨⟨r11, u9⟩, hc10, h⟩ := bnd h
        try dsimp only at h
        refine z_callV C (ci := 2) [.int r7] [.int (u1.1 16 3), .ref (ad 16)] [.int r11, .int (u1.1 16 3), .ref (ad 16)] (m_X2_hazardsIn F _ _ _ _ hc10) cw_X2_hazardsIn vw_X2_hazardsIn ml_X2_40 sh_16 rfl rfl rfl rfl hl.1 (Nat.le_of_ble_eq_true rfl) ⟨Nat.le_of_ble_eq_true rfl, Nat.le_of_ble_eq_true rfl⟩ ⟨Nat.le_refl _, Nat.le_refl _⟩ rfl dX2_renew_47 ?_
        refine z_iadd C dX2_renew_50 ?_
        refine z_puti C 16 3 pw_X2_27 sh_16 rfl dX2_renew_51 ?_
        refine z_aload_n C (i := 0) (k := 0) hl dX2_renew_54 rfl rfl ?_
        refine z_getr C 16 2 17 fw_X2_9 sh_16 rfl dX2_renew_55 ?_
        refine z_iload_n C (i := 1) (k := 1) hl dX2_renew_58 rfl rfl ?_
        refine z_aload_n C (i := 0) (k := 0) hl dX2_renew_59 rfl rfl ?_
        refine z_geti C 16 3 fw_X2_27 sh_16 rfl dX2_renew_60 ?_
        obtain ⟨hi13, h⟩ := gd h
        refine z_iast C 17 4096 sh_17 hi13 dX2_renew_63 ?_
        refine z_iinc C (i := 1) (k := 1) (x1 + (1 : Int32)) [(1, .int (x1 + (1 : Int32))), (0, .ref (ad 16))] hl dX2_renew_64 rfl rfl (by decide) rfl (fun ls hl => ?_)
        refine z_goto C 15 dX2_renew_67 (by decide) ?_
        exact ih _ _ h _ (lv_sub hl [1, 0] rfl)
set_option maxRecDepth 20000 in
set_option maxHeartbeats 4000000 in
theorem m_X2_renew (F : Nat)  (u : St) (u' : St)  (h : f_X2_renew F  u = some u') : Mt yX2_renew cX2_renew 2 none 4 (fun ad => [.ref (ad 16)]) u (fun _ => none) u' := by
  refine Mt.of (by decide) (fun ad => Nat.le_of_ble_eq_true rfl) ?_
  intro p l e s m args below meth c D cA ad ls C hl
  have hl : lv_has ls 2 [(0, .ref (ad 16))] := hl
  unfold f_X2_renew at h
  refine z_aload_n C (i := 0) (k := 0) hl dX2_renew_0 rfl rfl ?_
  refine z_geti C 16 4 fw_X2_23 sh_16 rfl dX2_renew_1 ?_
  refine z_if_eq C 8 dX2_renew_4 (by decide) (fun hc18 => ?_) (fun hc18 => ?_)
  · replace h := (if_pos hc18).symm.trans h
    refine z_aload_n C (i := 0) (k := 0) hl dX2_renew_8 rfl rfl ?_
    refine z_iconst C (0 : Int32) dX2_renew_9 (by decide) ?_
    refine z_puti C 16 3 pw_X2_27 sh_16 rfl dX2_renew_10 ?_
    refine z_iconst C (0 : Int32) dX2_renew_13 (by decide) ?_
    refine z_istore_n C (i := 1) [(1, .int (0 : Int32)), (0, .ref (ad 16))] hl dX2_renew_14 rfl (by decide) rfl (fun ls hl => ?_)
    obtain ⟨w16, hw17, h⟩ := bnd h
    refine zl_X2_renew_15 C F (out := w16) (fun ls hl => ?_) F _ _ hw17 _ (lv_sub hl [1, 0] rfl)
    refine z_aload_n C (i := 0) (k := 0) hl dX2_renew_70 rfl rfl ?_
    refine z_iconst C (1 : Int32) dX2_renew_71 (by decide) ?_
    refine z_putz C 16 4 pw_X2_23 (by decide) sh_16 rfl dX2_renew_72 ?_
    obtain rfl := Option.some.inj h
    exact z_vret C dX2_renew_75
  · replace h := (if_neg hc18).symm.trans h
    obtain rfl := Option.some.inj h
    exact z_vret C dX2_renew_7
def f_X2_size (F : Nat)  (u : St) : Option (Int32 × St) := some ((u.1 16 3), u)
set_option maxRecDepth 20000 in
set_option maxHeartbeats 4000000 in
theorem m_X2_size (F : Nat)  (u : St) (r : Int32) (u' : St)  (h : f_X2_size F  u = some (r, u')) : Mt yX2_size cX2_size 1 (some .int) 0 (fun ad => [.ref (ad 16)]) u (fun _ => some (.int r)) u' := by
  refine Mt.of (by decide) (fun ad => Nat.le_of_ble_eq_true rfl) ?_
  intro p l e s m args below meth c D cA ad ls C hl
  have hl : lv_has ls 1 [(0, .ref (ad 16))] := hl
  unfold f_X2_size at h
  refine z_aload_n C (i := 0) (k := 0) hl dX2_size_0 rfl rfl ?_
  refine z_geti C 16 3 fw_X2_27 sh_16 rfl dX2_size_1 ?_
  obtain ⟨rfl, rfl⟩ := r2 h
  exact z_iret C dX2_size_4
def f_X11_count (F : Nat) (x1 : Int32) (u : St) : Option (Int32 × St) := (if x1 = (0 : Int32) then (Option.bind (f_X0_equations F u) (fun w4 => some (w4.1, w4.2))) else if x1 = (1 : Int32) then (Option.bind (f_X0_terms F u) (fun w8 => some (w8.1, w8.2))) else if x1 = (2 : Int32) then (Option.bind (f_X10_renew F u) (fun u9 => (Option.bind (f_X2_renew F u9) (fun u11 => (Option.bind (f_X2_size F u11) (fun w16 => some (w16.1, w16.2))))))) else if x1 = (3 : Int32) then (Option.bind (f_X10_renew F u) (fun u17 => (Option.bind (f_X10_stops F u17) (fun w22 => some (w22.1, w22.2))))) else if x1 = (4 : Int32) then (Option.bind (f_X4_nodes F u) (fun w26 => some (w26.1, w26.2))) else if x1 = (5 : Int32) then (Option.bind (f_X4_arcs F u) (fun w30 => some (w30.1, w30.2))) else if x1 = (6 : Int32) then (Option.bind (f_X7_size F u) (fun w34 => some (w34.1, w34.2))) else if x1 = (7 : Int32) then (Option.bind (f_X0_resetState F u) (fun w38 => some (w38.1, w38.2))) else some ((-1 : Int32), u))
set_option maxRecDepth 20000 in
set_option maxHeartbeats 4000000 in
theorem m_X11_count (F : Nat) (x1 : Int32) (u : St) (r : Int32) (u' : St)  (h : f_X11_count F x1 u = some (r, u')) : Mt yX11_count cX11_count 2 (some .int) 5 (fun ad => [.ref (ad 0), .int x1]) u (fun _ => some (.int r)) u' := by
  refine Mt.of (by decide) (fun ad => Nat.le_of_ble_eq_true rfl) ?_
  intro p l e s m args below meth c D cA ad ls C hl
  have hl : lv_has ls 2 [(0, .ref (ad 0)), (1, .int x1)] := hl
  unfold f_X11_count at h
  refine z_iload_n C (i := 1) (k := 1) hl dX11_count_0 rfl rfl ?_
  by_cases hs0 : x1 = (0 : Int32)
  · replace h := (if_pos hs0).symm.trans h
    refine z_tIn C (off := 47) 48 dX11_count_1 (by rw [hs0]; decide) (by rw [hs0]; decide) (by rw [hs0]; rfl) (by decide) ?_
    refine z_aload_n C (i := 0) (k := 0) hl dX11_count_48 rfl rfl ?_
    refine z_getr C 0 2 4 fw_X11_28 sh_0 rfl dX11_count_49 ?_
    obtain ⟨⟨r3, u1⟩, hc2, h⟩ := bnd h
    try dsimp only at h
    refine z_callV C (ci := 0) [] [] [.int r3] (m_X0_equations F  _ _ _ hc2) cw_X0_equations vw_X0_equations ml_X11_231 sh_4 rfl rfl rfl rfl hl.1 (Nat.le_of_ble_eq_true rfl) ⟨Nat.le_of_ble_eq_true rfl, Nat.le_of_ble_eq_true rfl⟩ ⟨Nat.le_refl _, Nat.le_refl _⟩ rfl dX11_count_52 ?_
    obtain ⟨rfl, rfl⟩ := r2 h
    exact z_iret C dX11_count_55
  replace h := (if_neg hs0).symm.trans h
  by_cases hs1 : x1 = (1 : Int32)
  · replace h := (if_pos hs1).symm.trans h
    refine z_tIn C (off := 55) 56 dX11_count_1 (by rw [hs1]; decide) (by rw [hs1]; decide) (by rw [hs1]; rfl) (by decide) ?_
    refine z_aload_n C (i := 0) (k := 0) hl dX11_count_56 rfl rfl ?_
    refine z_getr C 0 2 4 fw_X11_28 sh_0 rfl dX11_count_57 ?_
    obtain ⟨⟨r7, u5⟩, hc6, h⟩ := bnd h
    try dsimp only at h
    refine z_callV C (ci := 0) [] [] [.int r7] (m_X0_terms F  _ _ _ hc6) cw_X0_terms vw_X0_terms ml_X11_234 sh_4 rfl rfl rfl rfl hl.1 (Nat.le_of_ble_eq_true rfl) ⟨Nat.le_of_ble_eq_true rfl, Nat.le_of_ble_eq_true rfl⟩ ⟨Nat.le_refl _, Nat.le_refl _⟩ rfl dX11_count_60 ?_
    obtain ⟨rfl, rfl⟩ := r2 h
    exact z_iret C dX11_count_63
  replace h := (if_neg hs1).symm.trans h
  by_cases hs2 : x1 = (2 : Int32)
  · replace h := (if_pos hs2).symm.trans h
    refine z_tIn C (off := 63) 64 dX11_count_1 (by rw [hs2]; decide) (by rw [hs2]; decide) (by rw [hs2]; rfl) (by decide) ?_
    refine z_aload_n C (i := 0) (k := 0) hl dX11_count_64 rfl rfl ?_
    refine z_getr C 0 3 11 fw_X11_37 sh_0 rfl dX11_count_65 ?_
    obtain ⟨u9, hc10, h⟩ := bnd h
    refine z_callV C (ci := 10) [] [] [] (m_X10_renew F  _ _ hc10) cw_X10_renew vw_X10_renew ml_X11_144 sh_11 rfl rfl rfl rfl hl.1 (Nat.le_of_ble_eq_true rfl) ⟨Nat.le_of_ble_eq_true rfl, Nat.le_of_ble_eq_true rfl⟩ ⟨Nat.le_refl _, Nat.le_refl _⟩ rfl dX11_count_68 ?_
    refine z_aload_n C (i := 0) (k := 0) hl dX11_count_71 rfl rfl ?_
    refine z_getr C 0 4 16 fw_X11_46 sh_0 rfl dX11_count_72 ?_
    obtain ⟨u11, hc12, h⟩ := bnd h
    refine z_callV C (ci := 2) [] [] [] (m_X2_renew F  _ _ hc12) cw_X2_renew vw_X2_renew ml_X11_154 sh_16 rfl rfl rfl rfl hl.1 (Nat.le_of_ble_eq_true rfl) ⟨Nat.le_of_ble_eq_true rfl, Nat.le_of_ble_eq_true rfl⟩ ⟨Nat.le_refl _, Nat.le_refl _⟩ rfl dX11_count_75 ?_
    refine z_aload_n C (i := 0) (k := 0) hl dX11_count_78 rfl rfl ?_
    refine z_getr C 0 4 16 fw_X11_46 sh_0 rfl dX11_count_79 ?_
    obtain ⟨⟨r15, u13⟩, hc14, h⟩ := bnd h
    try dsimp only at h
    refine z_callV C (ci := 2) [] [] [.int r15] (m_X2_size F  _ _ _ hc14) cw_X2_size vw_X2_size ml_X11_237 sh_16 rfl rfl rfl rfl hl.1 (Nat.le_of_ble_eq_true rfl) ⟨Nat.le_of_ble_eq_true rfl, Nat.le_of_ble_eq_true rfl⟩ ⟨Nat.le_refl _, Nat.le_refl _⟩ rfl dX11_count_82 ?_
    obtain ⟨rfl, rfl⟩ := r2 h
    exact z_iret C dX11_count_85
  replace h := (if_neg hs2).symm.trans h
  by_cases hs3 : x1 = (3 : Int32)
  · replace h := (if_pos hs3).symm.trans h
    refine z_tIn C (off := 85) 86 dX11_count_1 (by rw [hs3]; decide) (by rw [hs3]; decide) (by rw [hs3]; rfl) (by decide) ?_
    refine z_aload_n C (i := 0) (k := 0) hl dX11_count_86 rfl rfl ?_
    refine z_getr C 0 3 11 fw_X11_37 sh_0 rfl dX11_count_87 ?_
    obtain ⟨u17, hc18, h⟩ := bnd h
    refine z_callV C (ci := 10) [] [] [] (m_X10_renew F  _ _ hc18) cw_X10_renew vw_X10_renew ml_X11_144 sh_11 rfl rfl rfl rfl hl.1 (Nat.le_of_ble_eq_true rfl) ⟨Nat.le_of_ble_eq_true rfl, Nat.le_of_ble_eq_true rfl⟩ ⟨Nat.le_refl _, Nat.le_refl _⟩ rfl dX11_count_90 ?_
    refine z_aload_n C (i := 0) (k := 0) hl dX11_count_93 rfl rfl ?_
    refine z_getr C 0 3 11 fw_X11_37 sh_0 rfl dX11_count_94 ?_
    obtain ⟨⟨r21, u19⟩, hc20, h⟩ := bnd h
    try dsimp only at h
    refine z_callV C (ci := 10) [] [] [.int r21] (m_X10_stops F  _ _ _ hc20) cw_X10_stops vw_X10_stops ml_X11_238 sh_11 rfl rfl rfl rfl hl.1 (Nat.le_of_ble_eq_true rfl) ⟨Nat.le_of_ble_eq_true rfl, Nat.le_of_ble_eq_true rfl⟩ ⟨Nat.le_refl _, Nat.le_refl _⟩ rfl dX11_count_97 ?_
    obtain ⟨rfl, rfl⟩ := r2 h
    exact z_iret C dX11_count_100
  replace h := (if_neg hs3).symm.trans h
  by_cases hs4 : x1 = (4 : Int32)
  · replace h := (if_pos hs4).symm.trans h
    refine z_tIn C (off := 100) 101 dX11_count_1 (by rw [hs4]; decide) (by rw [hs4]; decide) (by rw [hs4]; rfl) (by decide) ?_
    refine z_aload_n C (i := 0) (k := 0) hl dX11_count_101 rfl rfl ?_
    refine z_getr C 0 7 22 fw_X11_64 sh_0 rfl dX11_count_102 ?_
    obtain ⟨⟨r25, u23⟩, hc24, h⟩ := bnd h
    try dsimp only at h
    refine z_callV C (ci := 4) [] [] [.int r25] (m_X4_nodes F  _ _ _ hc24) cw_X4_nodes vw_X4_nodes ml_X11_241 sh_22 rfl rfl rfl rfl hl.1 (Nat.le_of_ble_eq_true rfl) ⟨Nat.le_of_ble_eq_true rfl, Nat.le_of_ble_eq_true rfl⟩ ⟨Nat.le_refl _, Nat.le_refl _⟩ rfl dX11_count_105 ?_
    obtain ⟨rfl, rfl⟩ := r2 h
    exact z_iret C dX11_count_108
  replace h := (if_neg hs4).symm.trans h
  by_cases hs5 : x1 = (5 : Int32)
  · replace h := (if_pos hs5).symm.trans h
    refine z_tIn C (off := 108) 109 dX11_count_1 (by rw [hs5]; decide) (by rw [hs5]; decide) (by rw [hs5]; rfl) (by decide) ?_
    refine z_aload_n C (i := 0) (k := 0) hl dX11_count_109 rfl rfl ?_
    refine z_getr C 0 7 22 fw_X11_64 sh_0 rfl dX11_count_110 ?_
    obtain ⟨⟨r29, u27⟩, hc28, h⟩ := bnd h
    try dsimp only at h
    refine z_callV C (ci := 4) [] [] [.int r29] (m_X4_arcs F  _ _ _ hc28) cw_X4_arcs vw_X4_arcs ml_X11_244 sh_22 rfl rfl rfl rfl hl.1 (Nat.le_of_ble_eq_true rfl) ⟨Nat.le_of_ble_eq_true rfl, Nat.le_of_ble_eq_true rfl⟩ ⟨Nat.le_refl _, Nat.le_refl _⟩ rfl dX11_count_113 ?_
    obtain ⟨rfl, rfl⟩ := r2 h
    exact z_iret C dX11_count_116
  replace h := (if_neg hs5).symm.trans h
  by_cases hs6 : x1 = (6 : Int32)
  · replace h := (if_pos hs6).symm.trans h
    refine z_tIn C (off := 116) 117 dX11_count_1 (by rw [hs6]; decide) (by rw [hs6]; decide) (by rw [hs6]; rfl) (by decide) ?_
    refine z_aload_n C (i := 0) (k := 0) hl dX11_count_117 rfl rfl ?_
    refine z_getr C 0 0 1 fw_X11_12 sh_0 rfl dX11_count_118 ?_
    obtain ⟨⟨r33, u31⟩, hc32, h⟩ := bnd h
    try dsimp only at h
    refine z_callV C (ci := 7) [] [] [.int r33] (m_X7_size F  _ _ _ hc32) cw_X7_size vw_X7_size ml_X11_95 sh_1 rfl rfl rfl rfl hl.1 (Nat.le_of_ble_eq_true rfl) ⟨Nat.le_of_ble_eq_true rfl, Nat.le_of_ble_eq_true rfl⟩ ⟨Nat.le_refl _, Nat.le_refl _⟩ rfl dX11_count_121 ?_
    obtain ⟨rfl, rfl⟩ := r2 h
    exact z_iret C dX11_count_124
  replace h := (if_neg hs6).symm.trans h
  by_cases hs7 : x1 = (7 : Int32)
  · replace h := (if_pos hs7).symm.trans h
    refine z_tIn C (off := 124) 125 dX11_count_1 (by rw [hs7]; decide) (by rw [hs7]; decide) (by rw [hs7]; rfl) (by decide) ?_
    refine z_aload_n C (i := 0) (k := 0) hl dX11_count_125 rfl rfl ?_
    refine z_getr C 0 2 4 fw_X11_28 sh_0 rfl dX11_count_126 ?_
    obtain ⟨⟨r37, u35⟩, hc36, h⟩ := bnd h
    try dsimp only at h
    refine z_callV C (ci := 0) [] [] [.int r37] (m_X0_resetState F  _ _ _ hc36) cw_X0_resetState vw_X0_resetState ml_X11_247 sh_4 rfl rfl rfl rfl hl.1 (Nat.le_of_ble_eq_true rfl) ⟨Nat.le_of_ble_eq_true rfl, Nat.le_of_ble_eq_true rfl⟩ ⟨Nat.le_refl _, Nat.le_refl _⟩ rfl dX11_count_129 ?_
    obtain ⟨rfl, rfl⟩ := r2 h
    exact z_iret C dX11_count_132
  replace h := (if_neg hs7).symm.trans h
  refine z_tOut C 133 dX11_count_1 (tsw8 hs0 hs1 hs2 hs3 hs4 hs5 hs6 hs7) (by decide) ?_
  refine z_iconst C (-1 : Int32) dX11_count_133 (by decide) ?_
  obtain ⟨rfl, rfl⟩ := r2 h
  exact z_iret C dX11_count_134
def b_X4_nodesBehindRings_4 (F : Nat) (x1 : Int32) (rec : Int32 → Int32 → St → Option (Int32 × Int32 × St)) (x2 : Int32) (x3 : Int32) (u : St) : Option (Int32 × Int32 × St) := (if (u.1 22 4) ≤ x3 then some (x2, x3, u) else (Option.bind (f_X4_freedBy F x2 x1 u) (fun w4 => rec w4.1 ((x3 + (1 : Int32))) w4.2)))
def l_X4_nodesBehindRings_4 (F : Nat) (x1 : Int32) : Nat → Int32 → Int32 → St → Option (Int32 × Int32 × St)
  | 0, _, _, _ => none
  | k + 1, x2, x3, u => b_X4_nodesBehindRings_4 F x1 (l_X4_nodesBehindRings_4 F x1 k) x2 x3 u
def f_X4_nodesBehindRings (F : Nat) (x1 : Int32) (u : St) : Option (Int32 × St) := (Option.bind (l_X4_nodesBehindRings_4 F x1 F (0 : Int32) (0 : Int32) u) (fun w6 => (Option.bind (f_X4_allNodes F w6.2.2) (fun w11 => some ((w11.1 &&& (w6.1 ^^^ (-1 : Int32))), w11.2)))))
set_option maxRecDepth 20000 in
set_option maxHeartbeats 4000000 in
theorem zl_X4_nodesBehindRings_4 {p : Program} {l : Launch} {e : Env} {s : State} {m : MethodId} {args : Array Value} {below : List Frame} {meth : Method} {c : Code} {D : va_G} {cA : Nat → ClassId} {ad : Nat → Nat} {Q : State → Prop} (C : Cx SH p s m args meth c cX4_nodesBehindRings 4 (some .int) RX4 D cA ad (inAd ad)) (F : Nat) (x1 : Int32)  {out : Int32 × Int32 × St}  (K : ∀ ls : Array Slot, lv_has ls 4 [(0, .ref (ad 22)), (1, .int x1), (2, .int out.1), (3, .int out.2.1)] → Z SH p l e (rmD 2) s m args below meth c D cA ad (inAd ad) 0 0 Q out.2.2 25 ls []) : ∀ (k : Nat) (x2 : Int32) (x3 : Int32) (u : St), l_X4_nodesBehindRings_4 F x1 k x2 x3 u = some out → ∀ ls : Array Slot, lv_has ls 4 [(0, .ref (ad 22)), (1, .int x1), (2, .int x2), (3, .int x3)] → Z SH p l e (rmD 2) s m args below meth c D cA ad (inAd ad) 0 0 Q u 4 ls [] := by
  intro k
  induction k with
  | zero => intro x2 x3 u h; cases h
  | succ k ih =>
    intro x2 x3 u h ls hl
    replace h : b_X4_nodesBehindRings_4 F x1 (l_X4_nodesBehindRings_4 F x1 k) x2 x3 u = some out := h
    unfold b_X4_nodesBehindRings_4 at h
    refine z_iload_n C (i := 3) (k := 3) hl dX4_nodesBehindRings_4 rfl rfl ?_
    refine z_aload_n C (i := 0) (k := 0) hl dX4_nodesBehindRings_5 rfl rfl ?_
    refine z_geti C 22 4 fw_X4_24 sh_22 rfl dX4_nodesBehindRings_6 ?_
    refine z_icmp_ge C 25 dX4_nodesBehindRings_9 (by decide) (fun hc5 => ?_) (fun hc5 => ?_)
    · replace h := (if_pos hc5).symm.trans h
      obtain rfl := Option.some.inj h
      exact K _ (lv_sub hl [0, 1, 2, 3] rfl)
    · replace h := (if_neg hc5).symm.trans h
      refine z_aload_n C (i := 0) (k := 0) hl dX4_nodesBehindRings_12 rfl rfl ?_
      refine z_iload_n C (i := 2) (k := 2) hl dX4_nodesBehindRings_13 rfl rfl ?_
      refine z_iload_n C (i := 1) (k := 1) hl dX4_nodesBehindRings_14 rfl rfl ?_
      obtain ⟨⟨r3, u1⟩, hc2, h⟩ := bnd h
      try dsimp only at h
      refine z_callV C (ci := 4) [.int x2, .int x1] [] [.int r3] (m_X4_freedBy F _ _ _ _ _ hc2) cw_X4_freedBy vw_X4_freedBy ml_X4_42 sh_22 rfl rfl rfl rfl hl.1 (Nat.le_of_ble_eq_true rfl) ⟨Nat.le_of_ble_eq_true rfl, Nat.le_of_ble_eq_true rfl⟩ ⟨Nat.le_refl _, Nat.le_refl _⟩ rfl dX4_nodesBehindRings_15 ?_
      refine z_istore_n C (i := 2) [(2, .int r3), (0, .ref (ad 22)), (1, .int x1), (3, .int x3)] hl dX4_nodesBehindRings_18 rfl (by decide) rfl (fun ls hl => ?_)
      refine z_iinc C (i := 3) (k := 3) (x3 + (1 : Int32)) [(3, .int (x3 + (1 : Int32))), (2, .int r3), (0, .ref (ad 22)), (1, .int x1)] hl dX4_nodesBehindRings_19 rfl rfl (by decide) rfl (fun ls hl => ?_)
      refine z_goto C 4 dX4_nodesBehindRings_22 (by decide) ?_
      exact ih _ _ _ h _ (lv_sub hl [2, 3, 1, 0] rfl)
set_option maxRecDepth 20000 in
set_option maxHeartbeats 4000000 in
theorem m_X4_nodesBehindRings (F : Nat) (x1 : Int32) (u : St) (r : Int32) (u' : St)  (h : f_X4_nodesBehindRings F x1 u = some (r, u')) : Mt yX4_nodesBehindRings cX4_nodesBehindRings 4 (some .int) 2 (fun ad => [.ref (ad 22), .int x1]) u (fun _ => some (.int r)) u' := by
  refine Mt.of (by decide) (fun ad => Nat.le_of_ble_eq_true rfl) ?_
  intro p l e s m args below meth c D cA ad ls C hl
  have hl : lv_has ls 4 [(0, .ref (ad 22)), (1, .int x1)] := hl
  unfold f_X4_nodesBehindRings at h
  refine z_iconst C (0 : Int32) dX4_nodesBehindRings_0 (by decide) ?_
  refine z_istore_n C (i := 2) [(2, .int (0 : Int32)), (0, .ref (ad 22)), (1, .int x1)] hl dX4_nodesBehindRings_1 rfl (by decide) rfl (fun ls hl => ?_)
  refine z_iconst C (0 : Int32) dX4_nodesBehindRings_2 (by decide) ?_
  refine z_istore_n C (i := 3) [(3, .int (0 : Int32)), (2, .int (0 : Int32)), (0, .ref (ad 22)), (1, .int x1)] hl dX4_nodesBehindRings_3 rfl (by decide) rfl (fun ls hl => ?_)
  obtain ⟨w6, hw7, h⟩ := bnd h
  refine zl_X4_nodesBehindRings_4 C F x1 (out := w6) (fun ls hl => ?_) F _ _ _ hw7 _ (lv_sub hl [2, 3, 1, 0] rfl)
  refine z_aload_n C (i := 0) (k := 0) hl dX4_nodesBehindRings_25 rfl rfl ?_
  obtain ⟨⟨r10, u8⟩, hc9, h⟩ := bnd h
  try dsimp only at h
  refine z_callV C (ci := 4) [] [] [.int r10] (m_X4_allNodes F  _ _ _ hc9) cw_X4_allNodes vw_X4_allNodes ml_X4_46 sh_22 rfl rfl rfl rfl hl.1 (Nat.le_of_ble_eq_true rfl) ⟨Nat.le_of_ble_eq_true rfl, Nat.le_of_ble_eq_true rfl⟩ ⟨Nat.le_refl _, Nat.le_refl _⟩ rfl dX4_nodesBehindRings_26 ?_
  refine z_iload_n C (i := 2) (k := 2) hl dX4_nodesBehindRings_29 rfl rfl ?_
  refine z_iconst C (-1 : Int32) dX4_nodesBehindRings_30 (by decide) ?_
  refine z_ixor C dX4_nodesBehindRings_31 ?_
  refine z_iand C dX4_nodesBehindRings_32 ?_
  obtain ⟨rfl, rfl⟩ := r2 h
  exact z_iret C dX4_nodesBehindRings_33
def f_X4_hasDeadRing (F : Nat)  (u : St) : Option (Int32 × St) := (Option.bind (f_X4_nodesBehindRings F (0 : Int32) u) (fun w4 => (if w4.1 = 0 then some ((0 : Int32), w4.2) else some ((1 : Int32), w4.2))))
set_option maxRecDepth 20000 in
set_option maxHeartbeats 4000000 in
theorem m_X4_hasDeadRing (F : Nat)  (u : St) (r : Int32) (u' : St)  (h : f_X4_hasDeadRing F  u = some (r, u')) : Mt yX4_hasDeadRing cX4_hasDeadRing 1 (some .boolean) 3 (fun ad => [.ref (ad 22)]) u (fun _ => some (.int r)) u' := by
  refine Mt.of (by decide) (fun ad => Nat.le_of_ble_eq_true rfl) ?_
  intro p l e s m args below meth c D cA ad ls C hl
  have hl : lv_has ls 1 [(0, .ref (ad 22))] := hl
  unfold f_X4_hasDeadRing at h
  refine z_aload_n C (i := 0) (k := 0) hl dX4_hasDeadRing_0 rfl rfl ?_
  refine z_iconst C (0 : Int32) dX4_hasDeadRing_1 (by decide) ?_
  obtain ⟨⟨r3, u1⟩, hc2, h⟩ := bnd h
  try dsimp only at h
  refine z_callV C (ci := 4) [.int (0 : Int32)] [] [.int r3] (m_X4_nodesBehindRings F _ _ _ _ hc2) cw_X4_nodesBehindRings vw_X4_nodesBehindRings ml_X4_38 sh_22 rfl rfl rfl rfl hl.1 (Nat.le_of_ble_eq_true rfl) ⟨Nat.le_of_ble_eq_true rfl, Nat.le_of_ble_eq_true rfl⟩ ⟨Nat.le_refl _, Nat.le_refl _⟩ rfl dX4_hasDeadRing_2 ?_
  refine z_if_eq C 12 dX4_hasDeadRing_5 (by decide) (fun hc5 => ?_) (fun hc5 => ?_)
  · replace h := (if_pos hc5).symm.trans h
    refine z_iconst C (0 : Int32) dX4_hasDeadRing_12 (by decide) ?_
    obtain ⟨rfl, rfl⟩ := r2 h
    exact z_zret (by decide) C dX4_hasDeadRing_13
  · replace h := (if_neg hc5).symm.trans h
    refine z_iconst C (1 : Int32) dX4_hasDeadRing_8 (by decide) ?_
    refine z_goto C 13 dX4_hasDeadRing_9 (by decide) ?_
    obtain ⟨rfl, rfl⟩ := r2 h
    exact z_zret (by decide) C dX4_hasDeadRing_13
def f_X11_dead (F : Nat)  (u : St) : Option (Int32 × St) := (Option.bind (f_X4_hasDeadRing F u) (fun w4 => (if w4.1 = 0 then some ((0 : Int32), w4.2) else some ((1 : Int32), w4.2))))
set_option maxRecDepth 20000 in
set_option maxHeartbeats 4000000 in
theorem m_X11_dead (F : Nat)  (u : St) (r : Int32) (u' : St)  (h : f_X11_dead F  u = some (r, u')) : Mt yX11_dead cX11_dead 1 (some .int) 4 (fun ad => [.ref (ad 0)]) u (fun _ => some (.int r)) u' := by
  refine Mt.of (by decide) (fun ad => Nat.le_of_ble_eq_true rfl) ?_
  intro p l e s m args below meth c D cA ad ls C hl
  have hl : lv_has ls 1 [(0, .ref (ad 0))] := hl
  unfold f_X11_dead at h
  refine z_aload_n C (i := 0) (k := 0) hl dX11_dead_0 rfl rfl ?_
  refine z_getr C 0 7 22 fw_X11_64 sh_0 rfl dX11_dead_1 ?_
  obtain ⟨⟨r3, u1⟩, hc2, h⟩ := bnd h
  try dsimp only at h
  refine z_callV C (ci := 4) [] [] [.int r3] (m_X4_hasDeadRing F  _ _ _ hc2) cw_X4_hasDeadRing vw_X4_hasDeadRing ml_X11_197 sh_22 rfl rfl rfl rfl hl.1 (Nat.le_of_ble_eq_true rfl) ⟨Nat.le_of_ble_eq_true rfl, Nat.le_of_ble_eq_true rfl⟩ ⟨Nat.le_refl _, Nat.le_refl _⟩ rfl dX11_dead_4 ?_
  refine z_if_eq C 14 dX11_dead_7 (by decide) (fun hc5 => ?_) (fun hc5 => ?_)
  · replace h := (if_pos hc5).symm.trans h
    refine z_iconst C (0 : Int32) dX11_dead_14 (by decide) ?_
    obtain ⟨rfl, rfl⟩ := r2 h
    exact z_iret C dX11_dead_15
  · replace h := (if_neg hc5).symm.trans h
    refine z_iconst C (1 : Int32) dX11_dead_10 (by decide) ?_
    refine z_goto C 15 dX11_dead_11 (by decide) ?_
    obtain ⟨rfl, rfl⟩ := r2 h
    exact z_iret C dX11_dead_15
def f_X11_end (F : Nat) (x1 : Int32) (u : St) : Option (Int32 × St) := (if x1 < 0 then some ((0 : Int32), u) else (Option.bind (f_X7_size F u) (fun w4 => (if x1 ≤ w4.1 then (Option.bind (f_X7_cut F x1 w4.2) (fun u5 => some ((1 : Int32), u5))) else some ((0 : Int32), w4.2)))))
set_option maxRecDepth 20000 in
set_option maxHeartbeats 4000000 in
theorem m_X11_end (F : Nat) (x1 : Int32) (u : St) (r : Int32) (u' : St)  (h : f_X11_end F x1 u = some (r, u')) : Mt yX11_end cX11_end 2 (some .boolean) 1 (fun ad => [.ref (ad 0), .int x1]) u (fun _ => some (.int r)) u' := by
  refine Mt.of (by decide) (fun ad => Nat.le_of_ble_eq_true rfl) ?_
  intro p l e s m args below meth c D cA ad ls C hl
  have hl : lv_has ls 2 [(0, .ref (ad 0)), (1, .int x1)] := hl
  unfold f_X11_end at h
  refine z_iload_n C (i := 1) (k := 1) hl dX11_end_0 rfl rfl ?_
  refine z_if_lt C 15 dX11_end_1 (by decide) (fun hc8 => ?_) (fun hc8 => ?_)
  · replace h := (if_pos hc8).symm.trans h
    refine z_iconst C (0 : Int32) dX11_end_15 (by decide) ?_
    obtain ⟨rfl, rfl⟩ := r2 h
    exact z_zret (by decide) C dX11_end_16
  · replace h := (if_neg hc8).symm.trans h
    refine z_iload_n C (i := 1) (k := 1) hl dX11_end_4 rfl rfl ?_
    refine z_aload_n C (i := 0) (k := 0) hl dX11_end_5 rfl rfl ?_
    refine z_getr C 0 0 1 fw_X11_12 sh_0 rfl dX11_end_6 ?_
    obtain ⟨⟨r3, u1⟩, hc2, h⟩ := bnd h
    try dsimp only at h
    refine z_callV C (ci := 7) [] [.int x1] [.int r3, .int x1] (m_X7_size F  _ _ _ hc2) cw_X7_size vw_X7_size ml_X11_95 sh_1 rfl rfl rfl rfl hl.1 (Nat.le_of_ble_eq_true rfl) ⟨Nat.le_of_ble_eq_true rfl, Nat.le_of_ble_eq_true rfl⟩ ⟨Nat.le_refl _, Nat.le_refl _⟩ rfl dX11_end_9 ?_
    refine z_icmp_le C 17 dX11_end_12 (by decide) (fun hc7 => ?_) (fun hc7 => ?_)
    · replace h := (if_pos hc7).symm.trans h
      refine z_aload_n C (i := 0) (k := 0) hl dX11_end_17 rfl rfl ?_
      refine z_getr C 0 0 1 fw_X11_12 sh_0 rfl dX11_end_18 ?_
      refine z_iload_n C (i := 1) (k := 1) hl dX11_end_21 rfl rfl ?_
      obtain ⟨u5, hc6, h⟩ := bnd h
      refine z_callV C (ci := 7) [.int x1] [] [] (m_X7_cut F _ _ _ hc6) cw_X7_cut vw_X7_cut ml_X11_103 sh_1 rfl rfl rfl rfl hl.1 (Nat.le_of_ble_eq_true rfl) ⟨Nat.le_of_ble_eq_true rfl, Nat.le_of_ble_eq_true rfl⟩ ⟨Nat.le_refl _, Nat.le_refl _⟩ rfl dX11_end_22 ?_
      refine z_iconst C (1 : Int32) dX11_end_25 (by decide) ?_
      obtain ⟨rfl, rfl⟩ := r2 h
      exact z_zret (by decide) C dX11_end_26
    · replace h := (if_neg hc7).symm.trans h
      refine z_iconst C (0 : Int32) dX11_end_15 (by decide) ?_
      obtain ⟨rfl, rfl⟩ := r2 h
      exact z_zret (by decide) C dX11_end_16
def f_X11_fault (F : Nat)  (u : St) : Option (Int32 × St) := (if ((u.1 0 10).toNatClampNeg) = 7 ∨ ((u.1 0 10).toNatClampNeg) = 46 then (Option.bind (f_X6_read F ((u.1 0 10).toNatClampNeg) u) (fun w5 => some (w5.1, w5.2))) else none)
set_option maxRecDepth 20000 in
set_option maxHeartbeats 4000000 in
theorem m_X11_fault (F : Nat)  (u : St) (r : Int32) (u' : St)  (h : f_X11_fault F  u = some (r, u')) : Mt yX11_fault cX11_fault 1 (some .int) 6 (fun ad => [.ref (ad 0)]) u (fun _ => some (.int r)) u' := by
  refine Mt.of (by decide) (fun ad => Nat.le_of_ble_eq_true rfl) ?_
  intro p l e s m args below meth c D cA ad ls C hl
  have hl : lv_has ls 1 [(0, .ref (ad 0))] := hl
  unfold f_X11_fault at h
  refine z_aload_n C (i := 0) (k := 0) hl dX11_fault_0 rfl rfl ?_
  refine z_getr C 0 1 3 fw_X11_21 sh_0 rfl dX11_fault_1 ?_
  refine z_aload_n C (i := 0) (k := 0) hl dX11_fault_4 rfl rfl ?_
  obtain ⟨hq1, h⟩ := gp h
  refine z_getd C 0 10 fw_X11_87 sh_0 rfl dX11_fault_5 ?_
  obtain ⟨⟨r4, u2⟩, hc3, h⟩ := bnd h
  try dsimp only at h
  refine z_callV C (ci := 6) [.ref (ad ((u.1 0 10).toNatClampNeg))] [] [.int r4] (m_X6_read F _ _ _ _ hq1 hc3) cw_X6_read vw_X6_read ml_X11_106 sh_3 rfl rfl rfl rfl hl.1 (Nat.le_of_ble_eq_true rfl) ⟨Nat.le_of_ble_eq_true rfl, Nat.le_of_ble_eq_true rfl⟩ ⟨Nat.le_refl _, Nat.le_refl _⟩ rfl dX11_fault_8 ?_
  obtain ⟨rfl, rfl⟩ := r2 h
  exact z_iret C dX11_fault_11
def b_X7_append_3 (F : Nat) (x1 : Int32) (rec : Int32 → St → Option (Int32 × St)) (x2 : Int32) (u : St) : Option (Int32 × St) := (if x2 < 0 then some (x2, u) else (if ((ushr x1 x2) &&& (255 : Int32)) = 0 then rec ((x2 + (-8 : Int32))) u else (if (300 : Int32) ≤ (u.1 1 1) then rec ((x2 + (-8 : Int32))) u else (if (u.1 1 1) < 0 ∨ 300 ≤ (u.1 1 1).toNatClampNeg then none else rec ((x2 + (-8 : Int32))) (wr (wr u 2 (u.1 1 1).toNatClampNeg ((ushr x1 x2) &&& (255 : Int32))) 1 1 (((wr u 2 (u.1 1 1).toNatClampNeg ((ushr x1 x2) &&& (255 : Int32))).1 1 1) + (1 : Int32)))))))
def l_X7_append_3 (F : Nat) (x1 : Int32) : Nat → Int32 → St → Option (Int32 × St)
  | 0, _, _ => none
  | k + 1, x2, u => b_X7_append_3 F x1 (l_X7_append_3 F x1 k) x2 u
def f_X7_append (F : Nat) (x1 : Int32) (u : St) : Option (St) := (Option.bind (l_X7_append_3 F x1 F (24 : Int32) u) (fun w5 => some w5.2))
set_option maxRecDepth 20000 in
set_option maxHeartbeats 4000000 in
theorem zl_X7_append_3 {p : Program} {l : Launch} {e : Env} {s : State} {m : MethodId} {args : Array Value} {below : List Frame} {meth : Method} {c : Code} {D : va_G} {cA : Nat → ClassId} {ad : Nat → Nat} {Q : State → Prop} (C : Cx SH p s m args meth c cX7_append 4 none RX7 D cA ad (inAd ad)) (F : Nat) (x1 : Int32)  {out : Int32 × St}  (K : ∀ ls : Array Slot, lv_has ls 4 [(0, .ref (ad 1)), (1, .int x1), (2, .int out.1)] → Z SH p l e (rmD 0) s m args below meth c D cA ad (inAd ad) 0 0 Q out.2 55 ls []) : ∀ (k : Nat) (x2 : Int32) (u : St), l_X7_append_3 F x1 k x2 u = some out → ∀ ls : Array Slot, lv_has ls 4 [(0, .ref (ad 1)), (1, .int x1), (2, .int x2)] → Z SH p l e (rmD 0) s m args below meth c D cA ad (inAd ad) 0 0 Q u 3 ls [] := by
  intro k
  induction k with
  | zero => intro x2 u h; cases h
  | succ k ih =>
    intro x2 u h ls hl
    replace h : b_X7_append_3 F x1 (l_X7_append_3 F x1 k) x2 u = some out := h
    unfold b_X7_append_3 at h
    refine z_iload_n C (i := 2) (k := 2) hl dX7_append_3 rfl rfl ?_
    refine z_if_lt C 55 dX7_append_4 (by decide) (fun hc4 => ?_) (fun hc4 => ?_)
    · replace h := (if_pos hc4).symm.trans h
      obtain rfl := Option.some.inj h
      exact K _ (lv_sub hl [0, 1, 2] rfl)
    · replace h := (if_neg hc4).symm.trans h
      refine z_iload_n C (i := 1) (k := 1) hl dX7_append_7 rfl rfl ?_
      refine z_iload_n C (i := 2) (k := 2) hl dX7_append_8 rfl rfl ?_
      refine z_iushr C dX7_append_9 ?_
      refine z_sipush C (255 : Int32) dX7_append_10 (by decide) ?_
      refine z_iand C dX7_append_13 ?_
      refine z_istore_n C (i := 3) [(3, .int ((ushr x1 x2) &&& (255 : Int32))), (0, .ref (ad 1)), (1, .int x1), (2, .int x2)] hl dX7_append_14 rfl (by decide) rfl (fun ls hl => ?_)
      refine z_iload_n C (i := 3) (k := 0) hl dX7_append_15 rfl rfl ?_
      refine z_if_eq C 49 dX7_append_16 (by decide) (fun hc3 => ?_) (fun hc3 => ?_)
      · replace h := (if_pos hc3).symm.trans h
        refine z_iinc C (i := 2) (k := 3) (x2 + (-8 : Int32)) [(2, .int (x2 + (-8 : Int32))), (3, .int ((ushr x1 x2) &&& (255 : Int32))), (0, .ref (ad 1)), (1, .int x1)] hl dX7_append_49 rfl rfl (by decide) rfl (fun ls hl => ?_)
        refine z_goto C 3 dX7_append_52 (by decide) ?_
        exact ih _ _ h _ (lv_sub hl [2, 3, 0] rfl)
      · replace h := (if_neg hc3).symm.trans h
        refine z_aload_n C (i := 0) (k := 1) hl dX7_append_19 rfl rfl ?_
        refine z_geti C 1 1 fw_X7_15 sh_1 rfl dX7_append_20 ?_
        refine z_sipush C (300 : Int32) dX7_append_23 (by decide) ?_
        refine z_icmp_ge C 49 dX7_append_26 (by decide) (fun hc2 => ?_) (fun hc2 => ?_)
        · replace h := (if_pos hc2).symm.trans h
          refine z_iinc C (i := 2) (k := 3) (x2 + (-8 : Int32)) [(2, .int (x2 + (-8 : Int32))), (3, .int ((ushr x1 x2) &&& (255 : Int32))), (0, .ref (ad 1)), (1, .int x1)] hl dX7_append_49 rfl rfl (by decide) rfl (fun ls hl => ?_)
          refine z_goto C 3 dX7_append_52 (by decide) ?_
          exact ih _ _ h _ (lv_sub hl [2, 3, 0] rfl)
        · replace h := (if_neg hc2).symm.trans h
          refine z_aload_n C (i := 0) (k := 1) hl dX7_append_29 rfl rfl ?_
          refine z_getr C 1 0 2 fw_X7_9 sh_1 rfl dX7_append_30 ?_
          refine z_aload_n C (i := 0) (k := 1) hl dX7_append_33 rfl rfl ?_
          refine z_geti C 1 1 fw_X7_15 sh_1 rfl dX7_append_34 ?_
          refine z_iload_n C (i := 3) (k := 0) hl dX7_append_37 rfl rfl ?_
          obtain ⟨hi1, h⟩ := gd h
          refine z_iast C 2 300 sh_2 hi1 dX7_append_38 ?_
          refine z_aload_n C (i := 0) (k := 1) hl dX7_append_39 rfl rfl ?_
          refine z_dup C dX7_append_40 rfl ?_
          refine z_geti C 1 1 fw_X7_15 sh_1 rfl dX7_append_41 ?_
          refine z_iconst C (1 : Int32) dX7_append_44 (by decide) ?_
          refine z_iadd C dX7_append_45 ?_
          refine z_puti C 1 1 pw_X7_15 sh_1 rfl dX7_append_46 ?_
          refine z_iinc C (i := 2) (k := 3) (x2 + (-8 : Int32)) [(2, .int (x2 + (-8 : Int32))), (3, .int ((ushr x1 x2) &&& (255 : Int32))), (0, .ref (ad 1)), (1, .int x1)] hl dX7_append_49 rfl rfl (by decide) rfl (fun ls hl => ?_)
          refine z_goto C 3 dX7_append_52 (by decide) ?_
          exact ih _ _ h _ (lv_sub hl [2, 3, 0] rfl)
set_option maxRecDepth 20000 in
set_option maxHeartbeats 4000000 in
theorem m_X7_append (F : Nat) (x1 : Int32) (u : St) (u' : St)  (h : f_X7_append F x1 u = some u') : Mt yX7_append cX7_append 4 none 0 (fun ad => [.ref (ad 1), .int x1]) u (fun _ => none) u' := by
  refine Mt.of (by decide) (fun ad => Nat.le_of_ble_eq_true rfl) ?_
  intro p l e s m args below meth c D cA ad ls C hl
  have hl : lv_has ls 4 [(0, .ref (ad 1)), (1, .int x1)] := hl
  unfold f_X7_append at h
  refine z_bipush C (24 : Int32) dX7_append_0 (by decide) ?_
  refine z_istore_n C (i := 2) [(2, .int (24 : Int32)), (0, .ref (ad 1)), (1, .int x1)] hl dX7_append_2 rfl (by decide) rfl (fun ls hl => ?_)
  obtain ⟨w5, hw6, h⟩ := bnd h
  refine zl_X7_append_3 C F x1 (out := w5) (fun ls hl => ?_) F _ _ hw6 _ (lv_sub hl [1, 2, 0] rfl)
  obtain rfl := Option.some.inj h
  exact z_vret C dX7_append_55
def b_X7_bytesIn_5 (F : Nat) (x0 : Int32) (rec : Int32 → Int32 → St → Option (Int32 × Int32 × St)) (x1 : Int32) (x2 : Int32) (u : St) : Option (Int32 × Int32 × St) := (if x2 < 0 then some (x1, x2, u) else (if ((ushr x0 x2) &&& (255 : Int32)) = 0 then rec x1 ((x2 + (-8 : Int32))) u else rec ((x1 + (1 : Int32))) ((x2 + (-8 : Int32))) u))
def l_X7_bytesIn_5 (F : Nat) (x0 : Int32) : Nat → Int32 → Int32 → St → Option (Int32 × Int32 × St)
  | 0, _, _, _ => none
  | k + 1, x1, x2, u => b_X7_bytesIn_5 F x0 (l_X7_bytesIn_5 F x0 k) x1 x2 u
def f_X7_bytesIn (F : Nat) (x0 : Int32) (u : St) : Option (Int32 × St) := (Option.bind (l_X7_bytesIn_5 F x0 F (0 : Int32) (24 : Int32) u) (fun w3 => some (w3.1, w3.2.2)))
set_option maxRecDepth 20000 in
set_option maxHeartbeats 4000000 in
theorem zl_X7_bytesIn_5 {p : Program} {l : Launch} {e : Env} {s : State} {m : MethodId} {args : Array Value} {below : List Frame} {meth : Method} {c : Code} {D : va_G} {cA : Nat → ClassId} {ad : Nat → Nat} {Q : State → Prop} (C : Cx SH p s m args meth c cX7_bytesIn 3 (some .int) RX7 D cA ad (inAd ad)) (F : Nat) (x0 : Int32)  {out : Int32 × Int32 × St}  (K : ∀ ls : Array Slot, lv_has ls 3 [(0, .int x0), (1, .int out.1), (2, .int out.2.1)] → Z SH p l e (rmD 0) s m args below meth c D cA ad (inAd ad) 0 0 Q out.2.2 28 ls []) : ∀ (k : Nat) (x1 : Int32) (x2 : Int32) (u : St), l_X7_bytesIn_5 F x0 k x1 x2 u = some out → ∀ ls : Array Slot, lv_has ls 3 [(0, .int x0), (1, .int x1), (2, .int x2)] → Z SH p l e (rmD 0) s m args below meth c D cA ad (inAd ad) 0 0 Q u 5 ls [] := by
  intro k
  induction k with
  | zero => intro x1 x2 u h; cases h
  | succ k ih =>
    intro x1 x2 u h ls hl
    replace h : b_X7_bytesIn_5 F x0 (l_X7_bytesIn_5 F x0 k) x1 x2 u = some out := h
    unfold b_X7_bytesIn_5 at h
    refine z_iload_n C (i := 2) (k := 2) hl dX7_bytesIn_5 rfl rfl ?_
    refine z_if_lt C 28 dX7_bytesIn_6 (by decide) (fun hc2 => ?_) (fun hc2 => ?_)
    · replace h := (if_pos hc2).symm.trans h
      obtain rfl := Option.some.inj h
      exact K _ (lv_sub hl [0, 1, 2] rfl)
    · replace h := (if_neg hc2).symm.trans h
      refine z_iload_n C (i := 0) (k := 0) hl dX7_bytesIn_9 rfl rfl ?_
      refine z_iload_n C (i := 2) (k := 2) hl dX7_bytesIn_10 rfl rfl ?_
      refine z_iushr C dX7_bytesIn_11 ?_
      refine z_sipush C (255 : Int32) dX7_bytesIn_12 (by decide) ?_
      refine z_iand C dX7_bytesIn_15 ?_
      refine z_if_eq C 22 dX7_bytesIn_16 (by decide) (fun hc1 => ?_) (fun hc1 => ?_)
      · replace h := (if_pos hc1).symm.trans h
        refine z_iinc C (i := 2) (k := 2) (x2 + (-8 : Int32)) [(2, .int (x2 + (-8 : Int32))), (0, .int x0), (1, .int x1)] hl dX7_bytesIn_22 rfl rfl (by decide) rfl (fun ls hl => ?_)
        refine z_goto C 5 dX7_bytesIn_25 (by decide) ?_
        exact ih _ _ _ h _ (lv_sub hl [1, 2, 0] rfl)
      · replace h := (if_neg hc1).symm.trans h
        refine z_iinc C (i := 1) (k := 1) (x1 + (1 : Int32)) [(1, .int (x1 + (1 : Int32))), (0, .int x0), (2, .int x2)] hl dX7_bytesIn_19 rfl rfl (by decide) rfl (fun ls hl => ?_)
        refine z_iinc C (i := 2) (k := 2) (x2 + (-8 : Int32)) [(2, .int (x2 + (-8 : Int32))), (1, .int (x1 + (1 : Int32))), (0, .int x0)] hl dX7_bytesIn_22 rfl rfl (by decide) rfl (fun ls hl => ?_)
        refine z_goto C 5 dX7_bytesIn_25 (by decide) ?_
        exact ih _ _ _ h _ (lv_sub hl [2, 1, 0] rfl)
set_option maxRecDepth 20000 in
set_option maxHeartbeats 4000000 in
theorem m_X7_bytesIn (F : Nat) (x0 : Int32) (u : St) (r : Int32) (u' : St)  (h : f_X7_bytesIn F x0 u = some (r, u')) : Mt yX7_bytesIn cX7_bytesIn 3 (some .int) 0 (fun ad => [.int x0]) u (fun _ => some (.int r)) u' := by
  refine Mt.of (by decide) (fun ad => Nat.le_of_ble_eq_true rfl) ?_
  intro p l e s m args below meth c D cA ad ls C hl
  have hl : lv_has ls 3 [(0, .int x0)] := hl
  unfold f_X7_bytesIn at h
  refine z_iconst C (0 : Int32) dX7_bytesIn_0 (by decide) ?_
  refine z_istore_n C (i := 1) [(1, .int (0 : Int32)), (0, .int x0)] hl dX7_bytesIn_1 rfl (by decide) rfl (fun ls hl => ?_)
  refine z_bipush C (24 : Int32) dX7_bytesIn_2 (by decide) ?_
  refine z_istore_n C (i := 2) [(2, .int (24 : Int32)), (1, .int (0 : Int32)), (0, .int x0)] hl dX7_bytesIn_4 rfl (by decide) rfl (fun ls hl => ?_)
  obtain ⟨w3, hw4, h⟩ := bnd h
  refine zl_X7_bytesIn_5 C F x0 (out := w3) (fun ls hl => ?_) F _ _ _ hw4 _ (lv_sub hl [2, 1, 0] rfl)
  refine z_iload_n C (i := 1) (k := 1) hl dX7_bytesIn_28 rfl rfl ?_
  obtain ⟨rfl, rfl⟩ := r2 h
  exact z_iret C dX7_bytesIn_29
def f_X11_feed (F : Nat) (x1 : Int32) (x2 : Int32) (x3 : Int32) (x4 : Int32) (x5 : Int32) (u : St) : Option (Int32 × St) := (Option.bind (f_X7_bytesIn F x1 u) (fun w4 => (Option.bind (f_X7_bytesIn F x2 w4.2) (fun w8 => (Option.bind (f_X7_bytesIn F x3 w8.2) (fun w12 => (Option.bind (f_X7_bytesIn F x4 w12.2) (fun w16 => (Option.bind (f_X7_bytesIn F x5 w16.2) (fun w20 => (Option.bind (f_X7_size F w20.2) (fun w24 => (if (w24.1 + ((((w4.1 + w8.1) + w12.1) + w16.1) + w20.1)) ≤ (300 : Int32) then (Option.bind (f_X7_append F x1 w24.2) (fun u25 => (Option.bind (f_X7_append F x2 u25) (fun u27 => (Option.bind (f_X7_append F x3 u27) (fun u29 => (Option.bind (f_X7_append F x4 u29) (fun u31 => (Option.bind (f_X7_append F x5 u31) (fun u33 => (Option.bind (f_X7_size F u33) (fun w38 => some (w38.1, w38.2))))))))))))) else some ((-1 : Int32), w24.2))))))))))))))
set_option maxRecDepth 20000 in
set_option maxHeartbeats 4000000 in
theorem m_X11_feed (F : Nat) (x1 : Int32) (x2 : Int32) (x3 : Int32) (x4 : Int32) (x5 : Int32) (u : St) (r : Int32) (u' : St)  (h : f_X11_feed F x1 x2 x3 x4 x5 u = some (r, u')) : Mt yX11_feed cX11_feed 7 (some .int) 1 (fun ad => [.ref (ad 0), .int x1, .int x2, .int x3, .int x4, .int x5]) u (fun _ => some (.int r)) u' := by
  refine Mt.of (by decide) (fun ad => Nat.le_of_ble_eq_true rfl) ?_
  intro p l e s m args below meth c D cA ad ls C hl
  have hl : lv_has ls 7 [(0, .ref (ad 0)), (1, .int x1), (2, .int x2), (3, .int x3), (4, .int x4), (5, .int x5)] := hl
  unfold f_X11_feed at h
  refine z_iload_n C (i := 1) (k := 1) hl dX11_feed_0 rfl rfl ?_
  obtain ⟨⟨r3, u1⟩, hc2, h⟩ := bnd h
  try dsimp only at h
  refine z_callS C [.int x1] [] [.int r3] (m_X7_bytesIn F _ _ _ _ hc2) cw_X7_bytesIn sw_X7_bytesIn ml_X11_91 rfl rfl rfl hl.1 (Nat.le_of_ble_eq_true rfl) ⟨Nat.le_of_ble_eq_true rfl, Nat.le_of_ble_eq_true rfl⟩ ⟨Nat.le_refl _, Nat.le_refl _⟩ rfl dX11_feed_1 ?_
  refine z_iload_n C (i := 2) (k := 2) hl dX11_feed_4 rfl rfl ?_
  obtain ⟨⟨r7, u5⟩, hc6, h⟩ := bnd h
  try dsimp only at h
  refine z_callS C [.int x2] [.int r3] [.int r7, .int r3] (m_X7_bytesIn F _ _ _ _ hc6) cw_X7_bytesIn sw_X7_bytesIn ml_X11_91 rfl rfl rfl hl.1 (Nat.le_of_ble_eq_true rfl) ⟨Nat.le_of_ble_eq_true rfl, Nat.le_of_ble_eq_true rfl⟩ ⟨Nat.le_refl _, Nat.le_refl _⟩ rfl dX11_feed_5 ?_
  refine z_iadd C dX11_feed_8 ?_
  refine z_iload_n C (i := 3) (k := 3) hl dX11_feed_9 rfl rfl ?_
  obtain ⟨⟨r11, u9⟩, hc10, h⟩ := bnd h
  try dsimp only at h
  refine z_callS C [.int x3] [.int (r3 + r7)] [.int r11, .int (r3 + r7)] (m_X7_bytesIn F _ _ _ _ hc10) cw_X7_bytesIn sw_X7_bytesIn ml_X11_91 rfl rfl rfl hl.1 (Nat.le_of_ble_eq_true rfl) ⟨Nat.le_of_ble_eq_true rfl, Nat.le_of_ble_eq_true rfl⟩ ⟨Nat.le_refl _, Nat.le_refl _⟩ rfl dX11_feed_10 ?_
  refine z_iadd C dX11_feed_13 ?_
  refine z_iload C (i := 4) (k := 4) hl dX11_feed_14 rfl ?_
  obtain ⟨⟨r15, u13⟩, hc14, h⟩ := bnd h
  try dsimp only at h
  refine z_callS C [.int x4] [.int ((r3 + r7) + r11)] [.int r15, .int ((r3 + r7) + r11)] (m_X7_bytesIn F _ _ _ _ hc14) cw_X7_bytesIn sw_X7_bytesIn ml_X11_91 rfl rfl rfl hl.1 (Nat.le_of_ble_eq_true rfl) ⟨Nat.le_of_ble_eq_true rfl, Nat.le_of_ble_eq_true rfl⟩ ⟨Nat.le_refl _, Nat.le_refl _⟩ rfl dX11_feed_16 ?_
  refine z_iadd C dX11_feed_19 ?_
  refine z_iload C (i := 5) (k := 5) hl dX11_feed_20 rfl ?_
  obtain ⟨⟨r19, u17⟩, hc18, h⟩ := bnd h
  try dsimp only at h
  refine z_callS C [.int x5] [.int (((r3 + r7) + r11) + r15)] [.int r19, .int (((r3 + r7) + r11) + r15)] (m_X7_bytesIn F _ _ _ _ hc18) cw_X7_bytesIn sw_X7_bytesIn ml_X11_91 rfl rfl rfl hl.1 (Nat.le_of_ble_eq_true rfl) ⟨Nat.le_of_ble_eq_true rfl, Nat.le_of_ble_eq_true rfl⟩ ⟨Nat.le_refl _, Nat.le_refl _⟩ rfl dX11_feed_22 ?_
  refine z_iadd C dX11_feed_25 ?_
  refine z_istore C (i := 6) [(6, .int ((((r3 + r7) + r11) + r15) + r19)), (0, .ref (ad 0)), (1, .int x1), (2, .int x2), (3, .int x3), (4, .int x4), (5, .int x5)] hl dX11_feed_26 (by decide) rfl (fun ls hl => ?_)
  refine z_aload_n C (i := 0) (k := 1) hl dX11_feed_28 rfl rfl ?_
  refine z_getr C 0 0 1 fw_X11_12 sh_0 rfl dX11_feed_29 ?_
  obtain ⟨⟨r23, u21⟩, hc22, h⟩ := bnd h
  try dsimp only at h
  refine z_callV C (ci := 7) [] [] [.int r23] (m_X7_size F  _ _ _ hc22) cw_X7_size vw_X7_size ml_X11_95 sh_1 rfl rfl rfl rfl hl.1 (Nat.le_of_ble_eq_true rfl) ⟨Nat.le_of_ble_eq_true rfl, Nat.le_of_ble_eq_true rfl⟩ ⟨Nat.le_refl _, Nat.le_refl _⟩ rfl dX11_feed_32 ?_
  refine z_iload C (i := 6) (k := 0) hl dX11_feed_35 rfl ?_
  refine z_iadd C dX11_feed_37 ?_
  refine z_sipush C (300 : Int32) dX11_feed_38 (by decide) ?_
  refine z_icmp_le C 46 dX11_feed_41 (by decide) (fun hc39 => ?_) (fun hc39 => ?_)
  · replace h := (if_pos hc39).symm.trans h
    refine z_aload_n C (i := 0) (k := 1) hl dX11_feed_46 rfl rfl ?_
    refine z_getr C 0 0 1 fw_X11_12 sh_0 rfl dX11_feed_47 ?_
    refine z_iload_n C (i := 1) (k := 2) hl dX11_feed_50 rfl rfl ?_
    obtain ⟨u25, hc26, h⟩ := bnd h
    refine z_callV C (ci := 7) [.int x1] [] [] (m_X7_append F _ _ _ hc26) cw_X7_append vw_X7_append ml_X11_99 sh_1 rfl rfl rfl rfl hl.1 (Nat.le_of_ble_eq_true rfl) ⟨Nat.le_of_ble_eq_true rfl, Nat.le_of_ble_eq_true rfl⟩ ⟨Nat.le_refl _, Nat.le_refl _⟩ rfl dX11_feed_51 ?_
    refine z_aload_n C (i := 0) (k := 1) hl dX11_feed_54 rfl rfl ?_
    refine z_getr C 0 0 1 fw_X11_12 sh_0 rfl dX11_feed_55 ?_
    refine z_iload_n C (i := 2) (k := 3) hl dX11_feed_58 rfl rfl ?_
    obtain ⟨u27, hc28, h⟩ := bnd h
    refine z_callV C (ci := 7) [.int x2] [] [] (m_X7_append F _ _ _ hc28) cw_X7_append vw_X7_append ml_X11_99 sh_1 rfl rfl rfl rfl hl.1 (Nat.le_of_ble_eq_true rfl) ⟨Nat.le_of_ble_eq_true rfl, Nat.le_of_ble_eq_true rfl⟩ ⟨Nat.le_refl _, Nat.le_refl _⟩ rfl dX11_feed_59 ?_
    refine z_aload_n C (i := 0) (k := 1) hl dX11_feed_62 rfl rfl ?_
    refine z_getr C 0 0 1 fw_X11_12 sh_0 rfl dX11_feed_63 ?_
    refine z_iload_n C (i := 3) (k := 4) hl dX11_feed_66 rfl rfl ?_
    obtain ⟨u29, hc30, h⟩ := bnd h
    refine z_callV C (ci := 7) [.int x3] [] [] (m_X7_append F _ _ _ hc30) cw_X7_append vw_X7_append ml_X11_99 sh_1 rfl rfl rfl rfl hl.1 (Nat.le_of_ble_eq_true rfl) ⟨Nat.le_of_ble_eq_true rfl, Nat.le_of_ble_eq_true rfl⟩ ⟨Nat.le_refl _, Nat.le_refl _⟩ rfl dX11_feed_67 ?_
    refine z_aload_n C (i := 0) (k := 1) hl dX11_feed_70 rfl rfl ?_
    refine z_getr C 0 0 1 fw_X11_12 sh_0 rfl dX11_feed_71 ?_
    refine z_iload C (i := 4) (k := 5) hl dX11_feed_74 rfl ?_
    obtain ⟨u31, hc32, h⟩ := bnd h
    refine z_callV C (ci := 7) [.int x4] [] [] (m_X7_append F _ _ _ hc32) cw_X7_append vw_X7_append ml_X11_99 sh_1 rfl rfl rfl rfl hl.1 (Nat.le_of_ble_eq_true rfl) ⟨Nat.le_of_ble_eq_true rfl, Nat.le_of_ble_eq_true rfl⟩ ⟨Nat.le_refl _, Nat.le_refl _⟩ rfl dX11_feed_76 ?_
    refine z_aload_n C (i := 0) (k := 1) hl dX11_feed_79 rfl rfl ?_
    refine z_getr C 0 0 1 fw_X11_12 sh_0 rfl dX11_feed_80 ?_
    refine z_iload C (i := 5) (k := 6) hl dX11_feed_83 rfl ?_
    obtain ⟨u33, hc34, h⟩ := bnd h
    refine z_callV C (ci := 7) [.int x5] [] [] (m_X7_append F _ _ _ hc34) cw_X7_append vw_X7_append ml_X11_99 sh_1 rfl rfl rfl rfl hl.1 (Nat.le_of_ble_eq_true rfl) ⟨Nat.le_of_ble_eq_true rfl, Nat.le_of_ble_eq_true rfl⟩ ⟨Nat.le_refl _, Nat.le_refl _⟩ rfl dX11_feed_85 ?_
    refine z_aload_n C (i := 0) (k := 1) hl dX11_feed_88 rfl rfl ?_
    refine z_getr C 0 0 1 fw_X11_12 sh_0 rfl dX11_feed_89 ?_
    obtain ⟨⟨r37, u35⟩, hc36, h⟩ := bnd h
    try dsimp only at h
    refine z_callV C (ci := 7) [] [] [.int r37] (m_X7_size F  _ _ _ hc36) cw_X7_size vw_X7_size ml_X11_95 sh_1 rfl rfl rfl rfl hl.1 (Nat.le_of_ble_eq_true rfl) ⟨Nat.le_of_ble_eq_true rfl, Nat.le_of_ble_eq_true rfl⟩ ⟨Nat.le_refl _, Nat.le_refl _⟩ rfl dX11_feed_92 ?_
    obtain ⟨rfl, rfl⟩ := r2 h
    exact z_iret C dX11_feed_95
  · replace h := (if_neg hc39).symm.trans h
    refine z_iconst C (-1 : Int32) dX11_feed_44 (by decide) ?_
    obtain ⟨rfl, rfl⟩ := r2 h
    exact z_iret C dX11_feed_45
def b_X2_placeWith_15 (F : Nat) (x1 : Int32) (rec : Int32 → Int32 → Int32 → St → Option (Int32 × Int32 × Int32 × St)) (x2 : Int32) (x3 : Int32) (x4 : Int32) (u : St) : Option (Int32 × Int32 × Int32 × St) := (if (4096 : Int32) ≤ x4 then some (x2, x3, x4, u) else (if x3 ≤ x2 then some (x2, x3, x4, u) else (if (2 : Int32) = 0 then none else (if ((x2 + x3) / (2 : Int32)) < 0 ∨ 4096 ≤ ((x2 + x3) / (2 : Int32)).toNatClampNeg then none else (if (u.1 17 ((x2 + x3) / (2 : Int32)).toNatClampNeg) ≤ x1 then rec ((((x2 + x3) / (2 : Int32)) + (1 : Int32))) x3 ((x4 + (1 : Int32))) u else rec x2 (((x2 + x3) / (2 : Int32))) ((x4 + (1 : Int32))) u)))))
def l_X2_placeWith_15 (F : Nat) (x1 : Int32) : Nat → Int32 → Int32 → Int32 → St → Option (Int32 × Int32 × Int32 × St)
  | 0, _, _, _, _ => none
  | k + 1, x2, x3, x4, u => b_X2_placeWith_15 F x1 (l_X2_placeWith_15 F x1 k) x2 x3 x4 u
def f_X2_placeWith (F : Nat) (x1 : Int32) (u : St) : Option (Int32 × St) := (Option.bind (f_X10_size F u) (fun w4 => (Option.bind (l_X2_placeWith_15 F x1 F (0 : Int32) (w4.1 - (1 : Int32)) (0 : Int32) w4.2) (fun w10 => some (w10.1, w10.2.2.2)))))
set_option maxRecDepth 20000 in
set_option maxHeartbeats 4000000 in
theorem zl_X2_placeWith_15 {p : Program} {l : Launch} {e : Env} {s : State} {m : MethodId} {args : Array Value} {below : List Frame} {meth : Method} {c : Code} {D : va_G} {cA : Nat → ClassId} {ad : Nat → Nat} {Q : State → Prop} (C : Cx SH p s m args meth c cX2_placeWith 6 (some .int) RX2 D cA ad (inAd ad)) (F : Nat) (x1 : Int32)  {out : Int32 × Int32 × Int32 × St}  (K : ∀ ls : Array Slot, lv_has ls 6 [(0, .ref (ad 16)), (1, .int x1), (2, .int out.1), (3, .int out.2.1), (4, .int out.2.2.1)] → Z SH p l e (rmD 1) s m args below meth c D cA ad (inAd ad) 0 0 Q out.2.2.2 63 ls []) : ∀ (k : Nat) (x2 : Int32) (x3 : Int32) (x4 : Int32) (u : St), l_X2_placeWith_15 F x1 k x2 x3 x4 u = some out → ∀ ls : Array Slot, lv_has ls 6 [(0, .ref (ad 16)), (1, .int x1), (2, .int x2), (3, .int x3), (4, .int x4)] → Z SH p l e (rmD 1) s m args below meth c D cA ad (inAd ad) 0 0 Q u 15 ls [] := by
  intro k
  induction k with
  | zero => intro x2 x3 x4 u h; cases h
  | succ k ih =>
    intro x2 x3 x4 u h ls hl
    replace h : b_X2_placeWith_15 F x1 (l_X2_placeWith_15 F x1 k) x2 x3 x4 u = some out := h
    unfold b_X2_placeWith_15 at h
    refine z_iload C (i := 4) (k := 4) hl dX2_placeWith_15 rfl ?_
    refine z_sipush C (4096 : Int32) dX2_placeWith_17 (by decide) ?_
    refine z_icmp_ge C 63 dX2_placeWith_20 (by decide) (fun hc9 => ?_) (fun hc9 => ?_)
    · replace h := (if_pos hc9).symm.trans h
      obtain rfl := Option.some.inj h
      exact K _ (lv_sub hl [0, 1, 2, 3, 4] rfl)
    · replace h := (if_neg hc9).symm.trans h
      refine z_iload_n C (i := 2) (k := 2) hl dX2_placeWith_23 rfl rfl ?_
      refine z_iload_n C (i := 3) (k := 3) hl dX2_placeWith_24 rfl rfl ?_
      refine z_icmp_ge C 63 dX2_placeWith_25 (by decide) (fun hc8 => ?_) (fun hc8 => ?_)
      · replace h := (if_pos hc8).symm.trans h
        obtain rfl := Option.some.inj h
        exact K _ (lv_sub hl [0, 1, 2, 3, 4] rfl)
      · replace h := (if_neg hc8).symm.trans h
        refine z_iload_n C (i := 2) (k := 2) hl dX2_placeWith_28 rfl rfl ?_
        refine z_iload_n C (i := 3) (k := 3) hl dX2_placeWith_29 rfl rfl ?_
        refine z_iadd C dX2_placeWith_30 ?_
        refine z_iconst C (2 : Int32) dX2_placeWith_31 (by decide) ?_
        obtain ⟨hn5, h⟩ := gd h
        refine z_idiv C dX2_placeWith_32 hn5 ?_
        refine z_istore C (i := 5) [(5, .int ((x2 + x3) / (2 : Int32))), (0, .ref (ad 16)), (1, .int x1), (2, .int x2), (3, .int x3), (4, .int x4)] hl dX2_placeWith_33 (by decide) rfl (fun ls hl => ?_)
        refine z_aload_n C (i := 0) (k := 1) hl dX2_placeWith_35 rfl rfl ?_
        refine z_getr C 16 2 17 fw_X2_9 sh_16 rfl dX2_placeWith_36 ?_
        refine z_iload C (i := 5) (k := 0) hl dX2_placeWith_39 rfl ?_
        obtain ⟨hi6, h⟩ := gd h
        refine z_iald C 17 4096 sh_17 hi6 dX2_placeWith_41 ?_
        refine z_iload_n C (i := 1) (k := 2) hl dX2_placeWith_42 rfl rfl ?_
        refine z_icmp_le C 52 dX2_placeWith_43 (by decide) (fun hc7 => ?_) (fun hc7 => ?_)
        · replace h := (if_pos hc7).symm.trans h
          refine z_iload C (i := 5) (k := 0) hl dX2_placeWith_52 rfl ?_
          refine z_iconst C (1 : Int32) dX2_placeWith_54 (by decide) ?_
          refine z_iadd C dX2_placeWith_55 ?_
          refine z_istore_n C (i := 2) [(2, .int (((x2 + x3) / (2 : Int32)) + (1 : Int32))), (5, .int ((x2 + x3) / (2 : Int32))), (0, .ref (ad 16)), (1, .int x1), (3, .int x3), (4, .int x4)] hl dX2_placeWith_56 rfl (by decide) rfl (fun ls hl => ?_)
          refine z_iinc C (i := 4) (k := 5) (x4 + (1 : Int32)) [(4, .int (x4 + (1 : Int32))), (2, .int (((x2 + x3) / (2 : Int32)) + (1 : Int32))), (5, .int ((x2 + x3) / (2 : Int32))), (0, .ref (ad 16)), (1, .int x1), (3, .int x3)] hl dX2_placeWith_57 rfl rfl (by decide) rfl (fun ls hl => ?_)
          refine z_goto C 15 dX2_placeWith_60 (by decide) ?_
          exact ih _ _ _ _ h _ (lv_sub hl [3, 4, 1, 5, 0] rfl)
        · replace h := (if_neg hc7).symm.trans h
          refine z_iload C (i := 5) (k := 0) hl dX2_placeWith_46 rfl ?_
          refine z_istore_n C (i := 3) [(3, .int ((x2 + x3) / (2 : Int32))), (5, .int ((x2 + x3) / (2 : Int32))), (0, .ref (ad 16)), (1, .int x1), (2, .int x2), (4, .int x4)] hl dX2_placeWith_48 rfl (by decide) rfl (fun ls hl => ?_)
          refine z_goto C 57 dX2_placeWith_49 (by decide) ?_
          refine z_iinc C (i := 4) (k := 5) (x4 + (1 : Int32)) [(4, .int (x4 + (1 : Int32))), (3, .int ((x2 + x3) / (2 : Int32))), (5, .int ((x2 + x3) / (2 : Int32))), (0, .ref (ad 16)), (1, .int x1), (2, .int x2)] hl dX2_placeWith_57 rfl rfl (by decide) rfl (fun ls hl => ?_)
          refine z_goto C 15 dX2_placeWith_60 (by decide) ?_
          exact ih _ _ _ _ h _ (lv_sub hl [3, 4, 5, 1, 0] rfl)
set_option maxRecDepth 20000 in
set_option maxHeartbeats 4000000 in
theorem m_X2_placeWith (F : Nat) (x1 : Int32) (u : St) (r : Int32) (u' : St)  (h : f_X2_placeWith F x1 u = some (r, u')) : Mt yX2_placeWith cX2_placeWith 6 (some .int) 1 (fun ad => [.ref (ad 16), .int x1]) u (fun _ => some (.int r)) u' := by
  refine Mt.of (by decide) (fun ad => Nat.le_of_ble_eq_true rfl) ?_
  intro p l e s m args below meth c D cA ad ls C hl
  have hl : lv_has ls 6 [(0, .ref (ad 16)), (1, .int x1)] := hl
  unfold f_X2_placeWith at h
  refine z_iconst C (0 : Int32) dX2_placeWith_0 (by decide) ?_
  refine z_istore_n C (i := 2) [(2, .int (0 : Int32)), (0, .ref (ad 16)), (1, .int x1)] hl dX2_placeWith_1 rfl (by decide) rfl (fun ls hl => ?_)
  refine z_aload_n C (i := 0) (k := 1) hl dX2_placeWith_2 rfl rfl ?_
  refine z_getr C 16 1 11 fw_X2_19 sh_16 rfl dX2_placeWith_3 ?_
  obtain ⟨⟨r3, u1⟩, hc2, h⟩ := bnd h
  try dsimp only at h
  refine z_callV C (ci := 10) [] [] [.int r3] (m_X10_size F  _ _ _ hc2) cw_X10_size vw_X10_size ml_X2_31 sh_11 rfl rfl rfl rfl hl.1 (Nat.le_of_ble_eq_true rfl) ⟨Nat.le_of_ble_eq_true rfl, Nat.le_of_ble_eq_true rfl⟩ ⟨Nat.le_refl _, Nat.le_refl _⟩ rfl dX2_placeWith_6 ?_
  refine z_iconst C (1 : Int32) dX2_placeWith_9 (by decide) ?_
  refine z_isub C dX2_placeWith_10 ?_
  refine z_istore_n C (i := 3) [(3, .int (r3 - (1 : Int32))), (2, .int (0 : Int32)), (0, .ref (ad 16)), (1, .int x1)] hl dX2_placeWith_11 rfl (by decide) rfl (fun ls hl => ?_)
  refine z_iconst C (0 : Int32) dX2_placeWith_12 (by decide) ?_
  refine z_istore C (i := 4) [(4, .int (0 : Int32)), (3, .int (r3 - (1 : Int32))), (2, .int (0 : Int32)), (0, .ref (ad 16)), (1, .int x1)] hl dX2_placeWith_13 (by decide) rfl (fun ls hl => ?_)
  obtain ⟨w10, hw11, h⟩ := bnd h
  refine zl_X2_placeWith_15 C F x1 (out := w10) (fun ls hl => ?_) F _ _ _ _ hw11 _ (lv_sub hl [3, 4, 2, 1, 0] rfl)
  refine z_iload_n C (i := 2) (k := 2) hl dX2_placeWith_63 rfl rfl ?_
  obtain ⟨rfl, rfl⟩ := r2 h
  exact z_iret C dX2_placeWith_64
