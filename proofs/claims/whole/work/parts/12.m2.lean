def f_X10_placeOf (F : Nat) (x1 : Int32) (u : St) : Option (Int32 × St) := (Option.bind (f_X11_isState F x1 u) (fun w4 => (if w4.1 = 0 then some ((-1 : Int32), w4.2) else (if x1 < 0 ∨ 4096 ≤ x1.toNatClampNeg then none else some ((w4.2.1 13 x1.toNatClampNeg), w4.2)))))
set_option maxRecDepth 20000 in
set_option maxHeartbeats 4000000 in
theorem m_X10_placeOf (F : Nat) (x1 : Int32) (u : St) (r : Int32) (u' : St)  (h : f_X10_placeOf F x1 u = some (r, u')) : Mt yX10_placeOf cX10_placeOf 2 (some .int) 1 (fun ad => [.ref (ad 11), .int x1]) u (fun _ => some (.int r)) u' := by
  refine Mt.of (by decide) (fun ad => Nat.le_of_ble_eq_true rfl) ?_
  intro p l e s m args below meth c D cA ad ls C hl
  have hl : lv_has ls 2 [(0, .ref (ad 11)), (1, .int x1)] := hl
  unfold f_X10_placeOf at h
  refine z_iload_n C (i := 1) (k := 1) hl dX10_placeOf_0 rfl rfl ?_
  obtain ⟨⟨r3, u1⟩, hc2, h⟩ := bnd h
  try dsimp only at h
  refine z_callSN C [.int x1] [] [.int r3] (m_X11_isState F _ _ _ _ hc2) cw_X11_isState sw_X11_isState mn_X10_67 rfl rfl rfl hl.1 (Nat.le_of_ble_eq_true rfl) ⟨Nat.le_of_ble_eq_true rfl, Nat.le_of_ble_eq_true rfl⟩ ⟨Nat.le_refl _, Nat.le_refl _⟩ rfl dX10_placeOf_1 ?_
  refine z_if_eq C 16 dX10_placeOf_4 (by decide) (fun hc6 => ?_) (fun hc6 => ?_)
  · replace h := (if_pos hc6).symm.trans h
    refine z_iconst C (-1 : Int32) dX10_placeOf_16 (by decide) ?_
    obtain ⟨rfl, rfl⟩ := r2 h
    exact z_iret C dX10_placeOf_17
  · replace h := (if_neg hc6).symm.trans h
    refine z_aload_n C (i := 0) (k := 0) hl dX10_placeOf_7 rfl rfl ?_
    refine z_getr C 11 2 13 fw_X10_15 sh_11 rfl dX10_placeOf_8 ?_
    refine z_iload_n C (i := 1) (k := 1) hl dX10_placeOf_11 rfl rfl ?_
    obtain ⟨hi5, h⟩ := gd h
    refine z_iald C 13 4096 sh_13 hi5 dX10_placeOf_12 ?_
    refine z_goto C 17 dX10_placeOf_13 (by decide) ?_
    obtain ⟨rfl, rfl⟩ := r2 h
    exact z_iret C dX10_placeOf_17
def b_X10_wayLength_18 (F : Nat)  (rec : Int32 → Int32 → Int32 → St → Option (Int32 × Int32 × Int32 × St)) (x2 : Int32) (x3 : Int32) (x4 : Int32) (u : St) : Option (Int32 × Int32 × Int32 × St) := (if (4096 : Int32) ≤ x4 then some (x2, x3, x4, u) else (if x3 < 0 ∨ 4096 ≤ x3.toNatClampNeg then none else (if (u.1 14 x3.toNatClampNeg) = (-1 : Int32) then some (x2, x3, x4, u) else (if x3 < 0 ∨ 4096 ≤ x3.toNatClampNeg then none else rec ((x2 + (1 : Int32))) ((x3 ^^^ ((1 : Int32) <<< ((u.1 14 x3.toNatClampNeg) &&& 31)))) ((x4 + (1 : Int32))) u))))
def l_X10_wayLength_18 (F : Nat)  : Nat → Int32 → Int32 → Int32 → St → Option (Int32 × Int32 × Int32 × St)
  | 0, _, _, _, _ => none
  | k + 1, x2, x3, x4, u => b_X10_wayLength_18 F  (l_X10_wayLength_18 F  k) x2 x3 x4 u
def f_X10_wayLength (F : Nat) (x1 : Int32) (u : St) : Option (Int32 × St) := (Option.bind (f_X10_placeOf F x1 u) (fun w4 => (if w4.1 = (-1 : Int32) then some ((-1 : Int32), w4.2) else (Option.bind (l_X10_wayLength_18 F  F (0 : Int32) x1 (0 : Int32) w4.2) (fun w9 => some (w9.1, w9.2.2.2))))))
set_option maxRecDepth 20000 in
set_option maxHeartbeats 4000000 in
theorem zl_X10_wayLength_18 {p : Program} {l : Launch} {e : Env} {s : State} {m : MethodId} {args : Array Value} {below : List Frame} {meth : Method} {c : Code} {D : va_G} {cA : Nat → ClassId} {ad : Nat → Nat} {Q : State → Prop} (C : Cx SH p s m args meth c cX10_wayLength 5 (some .int) RX10 D cA ad (inAd ad)) (F : Nat)   {out : Int32 × Int32 × Int32 × St}  (K : ∀ ls : Array Slot, lv_has ls 5 [(0, .ref (ad 11)), (2, .int out.1), (3, .int out.2.1), (4, .int out.2.2.1)] → Z SH p l e (rmD 2) s m args below meth c D cA ad (inAd ad) 0 0 Q out.2.2.2 56 ls []) : ∀ (k : Nat) (x2 : Int32) (x3 : Int32) (x4 : Int32) (u : St), l_X10_wayLength_18 F  k x2 x3 x4 u = some out → ∀ ls : Array Slot, lv_has ls 5 [(0, .ref (ad 11)), (2, .int x2), (3, .int x3), (4, .int x4)] → Z SH p l e (rmD 2) s m args below meth c D cA ad (inAd ad) 0 0 Q u 18 ls [] := by
  intro k
  induction k with
  | zero => intro x2 x3 x4 u h; cases h
  | succ k ih =>
    intro x2 x3 x4 u h ls hl
    replace h : b_X10_wayLength_18 F  (l_X10_wayLength_18 F  k) x2 x3 x4 u = some out := h
    unfold b_X10_wayLength_18 at h
    refine z_iload C (i := 4) (k := 3) hl dX10_wayLength_18 rfl ?_
    refine z_sipush C (4096 : Int32) dX10_wayLength_20 (by decide) ?_
    refine z_icmp_ge C 56 dX10_wayLength_23 (by decide) (fun hc8 => ?_) (fun hc8 => ?_)
    · replace h := (if_pos hc8).symm.trans h
      obtain rfl := Option.some.inj h
      exact K _ (lv_sub hl [0, 1, 2, 3] rfl)
    · replace h := (if_neg hc8).symm.trans h
      refine z_aload_n C (i := 0) (k := 0) hl dX10_wayLength_26 rfl rfl ?_
      refine z_getr C 11 3 14 fw_X10_18 sh_11 rfl dX10_wayLength_27 ?_
      refine z_iload_n C (i := 3) (k := 2) hl dX10_wayLength_30 rfl rfl ?_
      obtain ⟨hi5, h⟩ := gd h
      refine z_iald C 14 4096 sh_14 hi5 dX10_wayLength_31 ?_
      refine z_iconst C (-1 : Int32) dX10_wayLength_32 (by decide) ?_
      refine z_icmp_eq C 56 dX10_wayLength_33 (by decide) (fun hc7 => ?_) (fun hc7 => ?_)
      · replace h := (if_pos hc7).symm.trans h
        obtain rfl := Option.some.inj h
        exact K _ (lv_sub hl [0, 1, 2, 3] rfl)
      · replace h := (if_neg hc7).symm.trans h
        refine z_iload_n C (i := 3) (k := 2) hl dX10_wayLength_36 rfl rfl ?_
        refine z_iconst C (1 : Int32) dX10_wayLength_37 (by decide) ?_
        refine z_aload_n C (i := 0) (k := 0) hl dX10_wayLength_38 rfl rfl ?_
        refine z_getr C 11 3 14 fw_X10_18 sh_11 rfl dX10_wayLength_39 ?_
        refine z_iload_n C (i := 3) (k := 2) hl dX10_wayLength_42 rfl rfl ?_
        obtain ⟨hi6, h⟩ := gd h
        refine z_iald C 14 4096 sh_14 hi6 dX10_wayLength_43 ?_
        refine z_ishl C dX10_wayLength_44 ?_
        refine z_ixor C dX10_wayLength_45 ?_
        refine z_istore_n C (i := 3) [(3, .int (x3 ^^^ ((1 : Int32) <<< ((u.1 14 x3.toNatClampNeg) &&& 31)))), (0, .ref (ad 11)), (2, .int x2), (4, .int x4)] hl dX10_wayLength_46 rfl (by decide) rfl (fun ls hl => ?_)
        refine z_iinc C (i := 2) (k := 2) (x2 + (1 : Int32)) [(2, .int (x2 + (1 : Int32))), (3, .int (x3 ^^^ ((1 : Int32) <<< ((u.1 14 x3.toNatClampNeg) &&& 31)))), (0, .ref (ad 11)), (4, .int x4)] hl dX10_wayLength_47 rfl rfl (by decide) rfl (fun ls hl => ?_)
        refine z_iinc C (i := 4) (k := 3) (x4 + (1 : Int32)) [(4, .int (x4 + (1 : Int32))), (2, .int (x2 + (1 : Int32))), (3, .int (x3 ^^^ ((1 : Int32) <<< ((u.1 14 x3.toNatClampNeg) &&& 31)))), (0, .ref (ad 11))] hl dX10_wayLength_50 rfl rfl (by decide) rfl (fun ls hl => ?_)
        refine z_goto C 18 dX10_wayLength_53 (by decide) ?_
        exact ih _ _ _ _ h _ (lv_sub hl [3, 1, 2, 0] rfl)
set_option maxRecDepth 20000 in
set_option maxHeartbeats 4000000 in
theorem m_X10_wayLength (F : Nat) (x1 : Int32) (u : St) (r : Int32) (u' : St)  (h : f_X10_wayLength F x1 u = some (r, u')) : Mt yX10_wayLength cX10_wayLength 5 (some .int) 2 (fun ad => [.ref (ad 11), .int x1]) u (fun _ => some (.int r)) u' := by
  refine Mt.of (by decide) (fun ad => Nat.le_of_ble_eq_true rfl) ?_
  intro p l e s m args below meth c D cA ad ls C hl
  have hl : lv_has ls 5 [(0, .ref (ad 11)), (1, .int x1)] := hl
  unfold f_X10_wayLength at h
  refine z_aload_n C (i := 0) (k := 0) hl dX10_wayLength_0 rfl rfl ?_
  refine z_iload_n C (i := 1) (k := 1) hl dX10_wayLength_1 rfl rfl ?_
  obtain ⟨⟨r3, u1⟩, hc2, h⟩ := bnd h
  try dsimp only at h
  refine z_callV C (ci := 10) [.int x1] [] [.int r3] (m_X10_placeOf F _ _ _ _ hc2) cw_X10_placeOf vw_X10_placeOf ml_X10_71 sh_11 rfl rfl rfl rfl hl.1 (Nat.le_of_ble_eq_true rfl) ⟨Nat.le_of_ble_eq_true rfl, Nat.le_of_ble_eq_true rfl⟩ ⟨Nat.le_refl _, Nat.le_refl _⟩ rfl dX10_wayLength_2 ?_
  refine z_iconst C (-1 : Int32) dX10_wayLength_5 (by decide) ?_
  refine z_icmp_ne C 11 dX10_wayLength_6 (by decide) (fun hc11 => ?_) (fun hc11 => ?_)
  · replace h := (if_neg hc11).symm.trans h
    refine z_iconst C (0 : Int32) dX10_wayLength_11 (by decide) ?_
    refine z_istore_n C (i := 2) [(2, .int (0 : Int32)), (0, .ref (ad 11)), (1, .int x1)] hl dX10_wayLength_12 rfl (by decide) rfl (fun ls hl => ?_)
    refine z_iload_n C (i := 1) (k := 2) hl dX10_wayLength_13 rfl rfl ?_
    refine z_istore_n C (i := 3) [(3, .int x1), (2, .int (0 : Int32)), (0, .ref (ad 11)), (1, .int x1)] hl dX10_wayLength_14 rfl (by decide) rfl (fun ls hl => ?_)
    refine z_iconst C (0 : Int32) dX10_wayLength_15 (by decide) ?_
    refine z_istore C (i := 4) [(4, .int (0 : Int32)), (3, .int x1), (2, .int (0 : Int32)), (0, .ref (ad 11)), (1, .int x1)] hl dX10_wayLength_16 (by decide) rfl (fun ls hl => ?_)
    obtain ⟨w9, hw10, h⟩ := bnd h
    refine zl_X10_wayLength_18 C F (out := w9) (fun ls hl => ?_) F _ _ _ _ hw10 _ (lv_sub hl [3, 2, 1, 0] rfl)
    refine z_iload_n C (i := 2) (k := 1) hl dX10_wayLength_56 rfl rfl ?_
    obtain ⟨rfl, rfl⟩ := r2 h
    exact z_iret C dX10_wayLength_57
  · replace h := (if_pos hc11).symm.trans h
    refine z_iconst C (-1 : Int32) dX10_wayLength_9 (by decide) ?_
    obtain ⟨rfl, rfl⟩ := r2 h
    exact z_iret C dX10_wayLength_10
def b_X10_wayStep_25 (F : Nat) (x2 : Int32) (rec : Int32 → Int32 → St → Option (Int32 × Int32 × St)) (x4 : Int32) (x5 : Int32) (u : St) : Option (Int32 × Int32 × St) := (if x5 ≤ x2 then some (x4, x5, u) else (if x4 < 0 ∨ 4096 ≤ x4.toNatClampNeg then none else rec ((x4 ^^^ ((1 : Int32) <<< ((u.1 14 x4.toNatClampNeg) &&& 31)))) ((x5 + (-1 : Int32))) u))
def l_X10_wayStep_25 (F : Nat) (x2 : Int32) : Nat → Int32 → Int32 → St → Option (Int32 × Int32 × St)
  | 0, _, _, _ => none
  | k + 1, x4, x5, u => b_X10_wayStep_25 F x2 (l_X10_wayStep_25 F x2 k) x4 x5 u
def f_X10_wayStep (F : Nat) (x1 : Int32) (x2 : Int32) (u : St) : Option (Int32 × St) := (Option.bind (f_X10_wayLength F x1 u) (fun w4 => (if x2 < 0 then some ((-1 : Int32), w4.2) else (if x2 < w4.1 then (Option.bind (l_X10_wayStep_25 F x2 F x1 (w4.1 - (1 : Int32)) w4.2) (fun w7 => (if w7.1 < 0 ∨ 4096 ≤ w7.1.toNatClampNeg then none else some ((w7.2.2.1 14 w7.1.toNatClampNeg), w7.2.2)))) else some ((-1 : Int32), w4.2)))))
set_option maxRecDepth 20000 in
set_option maxHeartbeats 4000000 in
theorem zl_X10_wayStep_25 {p : Program} {l : Launch} {e : Env} {s : State} {m : MethodId} {args : Array Value} {below : List Frame} {meth : Method} {c : Code} {D : va_G} {cA : Nat → ClassId} {ad : Nat → Nat} {Q : State → Prop} (C : Cx SH p s m args meth c cX10_wayStep 6 (some .int) RX10 D cA ad (inAd ad)) (F : Nat) (x2 : Int32)  {out : Int32 × Int32 × St}  (K : ∀ ls : Array Slot, lv_has ls 6 [(0, .ref (ad 11)), (2, .int x2), (4, .int out.1), (5, .int out.2.1)] → Z SH p l e (rmD 3) s m args below meth c D cA ad (inAd ad) 0 0 Q out.2.2 51 ls []) : ∀ (k : Nat) (x4 : Int32) (x5 : Int32) (u : St), l_X10_wayStep_25 F x2 k x4 x5 u = some out → ∀ ls : Array Slot, lv_has ls 6 [(0, .ref (ad 11)), (2, .int x2), (4, .int x4), (5, .int x5)] → Z SH p l e (rmD 3) s m args below meth c D cA ad (inAd ad) 0 0 Q u 25 ls [] := by
  intro k
  induction k with
  | zero => intro x4 x5 u h; cases h
  | succ k ih =>
    intro x4 x5 u h ls hl
    replace h : b_X10_wayStep_25 F x2 (l_X10_wayStep_25 F x2 k) x4 x5 u = some out := h
    unfold b_X10_wayStep_25 at h
    refine z_iload C (i := 5) (k := 3) hl dX10_wayStep_25 rfl ?_
    refine z_iload_n C (i := 2) (k := 1) hl dX10_wayStep_27 rfl rfl ?_
    refine z_icmp_le C 51 dX10_wayStep_28 (by decide) (fun hc6 => ?_) (fun hc6 => ?_)
    · replace h := (if_pos hc6).symm.trans h
      obtain rfl := Option.some.inj h
      exact K _ (lv_sub hl [0, 1, 2, 3] rfl)
    · replace h := (if_neg hc6).symm.trans h
      refine z_iload C (i := 4) (k := 2) hl dX10_wayStep_31 rfl ?_
      refine z_iconst C (1 : Int32) dX10_wayStep_33 (by decide) ?_
      refine z_aload_n C (i := 0) (k := 0) hl dX10_wayStep_34 rfl rfl ?_
      refine z_getr C 11 3 14 fw_X10_18 sh_11 rfl dX10_wayStep_35 ?_
      refine z_iload C (i := 4) (k := 2) hl dX10_wayStep_38 rfl ?_
      obtain ⟨hi5, h⟩ := gd h
      refine z_iald C 14 4096 sh_14 hi5 dX10_wayStep_40 ?_
      refine z_ishl C dX10_wayStep_41 ?_
      refine z_ixor C dX10_wayStep_42 ?_
      refine z_istore C (i := 4) [(4, .int (x4 ^^^ ((1 : Int32) <<< ((u.1 14 x4.toNatClampNeg) &&& 31)))), (0, .ref (ad 11)), (2, .int x2), (5, .int x5)] hl dX10_wayStep_43 (by decide) rfl (fun ls hl => ?_)
      refine z_iinc C (i := 5) (k := 3) (x5 + (-1 : Int32)) [(5, .int (x5 + (-1 : Int32))), (4, .int (x4 ^^^ ((1 : Int32) <<< ((u.1 14 x4.toNatClampNeg) &&& 31)))), (0, .ref (ad 11)), (2, .int x2)] hl dX10_wayStep_45 rfl rfl (by decide) rfl (fun ls hl => ?_)
      refine z_goto C 25 dX10_wayStep_48 (by decide) ?_
      exact ih _ _ _ h _ (lv_sub hl [2, 3, 1, 0] rfl)
set_option maxRecDepth 20000 in
set_option maxHeartbeats 4000000 in
theorem m_X10_wayStep (F : Nat) (x1 : Int32) (x2 : Int32) (u : St) (r : Int32) (u' : St)  (h : f_X10_wayStep F x1 x2 u = some (r, u')) : Mt yX10_wayStep cX10_wayStep 6 (some .int) 3 (fun ad => [.ref (ad 11), .int x1, .int x2]) u (fun _ => some (.int r)) u' := by
  refine Mt.of (by decide) (fun ad => Nat.le_of_ble_eq_true rfl) ?_
  intro p l e s m args below meth c D cA ad ls C hl
  have hl : lv_has ls 6 [(0, .ref (ad 11)), (1, .int x1), (2, .int x2)] := hl
  unfold f_X10_wayStep at h
  refine z_aload_n C (i := 0) (k := 0) hl dX10_wayStep_0 rfl rfl ?_
  refine z_iload_n C (i := 1) (k := 1) hl dX10_wayStep_1 rfl rfl ?_
  obtain ⟨⟨r3, u1⟩, hc2, h⟩ := bnd h
  try dsimp only at h
  refine z_callV C (ci := 10) [.int x1] [] [.int r3] (m_X10_wayLength F _ _ _ _ hc2) cw_X10_wayLength vw_X10_wayLength ml_X10_74 sh_11 rfl rfl rfl rfl hl.1 (Nat.le_of_ble_eq_true rfl) ⟨Nat.le_of_ble_eq_true rfl, Nat.le_of_ble_eq_true rfl⟩ ⟨Nat.le_refl _, Nat.le_refl _⟩ rfl dX10_wayStep_2 ?_
  refine z_istore_n C (i := 3) [(3, .int r3), (0, .ref (ad 11)), (1, .int x1), (2, .int x2)] hl dX10_wayStep_5 rfl (by decide) rfl (fun ls hl => ?_)
  refine z_iload_n C (i := 2) (k := 3) hl dX10_wayStep_6 rfl rfl ?_
  refine z_if_lt C 15 dX10_wayStep_7 (by decide) (fun hc11 => ?_) (fun hc11 => ?_)
  · replace h := (if_pos hc11).symm.trans h
    refine z_iconst C (-1 : Int32) dX10_wayStep_15 (by decide) ?_
    obtain ⟨rfl, rfl⟩ := r2 h
    exact z_iret C dX10_wayStep_16
  · replace h := (if_neg hc11).symm.trans h
    refine z_iload_n C (i := 2) (k := 3) hl dX10_wayStep_10 rfl rfl ?_
    refine z_iload_n C (i := 3) (k := 0) hl dX10_wayStep_11 rfl rfl ?_
    refine z_icmp_lt C 17 dX10_wayStep_12 (by decide) (fun hc10 => ?_) (fun hc10 => ?_)
    · replace h := (if_pos hc10).symm.trans h
      refine z_iload_n C (i := 1) (k := 2) hl dX10_wayStep_17 rfl rfl ?_
      refine z_istore C (i := 4) [(4, .int x1), (3, .int r3), (0, .ref (ad 11)), (1, .int x1), (2, .int x2)] hl dX10_wayStep_18 (by decide) rfl (fun ls hl => ?_)
      refine z_iload_n C (i := 3) (k := 1) hl dX10_wayStep_20 rfl rfl ?_
      refine z_iconst C (1 : Int32) dX10_wayStep_21 (by decide) ?_
      refine z_isub C dX10_wayStep_22 ?_
      refine z_istore C (i := 5) [(5, .int (r3 - (1 : Int32))), (4, .int x1), (3, .int r3), (0, .ref (ad 11)), (1, .int x1), (2, .int x2)] hl dX10_wayStep_23 (by decide) rfl (fun ls hl => ?_)
      obtain ⟨w7, hw8, h⟩ := bnd h
      refine zl_X10_wayStep_25 C F x2 (out := w7) (fun ls hl => ?_) F _ _ _ hw8 _ (lv_sub hl [3, 5, 1, 0] rfl)
      refine z_aload_n C (i := 0) (k := 0) hl dX10_wayStep_51 rfl rfl ?_
      refine z_getr C 11 3 14 fw_X10_18 sh_11 rfl dX10_wayStep_52 ?_
      refine z_iload C (i := 4) (k := 2) hl dX10_wayStep_55 rfl ?_
      obtain ⟨hi9, h⟩ := gd h
      refine z_iald C 14 4096 sh_14 hi9 dX10_wayStep_57 ?_
      obtain ⟨rfl, rfl⟩ := r2 h
      exact z_iret C dX10_wayStep_58
    · replace h := (if_neg hc10).symm.trans h
      refine z_iconst C (-1 : Int32) dX10_wayStep_15 (by decide) ?_
      obtain ⟨rfl, rfl⟩ := r2 h
      exact z_iret C dX10_wayStep_16
def f_X11_change (F : Nat) (x1 : Int32) (x2 : Int32) (u : St) : Option (Int32 × St) := (Option.bind (f_X10_renew F u) (fun u1 => (Option.bind (f_X10_wayStep F x1 x2 u1) (fun w6 => some (w6.1, w6.2)))))
set_option maxRecDepth 20000 in
set_option maxHeartbeats 4000000 in
theorem m_X11_change (F : Nat) (x1 : Int32) (x2 : Int32) (u : St) (r : Int32) (u' : St)  (h : f_X11_change F x1 x2 u = some (r, u')) : Mt yX11_change cX11_change 3 (some .int) 4 (fun ad => [.ref (ad 0), .int x1, .int x2]) u (fun _ => some (.int r)) u' := by
  refine Mt.of (by decide) (fun ad => Nat.le_of_ble_eq_true rfl) ?_
  intro p l e s m args below meth c D cA ad ls C hl
  have hl : lv_has ls 3 [(0, .ref (ad 0)), (1, .int x1), (2, .int x2)] := hl
  unfold f_X11_change at h
  refine z_aload_n C (i := 0) (k := 0) hl dX11_change_0 rfl rfl ?_
  refine z_getr C 0 3 11 fw_X11_37 sh_0 rfl dX11_change_1 ?_
  obtain ⟨u1, hc2, h⟩ := bnd h
  refine z_callV C (ci := 10) [] [] [] (m_X10_renew F  _ _ hc2) cw_X10_renew vw_X10_renew ml_X11_144 sh_11 rfl rfl rfl rfl hl.1 (Nat.le_of_ble_eq_true rfl) ⟨Nat.le_of_ble_eq_true rfl, Nat.le_of_ble_eq_true rfl⟩ ⟨Nat.le_refl _, Nat.le_refl _⟩ rfl dX11_change_4 ?_
  refine z_aload_n C (i := 0) (k := 0) hl dX11_change_7 rfl rfl ?_
  refine z_getr C 0 3 11 fw_X11_37 sh_0 rfl dX11_change_8 ?_
  refine z_iload_n C (i := 1) (k := 1) hl dX11_change_11 rfl rfl ?_
  refine z_iload_n C (i := 2) (k := 2) hl dX11_change_12 rfl rfl ?_
  obtain ⟨⟨r5, u3⟩, hc4, h⟩ := bnd h
  try dsimp only at h
  refine z_callV C (ci := 10) [.int x1, .int x2] [] [.int r5] (m_X10_wayStep F _ _ _ _ _ hc4) cw_X10_wayStep vw_X10_wayStep ml_X11_165 sh_11 rfl rfl rfl rfl hl.1 (Nat.le_of_ble_eq_true rfl) ⟨Nat.le_of_ble_eq_true rfl, Nat.le_of_ble_eq_true rfl⟩ ⟨Nat.le_refl _, Nat.le_refl _⟩ rfl dX11_change_13 ?_
  obtain ⟨rfl, rfl⟩ := r2 h
  exact z_iret C dX11_change_16
def b_X0_signalInPlace_4 (F : Nat) (x0 : Int32) (x1 : Int32) (rec : Int32 → Int32 → St → Option ((Int32 × St) ⊕ (Int32 × Int32 × St))) (x2 : Int32) (x3 : Int32) (u : St) : Option ((Int32 × St) ⊕ (Int32 × Int32 × St)) := (if (12 : Int32) ≤ x3 then some (Sum.inr (x2, x3, u)) else (Option.bind (f_X11_isIn F x0 x3 u) (fun w4 => (if w4.1 = 0 then rec x2 ((x3 + (1 : Int32))) w4.2 else (if x2 = x1 then some (Sum.inl (x3, w4.2)) else rec ((x2 + (1 : Int32))) ((x3 + (1 : Int32))) w4.2)))))
def l_X0_signalInPlace_4 (F : Nat) (x0 : Int32) (x1 : Int32) : Nat → Int32 → Int32 → St → Option ((Int32 × St) ⊕ (Int32 × Int32 × St))
  | 0, _, _, _ => none
  | k + 1, x2, x3, u => b_X0_signalInPlace_4 F x0 x1 (l_X0_signalInPlace_4 F x0 x1 k) x2 x3 u
def f_X0_signalInPlace (F : Nat) (x0 : Int32) (x1 : Int32) (u : St) : Option (Int32 × St) := (Option.bind (l_X0_signalInPlace_4 F x0 x1 F (0 : Int32) (0 : Int32) u) (fun w8 => Sum.elim (fun r => some r) (fun v10 => some ((0 : Int32), v10.2.2)) w8))
set_option maxRecDepth 20000 in
set_option maxHeartbeats 4000000 in
theorem zl_X0_signalInPlace_4 {p : Program} {l : Launch} {e : Env} {s : State} {m : MethodId} {args : Array Value} {below : List Frame} {meth : Method} {c : Code} {D : va_G} {cA : Nat → ClassId} {ad : Nat → Nat} {Q : State → Prop} (C : Cx SH p s m args meth c cX0_signalInPlace 4 (some .int) RX0 D cA ad (inAd ad)) (F : Nat) (x0 : Int32) (x1 : Int32)  {out : (Int32 × St) ⊕ (Int32 × Int32 × St)} (K1 : ∀ (r : Int32) (u' : St), out = .inl (r, u') → ∀ (pc : Nat) (ls : Array Slot), decode cX0_signalInPlace pc = .ok (.ireturn, 1) → Z SH p l e (rmD 1) s m args below meth c D cA ad (inAd ad) 0 0 Q u' pc ls [.int r]) (K : ∀ (v : Int32 × Int32 × St), out = .inr v → ∀ ls : Array Slot, lv_has ls 4 [(0, .int x0), (1, .int x1), (2, .int v.1), (3, .int v.2.1)] → Z SH p l e (rmD 1) s m args below meth c D cA ad (inAd ad) 0 0 Q v.2.2 34 ls []) : ∀ (k : Nat) (x2 : Int32) (x3 : Int32) (u : St), l_X0_signalInPlace_4 F x0 x1 k x2 x3 u = some out → ∀ ls : Array Slot, lv_has ls 4 [(0, .int x0), (1, .int x1), (2, .int x2), (3, .int x3)] → Z SH p l e (rmD 1) s m args below meth c D cA ad (inAd ad) 0 0 Q u 4 ls [] := by
  intro k
  induction k with
  | zero => intro x2 x3 u h; cases h
  | succ k ih =>
    intro x2 x3 u h ls hl
    replace h : b_X0_signalInPlace_4 F x0 x1 (l_X0_signalInPlace_4 F x0 x1 k) x2 x3 u = some out := h
    unfold b_X0_signalInPlace_4 at h
    refine z_iload_n C (i := 3) (k := 3) hl dX0_signalInPlace_4 rfl rfl ?_
    refine z_bipush C (12 : Int32) dX0_signalInPlace_5 (by decide) ?_
    refine z_icmp_ge C 34 dX0_signalInPlace_7 (by decide) (fun hc7 => ?_) (fun hc7 => ?_)
    · replace h := (if_pos hc7).symm.trans h
      exact K _ (Option.some.inj h).symm _ (lv_sub hl [0, 1, 2, 3] rfl)
    · replace h := (if_neg hc7).symm.trans h
      refine z_iload_n C (i := 0) (k := 0) hl dX0_signalInPlace_10 rfl rfl ?_
      refine z_iload_n C (i := 3) (k := 3) hl dX0_signalInPlace_11 rfl rfl ?_
      obtain ⟨⟨r3, u1⟩, hc2, h⟩ := bnd h
      try dsimp only at h
      refine z_callSN C [.int x0, .int x3] [] [.int r3] (m_X11_isIn F _ _ _ _ _ hc2) cw_X11_isIn sw_X11_isIn mn_X0_51 rfl rfl rfl hl.1 (Nat.le_of_ble_eq_true rfl) ⟨Nat.le_of_ble_eq_true rfl, Nat.le_of_ble_eq_true rfl⟩ ⟨Nat.le_refl _, Nat.le_refl _⟩ rfl dX0_signalInPlace_12 ?_
      refine z_if_eq C 28 dX0_signalInPlace_15 (by decide) (fun hc6 => ?_) (fun hc6 => ?_)
      · replace h := (if_pos hc6).symm.trans h
        refine z_iinc C (i := 3) (k := 3) (x3 + (1 : Int32)) [(3, .int (x3 + (1 : Int32))), (0, .int x0), (1, .int x1), (2, .int x2)] hl dX0_signalInPlace_28 rfl rfl (by decide) rfl (fun ls hl => ?_)
        refine z_goto C 4 dX0_signalInPlace_31 (by decide) ?_
        exact ih _ _ _ h _ (lv_sub hl [1, 2, 3, 0] rfl)
      · replace h := (if_neg hc6).symm.trans h
        refine z_iload_n C (i := 2) (k := 2) hl dX0_signalInPlace_18 rfl rfl ?_
        refine z_iload_n C (i := 1) (k := 1) hl dX0_signalInPlace_19 rfl rfl ?_
        refine z_icmp_ne C 25 dX0_signalInPlace_20 (by decide) (fun hc5 => ?_) (fun hc5 => ?_)
        · replace h := (if_neg hc5).symm.trans h
          refine z_iinc C (i := 2) (k := 2) (x2 + (1 : Int32)) [(2, .int (x2 + (1 : Int32))), (0, .int x0), (1, .int x1), (3, .int x3)] hl dX0_signalInPlace_25 rfl rfl (by decide) rfl (fun ls hl => ?_)
          refine z_iinc C (i := 3) (k := 3) (x3 + (1 : Int32)) [(3, .int (x3 + (1 : Int32))), (2, .int (x2 + (1 : Int32))), (0, .int x0), (1, .int x1)] hl dX0_signalInPlace_28 rfl rfl (by decide) rfl (fun ls hl => ?_)
          refine z_goto C 4 dX0_signalInPlace_31 (by decide) ?_
          exact ih _ _ _ h _ (lv_sub hl [2, 3, 1, 0] rfl)
        · replace h := (if_pos hc5).symm.trans h
          refine z_iload_n C (i := 3) (k := 3) hl dX0_signalInPlace_23 rfl rfl ?_
          exact K1 _ _ (Option.some.inj h).symm _ _ dX0_signalInPlace_24
set_option maxRecDepth 20000 in
set_option maxHeartbeats 4000000 in
theorem m_X0_signalInPlace (F : Nat) (x0 : Int32) (x1 : Int32) (u : St) (r : Int32) (u' : St)  (h : f_X0_signalInPlace F x0 x1 u = some (r, u')) : Mt yX0_signalInPlace cX0_signalInPlace 4 (some .int) 1 (fun ad => [.int x0, .int x1]) u (fun _ => some (.int r)) u' := by
  refine Mt.of (by decide) (fun ad => Nat.le_of_ble_eq_true rfl) ?_
  intro p l e s m args below meth c D cA ad ls C hl
  have hl : lv_has ls 4 [(0, .int x0), (1, .int x1)] := hl
  unfold f_X0_signalInPlace at h
  refine z_iconst C (0 : Int32) dX0_signalInPlace_0 (by decide) ?_
  refine z_istore_n C (i := 2) [(2, .int (0 : Int32)), (0, .int x0), (1, .int x1)] hl dX0_signalInPlace_1 rfl (by decide) rfl (fun ls hl => ?_)
  refine z_iconst C (0 : Int32) dX0_signalInPlace_2 (by decide) ?_
  refine z_istore_n C (i := 3) [(3, .int (0 : Int32)), (2, .int (0 : Int32)), (0, .int x0), (1, .int x1)] hl dX0_signalInPlace_3 rfl (by decide) rfl (fun ls hl => ?_)
  obtain ⟨w8, hw9, h⟩ := bnd h
  refine zl_X0_signalInPlace_4 C F x0 x1 (out := w8) (fun r8 u8 e11 pc ls hd => ?_) (fun v10 e11 ls hl => ?_) F _ _ _ hw9 _ (lv_sub hl [2, 3, 1, 0] rfl)
  · subst e11
    obtain ⟨rfl, rfl⟩ := r2 h
    exact z_iret C hd
  · subst e11
    try dsimp only [Sum.elim] at h
    refine z_iconst C (0 : Int32) dX0_signalInPlace_34 (by decide) ?_
    obtain ⟨rfl, rfl⟩ := r2 h
    exact z_iret C dX0_signalInPlace_35
def b_X0_runByLots_18 (F : Nat) (x1 : Int32) (rec : Int32 → Int64 → Int32 → St → Option (Int32 × Int64 × Int32 × St)) (x5 : Int32) (x6 : Int64) (x8 : Int32) (u : St) : Option (Int32 × Int64 × Int32 × St) := (if x1 ≤ x8 then some (x5, x6, x8, u) else (Option.bind (f_X0_askedIn F x5 u) (fun w4 => (Option.bind (f_J6_bitCount_0f7a4 F w4.1 w4.2) (fun w8 => (if w8.1 = 0 then some (x5, x6, x8, w8.2) else (if (w8.1.toInt64) = 0 then none else (Option.bind (f_X0_signalInPlace F w4.1 (((lushr ((x6 * (6364136223846793005 : Int64)) + (1442695040888963407 : Int64)) (33 : Int32)) - (lushr ((x6 * (6364136223846793005 : Int64)) + (1442695040888963407 : Int64)) (33 : Int32)) / (w8.1.toInt64) * (w8.1.toInt64)).toInt32) w8.2) (fun w13 => (if w13.1 < 0 ∨ 12 ≤ w13.1.toNatClampNeg then none else (if w13.1 < 0 ∨ 12 ≤ w13.1.toNatClampNeg then none else rec ((x5 ^^^ ((1 : Int32) <<< (w13.1 &&& 31)))) (((x6 * (6364136223846793005 : Int64)) + (1442695040888963407 : Int64))) ((x8 + (1 : Int32))) (wr w13.2 21 w13.1.toNatClampNeg ((w13.2.1 21 w13.1.toNatClampNeg) + (1 : Int32))))))))))))))
def l_X0_runByLots_18 (F : Nat) (x1 : Int32) : Nat → Int32 → Int64 → Int32 → St → Option (Int32 × Int64 × Int32 × St)
  | 0, _, _, _, _ => none
  | k + 1, x5, x6, x8, u => b_X0_runByLots_18 F x1 (l_X0_runByLots_18 F x1 k) x5 x6 x8 u
def f_X0_runByLots (F : Nat) (x1 : Int32) (x2 : Int64) (u : St) : Option (Int32 × St) := (Option.bind (l_X0_runByLots_18 F x1 F ((fil u 21 12 (0 : Int32)).1 4 3) x2 (0 : Int32) (fil u 21 12 (0 : Int32))) (fun w18 => some (w18.1, w18.2.2.2)))
set_option maxRecDepth 20000 in
set_option maxHeartbeats 4000000 in
theorem zl_X0_runByLots_18 {p : Program} {l : Launch} {e : Env} {s : State} {m : MethodId} {args : Array Value} {below : List Frame} {meth : Method} {c : Code} {D : va_G} {cA : Nat → ClassId} {ad : Nat → Nat} {Q : State → Prop} (C : Cx SH p s m args meth c cX0_runByLots 12 (some .int) RX0 D cA ad (inAd ad)) (F : Nat) (x1 : Int32)  {out : Int32 × Int64 × Int32 × St}  (K : ∀ ls : Array Slot, lv_has ls 12 [(0, .ref (ad 4)), (1, .int x1), (4, .ref (ad 21)), (5, .int out.1), (6, .long out.2.1), (8, .int out.2.2.1)] → Z SH p l e (rmD 2) s m args below meth c D cA ad (inAd ad) 0 0 Q out.2.2.2 100 ls []) : ∀ (k : Nat) (x5 : Int32) (x6 : Int64) (x8 : Int32) (u : St), l_X0_runByLots_18 F x1 k x5 x6 x8 u = some out → ∀ ls : Array Slot, lv_has ls 12 [(0, .ref (ad 4)), (1, .int x1), (4, .ref (ad 21)), (5, .int x5), (6, .long x6), (8, .int x8)] → Z SH p l e (rmD 2) s m args below meth c D cA ad (inAd ad) 0 0 Q u 18 ls [] := by
  intro k
  induction k with
  | zero => intro x5 x6 x8 u h; cases h
  | succ k ih =>
    intro x5 x6 x8 u h ls hl
    replace h : b_X0_runByLots_18 F x1 (l_X0_runByLots_18 F x1 k) x5 x6 x8 u = some out := h
    unfold b_X0_runByLots_18 at h
    refine z_iload C (i := 8) (k := 5) hl dX0_runByLots_18 rfl ?_
    refine z_iload_n C (i := 1) (k := 1) hl dX0_runByLots_20 rfl rfl ?_
    refine z_icmp_ge C 100 dX0_runByLots_21 (by decide) (fun hc17 => ?_) (fun hc17 => ?_)
    · replace h := (if_pos hc17).symm.trans h
      obtain rfl := Option.some.inj h
      exact K _ (lv_sub hl [0, 1, 2, 3, 4, 5] rfl)
    · replace h := (if_neg hc17).symm.trans h
      refine z_aload_n C (i := 0) (k := 0) hl dX0_runByLots_24 rfl rfl ?_
      refine z_iload C (i := 5) (k := 3) hl dX0_runByLots_25 rfl ?_
      obtain ⟨⟨r3, u1⟩, hc2, h⟩ := bnd h
      try dsimp only at h
      refine z_callV C (ci := 0) [.int x5] [] [.int r3] (m_X0_askedIn F _ _ _ _ hc2) cw_X0_askedIn vw_X0_askedIn ml_X0_58 sh_4 rfl rfl rfl rfl hl.1 (Nat.le_of_ble_eq_true rfl) ⟨Nat.le_of_ble_eq_true rfl, Nat.le_of_ble_eq_true rfl⟩ ⟨Nat.le_refl _, Nat.le_refl _⟩ rfl dX0_runByLots_27 ?_
      refine z_istore C (i := 9) [(9, .int r3), (0, .ref (ad 4)), (1, .int x1), (4, .ref (ad 21)), (5, .int x5), (6, .long x6), (8, .int x8)] hl dX0_runByLots_30 (by decide) rfl (fun ls hl => ?_)
      refine z_iload C (i := 9) (k := 0) hl dX0_runByLots_32 rfl ?_
      obtain ⟨⟨r7, u5⟩, hc6, h⟩ := bnd h
      try dsimp only at h
      refine z_callS C [.int r3] [] [.int r7] (m_J6_bitCount_0f7a4 F _ _ _ _ hc6) cw_J6_bitCount_0f7a4 sw_J6_bitCount_0f7a4 ml_X0_42 rfl rfl rfl hl.1 (Nat.le_of_ble_eq_true rfl) ⟨Nat.le_of_ble_eq_true rfl, Nat.le_of_ble_eq_true rfl⟩ ⟨Nat.le_refl _, Nat.le_refl _⟩ rfl dX0_runByLots_34 ?_
      refine z_istore C (i := 10) [(10, .int r7), (9, .int r3), (0, .ref (ad 4)), (1, .int x1), (4, .ref (ad 21)), (5, .int x5), (6, .long x6), (8, .int x8)] hl dX0_runByLots_37 (by decide) rfl (fun ls hl => ?_)
      refine z_iload C (i := 10) (k := 0) hl dX0_runByLots_39 rfl ?_
      refine z_if_ne C 47 dX0_runByLots_41 (by decide) (fun hc16 => ?_) (fun hc16 => ?_)
      · replace h := (if_neg hc16).symm.trans h
        refine z_lload C (i := 6) (k := 6) hl dX0_runByLots_47 rfl ?_
        refine z_ldc2 C (v := (6364136223846793005 : Int64)) kw_X0_61 dX0_runByLots_49 ?_
        refine z_lmul C dX0_runByLots_52 ?_
        refine z_ldc2 C (v := (1442695040888963407 : Int64)) kw_X0_63 dX0_runByLots_53 ?_
        refine z_ladd C dX0_runByLots_56 ?_
        refine z_lstore C (i := 6) [(6, .long ((x6 * (6364136223846793005 : Int64)) + (1442695040888963407 : Int64))), (10, .int r7), (9, .int r3), (0, .ref (ad 4)), (1, .int x1), (4, .ref (ad 21)), (5, .int x5), (8, .int x8)] hl dX0_runByLots_57 (by decide) rfl (fun ls hl => ?_)
        refine z_iload C (i := 9) (k := 2) hl dX0_runByLots_59 rfl ?_
        refine z_lload C (i := 6) (k := 0) hl dX0_runByLots_61 rfl ?_
        refine z_bipush C (33 : Int32) dX0_runByLots_63 (by decide) ?_
        refine z_lushr C dX0_runByLots_65 ?_
        refine z_iload C (i := 10) (k := 1) hl dX0_runByLots_66 rfl ?_
        refine z_i2l C dX0_runByLots_68 ?_
        obtain ⟨hn9, h⟩ := gd h
        refine z_lrem C dX0_runByLots_69 hn9 ?_
        refine z_l2i C dX0_runByLots_70 ?_
        obtain ⟨⟨r12, u10⟩, hc11, h⟩ := bnd h
        try dsimp only at h
        refine z_callS C [.int r3, .int (((lushr ((x6 * (6364136223846793005 : Int64)) + (1442695040888963407 : Int64)) (33 : Int32)) - (lushr ((x6 * (6364136223846793005 : Int64)) + (1442695040888963407 : Int64)) (33 : Int32)) / (r7.toInt64) * (r7.toInt64)).toInt32)] [] [.int r12] (m_X0_signalInPlace F _ _ _ _ _ hc11) cw_X0_signalInPlace sw_X0_signalInPlace ml_X0_65 rfl rfl rfl hl.1 (Nat.le_of_ble_eq_true rfl) ⟨Nat.le_of_ble_eq_true rfl, Nat.le_of_ble_eq_true rfl⟩ ⟨Nat.le_refl _, Nat.le_refl _⟩ rfl dX0_runByLots_71 ?_
        refine z_istore C (i := 11) [(11, .int r12), (6, .long ((x6 * (6364136223846793005 : Int64)) + (1442695040888963407 : Int64))), (10, .int r7), (9, .int r3), (0, .ref (ad 4)), (1, .int x1), (4, .ref (ad 21)), (5, .int x5), (8, .int x8)] hl dX0_runByLots_74 (by decide) rfl (fun ls hl => ?_)
        refine z_iload C (i := 5) (k := 7) hl dX0_runByLots_76 rfl ?_
        refine z_iconst C (1 : Int32) dX0_runByLots_78 (by decide) ?_
        refine z_iload C (i := 11) (k := 0) hl dX0_runByLots_79 rfl ?_
        refine z_ishl C dX0_runByLots_81 ?_
        refine z_ixor C dX0_runByLots_82 ?_
        refine z_istore C (i := 5) [(5, .int (x5 ^^^ ((1 : Int32) <<< (r12 &&& 31)))), (11, .int r12), (6, .long ((x6 * (6364136223846793005 : Int64)) + (1442695040888963407 : Int64))), (10, .int r7), (9, .int r3), (0, .ref (ad 4)), (1, .int x1), (4, .ref (ad 21)), (8, .int x8)] hl dX0_runByLots_83 (by decide) rfl (fun ls hl => ?_)
        refine z_aload C (i := 4) (k := 7) hl dX0_runByLots_85 rfl ?_
        refine z_iload C (i := 11) (k := 1) hl dX0_runByLots_87 rfl ?_
        refine z_dup2 C dX0_runByLots_89 rfl rfl ?_
        obtain ⟨hi14, h⟩ := gd h
        refine z_iald C 21 12 sh_21 hi14 dX0_runByLots_90 ?_
        refine z_iconst C (1 : Int32) dX0_runByLots_91 (by decide) ?_
        refine z_iadd C dX0_runByLots_92 ?_
        obtain ⟨hi15, h⟩ := gd h
        refine z_iast C 21 12 sh_21 hi15 dX0_runByLots_93 ?_
        refine z_iinc C (i := 8) (k := 8) (x8 + (1 : Int32)) [(8, .int (x8 + (1 : Int32))), (5, .int (x5 ^^^ ((1 : Int32) <<< (r12 &&& 31)))), (11, .int r12), (6, .long ((x6 * (6364136223846793005 : Int64)) + (1442695040888963407 : Int64))), (10, .int r7), (9, .int r3), (0, .ref (ad 4)), (1, .int x1), (4, .ref (ad 21))] hl dX0_runByLots_94 rfl rfl (by decide) rfl (fun ls hl => ?_)
        refine z_goto C 18 dX0_runByLots_97 (by decide) ?_
        exact ih _ _ _ _ h _ (lv_sub hl [6, 7, 8, 1, 3, 0] rfl)
      · replace h := (if_pos hc16).symm.trans h
        refine z_goto C 100 dX0_runByLots_44 (by decide) ?_
        obtain rfl := Option.some.inj h
        exact K _ (lv_sub hl [2, 3, 4, 5, 6, 7] rfl)
set_option maxRecDepth 20000 in
set_option maxHeartbeats 4000000 in
theorem m_X0_runByLots (F : Nat) (x1 : Int32) (x2 : Int64) (u : St) (r : Int32) (u' : St)  (h : f_X0_runByLots F x1 x2 u = some (r, u')) : Mt yX0_runByLots cX0_runByLots 12 (some .int) 2 (fun ad => [.ref (ad 4), .int x1, .long x2, .ref (ad 21)]) u (fun _ => some (.int r)) u' := by
  refine Mt.of (by decide) (fun ad => Nat.le_of_ble_eq_true rfl) ?_
  intro p l e s m args below meth c D cA ad ls C hl
  have hl : lv_has ls 12 [(0, .ref (ad 4)), (1, .int x1), (2, .long x2), (4, .ref (ad 21))] := hl
  unfold f_X0_runByLots at h
  refine z_aload C (i := 4) (k := 3) hl dX0_runByLots_0 rfl ?_
  refine z_iconst C (0 : Int32) dX0_runByLots_2 (by decide) ?_
  refine z_callS C [.ref (ad 21), .int (0 : Int32)] [] [] (m_fill 21 12 (0 : Int32) u (by decide) sh_21) cw_J7_fill_53178 sw_J7_fill_53178 ml_X0_25 rfl rfl rfl hl.1 (Nat.le_of_ble_eq_true rfl) ⟨Nat.le_of_ble_eq_true rfl, Nat.le_of_ble_eq_true rfl⟩ ⟨Nat.le_refl _, Nat.le_refl _⟩ rfl dX0_runByLots_3 ?_
  refine z_aload_n C (i := 0) (k := 0) hl dX0_runByLots_6 rfl rfl ?_
  refine z_geti C 4 3 fw_X0_31 sh_4 rfl dX0_runByLots_7 ?_
  refine z_istore C (i := 5) [(5, .int ((fil u 21 12 (0 : Int32)).1 4 3)), (0, .ref (ad 4)), (1, .int x1), (2, .long x2), (4, .ref (ad 21))] hl dX0_runByLots_10 (by decide) rfl (fun ls hl => ?_)
  refine z_lload_n C (i := 2) (k := 3) hl dX0_runByLots_12 rfl rfl ?_
  refine z_lstore C (i := 6) [(6, .long x2), (5, .int ((fil u 21 12 (0 : Int32)).1 4 3)), (0, .ref (ad 4)), (1, .int x1), (2, .long x2), (4, .ref (ad 21))] hl dX0_runByLots_13 (by decide) rfl (fun ls hl => ?_)
  refine z_iconst C (0 : Int32) dX0_runByLots_15 (by decide) ?_
  refine z_istore C (i := 8) [(8, .int (0 : Int32)), (6, .long x2), (5, .int ((fil u 21 12 (0 : Int32)).1 4 3)), (0, .ref (ad 4)), (1, .int x1), (2, .long x2), (4, .ref (ad 21))] hl dX0_runByLots_16 (by decide) rfl (fun ls hl => ?_)
  obtain ⟨w18, hw19, h⟩ := bnd h
  refine zl_X0_runByLots_18 C F x1 (out := w18) (fun ls hl => ?_) F _ _ _ _ hw19 _ (lv_sub hl [3, 4, 6, 2, 1, 0] rfl)
  refine z_iload C (i := 5) (k := 3) hl dX0_runByLots_100 rfl ?_
  obtain ⟨rfl, rfl⟩ := r2 h
  exact z_iret C dX0_runByLots_102
def f_X11_isRunLength (F : Nat) (x0 : Int32) (u : St) : Option (Int32 × St) := (if x0 < 0 then some ((0 : Int32), u) else (if (2000 : Int32) < x0 then some ((0 : Int32), u) else some ((1 : Int32), u)))
set_option maxRecDepth 20000 in
set_option maxHeartbeats 4000000 in
theorem m_X11_isRunLength (F : Nat) (x0 : Int32) (u : St) (r : Int32) (u' : St)  (h : f_X11_isRunLength F x0 u = some (r, u')) : Mt yX11_isRunLength cX11_isRunLength 1 (some .boolean) 0 (fun ad => [.int x0]) u (fun _ => some (.int r)) u' := by
  refine Mt.of (by decide) (fun ad => Nat.le_of_ble_eq_true rfl) ?_
  intro p l e s m args below meth c D cA ad ls C hl
  have hl : lv_has ls 1 [(0, .int x0)] := hl
  unfold f_X11_isRunLength at h
  refine z_iload_n C (i := 0) (k := 0) hl dX11_isRunLength_0 rfl rfl ?_
  refine z_if_lt C 15 dX11_isRunLength_1 (by decide) (fun hc2 => ?_) (fun hc2 => ?_)
  · replace h := (if_pos hc2).symm.trans h
    refine z_iconst C (0 : Int32) dX11_isRunLength_15 (by decide) ?_
    obtain ⟨rfl, rfl⟩ := r2 h
    exact z_zret (by decide) C dX11_isRunLength_16
  · replace h := (if_neg hc2).symm.trans h
    refine z_iload_n C (i := 0) (k := 0) hl dX11_isRunLength_4 rfl rfl ?_
    refine z_sipush C (2000 : Int32) dX11_isRunLength_5 (by decide) ?_
    refine z_icmp_gt C 15 dX11_isRunLength_8 (by decide) (fun hc1 => ?_) (fun hc1 => ?_)
    · replace h := (if_pos hc1).symm.trans h
      refine z_iconst C (0 : Int32) dX11_isRunLength_15 (by decide) ?_
      obtain ⟨rfl, rfl⟩ := r2 h
      exact z_zret (by decide) C dX11_isRunLength_16
    · replace h := (if_neg hc1).symm.trans h
      refine z_iconst C (1 : Int32) dX11_isRunLength_11 (by decide) ?_
      refine z_goto C 16 dX11_isRunLength_12 (by decide) ?_
      obtain ⟨rfl, rfl⟩ := r2 h
      exact z_zret (by decide) C dX11_isRunLength_16
def f_X11_changed (F : Nat) (x1 : Int32) (x2 : Int64) (x4 : Int32) (u : St) : Option (Int32 × St) := (Option.bind (f_X11_isRunLength F x1 u) (fun w4 => (if w4.1 = 0 then some ((-1 : Int32), w4.2) else (Option.bind (f_X11_isSignal F x4 w4.2) (fun w8 => (if w8.1 = 0 then some ((-1 : Int32), w8.2) else (Option.bind (f_X0_runByLots F x1 x2 w8.2) (fun w12 => (if x4 < 0 ∨ 12 ≤ x4.toNatClampNeg then none else some ((w12.2.1 21 x4.toNatClampNeg), w12.2))))))))))
set_option maxRecDepth 20000 in
set_option maxHeartbeats 4000000 in
theorem m_X11_changed (F : Nat) (x1 : Int32) (x2 : Int64) (x4 : Int32) (u : St) (r : Int32) (u' : St)  (h : f_X11_changed F x1 x2 x4 u = some (r, u')) : Mt yX11_changed cX11_changed 5 (some .int) 3 (fun ad => [.ref (ad 0), .int x1, .long x2, .int x4]) u (fun _ => some (.int r)) u' := by
  refine Mt.of (by decide) (fun ad => Nat.le_of_ble_eq_true rfl) ?_
  intro p l e s m args below meth c D cA ad ls C hl
  have hl : lv_has ls 5 [(0, .ref (ad 0)), (1, .int x1), (2, .long x2), (4, .int x4)] := hl
  unfold f_X11_changed at h
  refine z_iload_n C (i := 1) (k := 1) hl dX11_changed_0 rfl rfl ?_
  obtain ⟨⟨r3, u1⟩, hc2, h⟩ := bnd h
  try dsimp only at h
  refine z_callS C [.int x1] [] [.int r3] (m_X11_isRunLength F _ _ _ _ hc2) cw_X11_isRunLength sw_X11_isRunLength ml_X11_174 rfl rfl rfl hl.1 (Nat.le_of_ble_eq_true rfl) ⟨Nat.le_of_ble_eq_true rfl, Nat.le_of_ble_eq_true rfl⟩ ⟨Nat.le_refl _, Nat.le_refl _⟩ rfl dX11_changed_1 ?_
  refine z_if_eq C 15 dX11_changed_4 (by decide) (fun hc15 => ?_) (fun hc15 => ?_)
  · replace h := (if_pos hc15).symm.trans h
    refine z_iconst C (-1 : Int32) dX11_changed_15 (by decide) ?_
    obtain ⟨rfl, rfl⟩ := r2 h
    exact z_iret C dX11_changed_16
  · replace h := (if_neg hc15).symm.trans h
    refine z_iload C (i := 4) (k := 3) hl dX11_changed_7 rfl ?_
    obtain ⟨⟨r7, u5⟩, hc6, h⟩ := bnd h
    try dsimp only at h
    refine z_callS C [.int x4] [] [.int r7] (m_X11_isSignal F _ _ _ _ hc6) cw_X11_isSignal sw_X11_isSignal ml_X11_121 rfl rfl rfl hl.1 (Nat.le_of_ble_eq_true rfl) ⟨Nat.le_of_ble_eq_true rfl, Nat.le_of_ble_eq_true rfl⟩ ⟨Nat.le_refl _, Nat.le_refl _⟩ rfl dX11_changed_9 ?_
    refine z_if_ne C 17 dX11_changed_12 (by decide) (fun hc14 => ?_) (fun hc14 => ?_)
    · replace h := (if_neg hc14).symm.trans h
      refine z_aload_n C (i := 0) (k := 0) hl dX11_changed_17 rfl rfl ?_
      refine z_getr C 0 2 4 fw_X11_28 sh_0 rfl dX11_changed_18 ?_
      refine z_iload_n C (i := 1) (k := 1) hl dX11_changed_21 rfl rfl ?_
      refine z_lload_n C (i := 2) (k := 2) hl dX11_changed_22 rfl rfl ?_
      refine z_aload_n C (i := 0) (k := 0) hl dX11_changed_23 rfl rfl ?_
      refine z_getr C 0 6 21 fw_X11_57 sh_0 rfl dX11_changed_24 ?_
      obtain ⟨⟨r11, u9⟩, hc10, h⟩ := bnd h
      try dsimp only at h
      refine z_callV C (ci := 0) [.int x1, .long x2, .ref (ad 21)] [] [.int r11] (m_X0_runByLots F _ _ _ _ _ hc10) cw_X0_runByLots vw_X0_runByLots ml_X11_177 sh_4 rfl rfl rfl rfl hl.1 (Nat.le_of_ble_eq_true rfl) ⟨Nat.le_of_ble_eq_true rfl, Nat.le_of_ble_eq_true rfl⟩ ⟨Nat.le_refl _, Nat.le_refl _⟩ rfl dX11_changed_27 ?_
      refine z_pop C dX11_changed_30 rfl ?_
      refine z_aload_n C (i := 0) (k := 0) hl dX11_changed_31 rfl rfl ?_
      refine z_getr C 0 6 21 fw_X11_57 sh_0 rfl dX11_changed_32 ?_
      refine z_iload C (i := 4) (k := 3) hl dX11_changed_35 rfl ?_
      obtain ⟨hi13, h⟩ := gd h
      refine z_iald C 21 12 sh_21 hi13 dX11_changed_37 ?_
      obtain ⟨rfl, rfl⟩ := r2 h
      exact z_iret C dX11_changed_38
    · replace h := (if_pos hc14).symm.trans h
      refine z_iconst C (-1 : Int32) dX11_changed_15 (by decide) ?_
      obtain ⟨rfl, rfl⟩ := r2 h
      exact z_iret C dX11_changed_16
def f_X0_begin (F : Nat) (q1 : Nat) (x2 : Int32) (u : St) : Option (Nat × St) := (if ((u.1 4 2).toNatClampNeg) = 7 ∨ ((u.1 4 2).toNatClampNeg) = 46 then some (((u.1 4 2).toNatClampNeg), (fil (fil (wr (wr (wr u 4 2 (nI q1)) 4 3 x2) 4 4 (0 : Int32)) 5 4096 (-1 : Int32)) 6 12 (0 : Int32))) else none)
set_option maxRecDepth 20000 in
set_option maxHeartbeats 4000000 in
theorem m_X0_begin (F : Nat) (q1 : Nat) (x2 : Int32) (u : St) (r : Nat) (u' : St) (hQ1 : IsE q1) (h : f_X0_begin F q1 x2 u = some (r, u')) : Mt yX0_begin cX0_begin 4 (some (.object "GateWalk$Equations")) 1 (fun ad => [.ref (ad 4), .ref (ad q1), .int x2]) u (fun ad => some (.ref (ad r))) u' := by
  refine Mt.of (by decide) (fun ad => Nat.le_of_ble_eq_true rfl) ?_
  intro p l e s m args below meth c D cA ad ls C hl
  have hl : lv_has ls 4 [(0, .ref (ad 4)), (1, .ref (ad q1)), (2, .int x2)] := hl
  unfold f_X0_begin at h
  refine z_aload_n C (i := 0) (k := 0) hl dX0_begin_0 rfl rfl ?_
  obtain ⟨hq1, h⟩ := gp h
  refine z_getd C 4 2 fw_X0_21 sh_4 rfl dX0_begin_1 ?_
  refine z_astore_n C (i := 3) [(3, .ref (ad ((u.1 4 2).toNatClampNeg))), (0, .ref (ad 4)), (1, .ref (ad q1)), (2, .int x2)] hl dX0_begin_4 rfl (by decide) rfl (fun ls hl => ?_)
  refine z_aload_n C (i := 0) (k := 1) hl dX0_begin_5 rfl rfl ?_
  refine z_aload_n C (i := 1) (k := 2) hl dX0_begin_6 rfl rfl ?_
  refine z_putd C 4 2 q1 (IsE.lt hQ1) pw_X0_21 sh_4 rfl dX0_begin_7 ?_
  refine z_aload_n C (i := 0) (k := 1) hl dX0_begin_10 rfl rfl ?_
  refine z_iload_n C (i := 2) (k := 3) hl dX0_begin_11 rfl rfl ?_
  refine z_puti C 4 3 pw_X0_31 sh_4 rfl dX0_begin_12 ?_
  refine z_aload_n C (i := 0) (k := 1) hl dX0_begin_15 rfl rfl ?_
  refine z_iconst C (0 : Int32) dX0_begin_16 (by decide) ?_
  refine z_puti C 4 4 pw_X0_35 sh_4 rfl dX0_begin_17 ?_
  refine z_aload_n C (i := 0) (k := 1) hl dX0_begin_20 rfl rfl ?_
  refine z_getr C 4 0 5 fw_X0_9 sh_4 rfl dX0_begin_21 ?_
  refine z_iconst C (-1 : Int32) dX0_begin_24 (by decide) ?_
  refine z_callS C [.ref (ad 5), .int (-1 : Int32)] [] [] (m_fill 5 4096 (-1 : Int32) (wr (wr (wr u 4 2 (nI q1)) 4 3 x2) 4 4 (0 : Int32)) (by decide) sh_5) cw_J7_fill_53178 sw_J7_fill_53178 ml_X0_25 rfl rfl rfl hl.1 (Nat.le_of_ble_eq_true rfl) ⟨Nat.le_of_ble_eq_true rfl, Nat.le_of_ble_eq_true rfl⟩ ⟨Nat.le_refl _, Nat.le_refl _⟩ rfl dX0_begin_25 ?_
  refine z_aload_n C (i := 0) (k := 1) hl dX0_begin_28 rfl rfl ?_
  refine z_getr C 4 1 6 fw_X0_15 sh_4 rfl dX0_begin_29 ?_
  refine z_iconst C (0 : Int32) dX0_begin_32 (by decide) ?_
  refine z_callS C [.ref (ad 6), .int (0 : Int32)] [] [] (m_fill 6 12 (0 : Int32) (fil (wr (wr (wr u 4 2 (nI q1)) 4 3 x2) 4 4 (0 : Int32)) 5 4096 (-1 : Int32)) (by decide) sh_6) cw_J7_fill_53178 sw_J7_fill_53178 ml_X0_25 rfl rfl rfl hl.1 (Nat.le_of_ble_eq_true rfl) ⟨Nat.le_of_ble_eq_true rfl, Nat.le_of_ble_eq_true rfl⟩ ⟨Nat.le_refl _, Nat.le_refl _⟩ rfl dX0_begin_33 ?_
  refine z_aload_n C (i := 3) (k := 0) hl dX0_begin_36 rfl rfl ?_
  obtain ⟨rfl, rfl⟩ := r2 h
  exact z_aret C dX0_begin_37
def f_X10_forget (F : Nat)  (u : St) : Option (St) := some (wr u 11 7 (0 : Int32))
set_option maxRecDepth 20000 in
set_option maxHeartbeats 4000000 in
theorem m_X10_forget (F : Nat)  (u : St) (u' : St)  (h : f_X10_forget F  u = some u') : Mt yX10_forget cX10_forget 1 none 0 (fun ad => [.ref (ad 11)]) u (fun _ => none) u' := by
  refine Mt.of (by decide) (fun ad => Nat.le_of_ble_eq_true rfl) ?_
  intro p l e s m args below meth c D cA ad ls C hl
  have hl : lv_has ls 1 [(0, .ref (ad 11))] := hl
  unfold f_X10_forget at h
  refine z_aload_n C (i := 0) (k := 0) hl dX10_forget_0 rfl rfl ?_
  refine z_iconst C (0 : Int32) dX10_forget_1 (by decide) ?_
  refine z_putz C 11 7 pw_X10_28 (by decide) sh_11 rfl dX10_forget_2 ?_
  obtain rfl := Option.some.inj h
  exact z_vret C dX10_forget_5
def f_X3_forget (F : Nat)  (u : St) : Option (St) := some (wr (wr u 18 5 (0 : Int32)) 18 6 (0 : Int32))
set_option maxRecDepth 20000 in
set_option maxHeartbeats 4000000 in
theorem m_X3_forget (F : Nat)  (u : St) (u' : St)  (h : f_X3_forget F  u = some u') : Mt yX3_forget cX3_forget 1 none 0 (fun ad => [.ref (ad 18)]) u (fun _ => none) u' := by
  refine Mt.of (by decide) (fun ad => Nat.le_of_ble_eq_true rfl) ?_
  intro p l e s m args below meth c D cA ad ls C hl
  have hl : lv_has ls 1 [(0, .ref (ad 18))] := hl
  unfold f_X3_forget at h
  refine z_aload_n C (i := 0) (k := 0) hl dX3_forget_0 rfl rfl ?_
  refine z_iconst C (0 : Int32) dX3_forget_1 (by decide) ?_
  refine z_puti C 18 5 pw_X3_27 sh_18 rfl dX3_forget_2 ?_
  refine z_aload_n C (i := 0) (k := 0) hl dX3_forget_5 rfl rfl ?_
  refine z_iconst C (0 : Int32) dX3_forget_6 (by decide) ?_
  refine z_puti C 18 6 pw_X3_31 sh_18 rfl dX3_forget_7 ?_
  obtain rfl := Option.some.inj h
  exact z_vret C dX3_forget_10
def f_X11_forgetWalk (F : Nat)  (u : St) : Option (St) := (Option.bind (f_X10_forget F u) (fun u1 => (Option.bind (f_X2_forget F u1) (fun u3 => (Option.bind (f_X3_forget F u3) (fun u5 => some u5))))))
set_option maxRecDepth 20000 in
set_option maxHeartbeats 4000000 in
theorem m_X11_forgetWalk (F : Nat)  (u : St) (u' : St)  (h : f_X11_forgetWalk F  u = some u') : Mt yX11_forgetWalk cX11_forgetWalk 1 none 1 (fun ad => [.ref (ad 0)]) u (fun _ => none) u' := by
  refine Mt.of (by decide) (fun ad => Nat.le_of_ble_eq_true rfl) ?_
  intro p l e s m args below meth c D cA ad ls C hl
  have hl : lv_has ls 1 [(0, .ref (ad 0))] := hl
  unfold f_X11_forgetWalk at h
  refine z_aload_n C (i := 0) (k := 0) hl dX11_forgetWalk_0 rfl rfl ?_
  refine z_getr C 0 3 11 fw_X11_37 sh_0 rfl dX11_forgetWalk_1 ?_
  obtain ⟨u1, hc2, h⟩ := bnd h
  refine z_callV C (ci := 10) [] [] [] (m_X10_forget F  _ _ hc2) cw_X10_forget vw_X10_forget ml_X11_250 sh_11 rfl rfl rfl rfl hl.1 (Nat.le_of_ble_eq_true rfl) ⟨Nat.le_of_ble_eq_true rfl, Nat.le_of_ble_eq_true rfl⟩ ⟨Nat.le_refl _, Nat.le_refl _⟩ rfl dX11_forgetWalk_4 ?_
  refine z_aload_n C (i := 0) (k := 0) hl dX11_forgetWalk_7 rfl rfl ?_
  refine z_getr C 0 4 16 fw_X11_46 sh_0 rfl dX11_forgetWalk_8 ?_
  obtain ⟨u3, hc4, h⟩ := bnd h
  refine z_callV C (ci := 2) [] [] [] (m_X2_forget F  _ _ hc4) cw_X2_forget vw_X2_forget ml_X11_132 sh_16 rfl rfl rfl rfl hl.1 (Nat.le_of_ble_eq_true rfl) ⟨Nat.le_of_ble_eq_true rfl, Nat.le_of_ble_eq_true rfl⟩ ⟨Nat.le_refl _, Nat.le_refl _⟩ rfl dX11_forgetWalk_11 ?_
  refine z_aload_n C (i := 0) (k := 0) hl dX11_forgetWalk_14 rfl rfl ?_
  refine z_getr C 0 5 18 fw_X11_53 sh_0 rfl dX11_forgetWalk_15 ?_
  obtain ⟨u5, hc6, h⟩ := bnd h
  refine z_callV C (ci := 3) [] [] [] (m_X3_forget F  _ _ hc6) cw_X3_forget vw_X3_forget ml_X11_251 sh_18 rfl rfl rfl rfl hl.1 (Nat.le_of_ble_eq_true rfl) ⟨Nat.le_of_ble_eq_true rfl, Nat.le_of_ble_eq_true rfl⟩ ⟨Nat.le_refl _, Nat.le_refl _⟩ rfl dX11_forgetWalk_18 ?_
  obtain rfl := Option.some.inj h
  exact z_vret C dX11_forgetWalk_21
def f_X1_removeAll (F : Nat) (q0 : Nat) (u : St) : Option (St) := some (wr (wr u q0 3 (0 : Int32)) q0 4 (0 : Int32))
set_option maxRecDepth 20000 in
set_option maxHeartbeats 4000000 in
theorem m_X1_removeAll (F : Nat) (q0 : Nat) (u : St) (u' : St) (hQ0 : IsE q0) (h : f_X1_removeAll F q0 u = some u') : Mt yX1_removeAll cX1_removeAll 1 none 0 (fun ad => [.ref (ad q0)]) u (fun _ => none) u' := by
  refine Mt.of (by decide) (fun ad => Nat.le_of_ble_eq_true rfl) ?_
  intro p l e s m args below meth c D cA ad ls C hl
  have hl : lv_has ls 1 [(0, .ref (ad q0))] := hl
  unfold f_X1_removeAll at h
  refine z_aload_n C (i := 0) (k := 0) hl dX1_removeAll_0 rfl rfl ?_
  refine z_iconst C (0 : Int32) dX1_removeAll_1 (by decide) ?_
  refine z_puti C q0 3 pw_X1_21 (shE hQ0) rfl dX1_removeAll_2 ?_
  refine z_aload_n C (i := 0) (k := 0) hl dX1_removeAll_5 rfl rfl ?_
  refine z_iconst C (0 : Int32) dX1_removeAll_6 (by decide) ?_
  refine z_puti C q0 4 pw_X1_25 (shE hQ0) rfl dX1_removeAll_7 ?_
  obtain rfl := Option.some.inj h
  exact z_vret C dX1_removeAll_10
def f_X7_size (F : Nat)  (u : St) : Option (Int32 × St) := some ((u.1 1 1), u)
set_option maxRecDepth 20000 in
set_option maxHeartbeats 4000000 in
theorem m_X7_size (F : Nat)  (u : St) (r : Int32) (u' : St)  (h : f_X7_size F  u = some (r, u')) : Mt yX7_size cX7_size 1 (some .int) 0 (fun ad => [.ref (ad 1)]) u (fun _ => some (.int r)) u' := by
  refine Mt.of (by decide) (fun ad => Nat.le_of_ble_eq_true rfl) ?_
  intro p l e s m args below meth c D cA ad ls C hl
  have hl : lv_has ls 1 [(0, .ref (ad 1))] := hl
  unfold f_X7_size at h
  refine z_aload_n C (i := 0) (k := 0) hl dX7_size_0 rfl rfl ?_
  refine z_geti C 1 1 fw_X7_15 sh_1 rfl dX7_size_1 ?_
  obtain ⟨rfl, rfl⟩ := r2 h
  exact z_iret C dX7_size_4
def f_X6_isAtEnd (F : Nat)  (u : St) : Option (Int32 × St) := (Option.bind (f_X7_size F u) (fun w4 => (if (u.1 3 1) < w4.1 then some ((0 : Int32), w4.2) else some ((1 : Int32), w4.2))))
set_option maxRecDepth 20000 in
set_option maxHeartbeats 4000000 in
theorem m_X6_isAtEnd (F : Nat)  (u : St) (r : Int32) (u' : St)  (h : f_X6_isAtEnd F  u = some (r, u')) : Mt yX6_isAtEnd cX6_isAtEnd 1 (some .boolean) 1 (fun ad => [.ref (ad 3)]) u (fun _ => some (.int r)) u' := by
  refine Mt.of (by decide) (fun ad => Nat.le_of_ble_eq_true rfl) ?_
  intro p l e s m args below meth c D cA ad ls C hl
  have hl : lv_has ls 1 [(0, .ref (ad 3))] := hl
  unfold f_X6_isAtEnd at h
  refine z_aload_n C (i := 0) (k := 0) hl dX6_isAtEnd_0 rfl rfl ?_
  refine z_geti C 3 1 fw_X6_26 sh_3 rfl dX6_isAtEnd_1 ?_
  refine z_aload_n C (i := 0) (k := 0) hl dX6_isAtEnd_4 rfl rfl ?_
  refine z_getr C 3 0 1 fw_X6_9 sh_3 rfl dX6_isAtEnd_5 ?_
  obtain ⟨⟨r3, u1⟩, hc2, h⟩ := bnd h
  try dsimp only at h
  refine z_callV C (ci := 7) [] [.int (u.1 3 1)] [.int r3, .int (u.1 3 1)] (m_X7_size F  _ _ _ hc2) cw_X7_size vw_X7_size ml_X6_75 sh_1 rfl rfl rfl rfl hl.1 (Nat.le_of_ble_eq_true rfl) ⟨Nat.le_of_ble_eq_true rfl, Nat.le_of_ble_eq_true rfl⟩ ⟨Nat.le_refl _, Nat.le_refl _⟩ rfl dX6_isAtEnd_8 ?_
  refine z_icmp_lt C 18 dX6_isAtEnd_11 (by decide) (fun hc5 => ?_) (fun hc5 => ?_)
  · replace h := (if_pos hc5).symm.trans h
    refine z_iconst C (0 : Int32) dX6_isAtEnd_18 (by decide) ?_
    obtain ⟨rfl, rfl⟩ := r2 h
    exact z_zret (by decide) C dX6_isAtEnd_19
  · replace h := (if_neg hc5).symm.trans h
    refine z_iconst C (1 : Int32) dX6_isAtEnd_14 (by decide) ?_
    refine z_goto C 19 dX6_isAtEnd_15 (by decide) ?_
    obtain ⟨rfl, rfl⟩ := r2 h
    exact z_zret (by decide) C dX6_isAtEnd_19
def f_X7_byteAt (F : Nat) (x1 : Int32) (u : St) : Option (Int32 × St) := (if x1 < 0 then some ((-1 : Int32), u) else (if (u.1 1 1) ≤ x1 then some ((-1 : Int32), u) else (if x1 < 0 ∨ 300 ≤ x1.toNatClampNeg then none else some ((u.1 2 x1.toNatClampNeg), u))))
set_option maxRecDepth 20000 in
set_option maxHeartbeats 4000000 in
theorem m_X7_byteAt (F : Nat) (x1 : Int32) (u : St) (r : Int32) (u' : St)  (h : f_X7_byteAt F x1 u = some (r, u')) : Mt yX7_byteAt cX7_byteAt 2 (some .int) 0 (fun ad => [.ref (ad 1), .int x1]) u (fun _ => some (.int r)) u' := by
  refine Mt.of (by decide) (fun ad => Nat.le_of_ble_eq_true rfl) ?_
  intro p l e s m args below meth c D cA ad ls C hl
  have hl : lv_has ls 2 [(0, .ref (ad 1)), (1, .int x1)] := hl
  unfold f_X7_byteAt at h
  refine z_iload_n C (i := 1) (k := 1) hl dX7_byteAt_0 rfl rfl ?_
  refine z_if_lt C 21 dX7_byteAt_1 (by decide) (fun hc3 => ?_) (fun hc3 => ?_)
  · replace h := (if_pos hc3).symm.trans h
    refine z_iconst C (-1 : Int32) dX7_byteAt_21 (by decide) ?_
    obtain ⟨rfl, rfl⟩ := r2 h
    exact z_iret C dX7_byteAt_22
  · replace h := (if_neg hc3).symm.trans h
    refine z_iload_n C (i := 1) (k := 1) hl dX7_byteAt_4 rfl rfl ?_
    refine z_aload_n C (i := 0) (k := 0) hl dX7_byteAt_5 rfl rfl ?_
    refine z_geti C 1 1 fw_X7_15 sh_1 rfl dX7_byteAt_6 ?_
    refine z_icmp_ge C 21 dX7_byteAt_9 (by decide) (fun hc2 => ?_) (fun hc2 => ?_)
    · replace h := (if_pos hc2).symm.trans h
      refine z_iconst C (-1 : Int32) dX7_byteAt_21 (by decide) ?_
      obtain ⟨rfl, rfl⟩ := r2 h
      exact z_iret C dX7_byteAt_22
    · replace h := (if_neg hc2).symm.trans h
      refine z_aload_n C (i := 0) (k := 0) hl dX7_byteAt_12 rfl rfl ?_
      refine z_getr C 1 0 2 fw_X7_9 sh_1 rfl dX7_byteAt_13 ?_
      refine z_iload_n C (i := 1) (k := 1) hl dX7_byteAt_16 rfl rfl ?_
      obtain ⟨hi1, h⟩ := gd h
      refine z_iald C 2 300 sh_2 hi1 dX7_byteAt_17 ?_
      refine z_goto C 22 dX7_byteAt_18 (by decide) ?_
      obtain ⟨rfl, rfl⟩ := r2 h
      exact z_iret C dX7_byteAt_22
def f_X6_isOn (F : Nat) (x1 : Int32) (u : St) : Option (Int32 × St) := (Option.bind (f_X7_byteAt F (u.1 3 1) u) (fun w4 => (if w4.1 = x1 then some ((1 : Int32), w4.2) else some ((0 : Int32), w4.2))))
set_option maxRecDepth 20000 in
set_option maxHeartbeats 4000000 in
theorem m_X6_isOn (F : Nat) (x1 : Int32) (u : St) (r : Int32) (u' : St)  (h : f_X6_isOn F x1 u = some (r, u')) : Mt yX6_isOn cX6_isOn 2 (some .boolean) 1 (fun ad => [.ref (ad 3), .int x1]) u (fun _ => some (.int r)) u' := by
  refine Mt.of (by decide) (fun ad => Nat.le_of_ble_eq_true rfl) ?_
  intro p l e s m args below meth c D cA ad ls C hl
  have hl : lv_has ls 2 [(0, .ref (ad 3)), (1, .int x1)] := hl
  unfold f_X6_isOn at h
  refine z_aload_n C (i := 0) (k := 0) hl dX6_isOn_0 rfl rfl ?_
  refine z_getr C 3 0 1 fw_X6_9 sh_3 rfl dX6_isOn_1 ?_
  refine z_aload_n C (i := 0) (k := 0) hl dX6_isOn_4 rfl rfl ?_
  refine z_geti C 3 1 fw_X6_26 sh_3 rfl dX6_isOn_5 ?_
  obtain ⟨⟨r3, u1⟩, hc2, h⟩ := bnd h
  try dsimp only at h
  refine z_callV C (ci := 7) [.int (u.1 3 1)] [] [.int r3] (m_X7_byteAt F _ _ _ _ hc2) cw_X7_byteAt vw_X7_byteAt ml_X6_72 sh_1 rfl rfl rfl rfl hl.1 (Nat.le_of_ble_eq_true rfl) ⟨Nat.le_of_ble_eq_true rfl, Nat.le_of_ble_eq_true rfl⟩ ⟨Nat.le_refl _, Nat.le_refl _⟩ rfl dX6_isOn_8 ?_
  refine z_iload_n C (i := 1) (k := 1) hl dX6_isOn_11 rfl rfl ?_
  refine z_icmp_ne C 19 dX6_isOn_12 (by decide) (fun hc5 => ?_) (fun hc5 => ?_)
  · replace h := (if_neg hc5).symm.trans h
    refine z_iconst C (0 : Int32) dX6_isOn_19 (by decide) ?_
    obtain ⟨rfl, rfl⟩ := r2 h
    exact z_zret (by decide) C dX6_isOn_20
  · replace h := (if_pos hc5).symm.trans h
    refine z_iconst C (1 : Int32) dX6_isOn_15 (by decide) ?_
    refine z_goto C 20 dX6_isOn_16 (by decide) ?_
    obtain ⟨rfl, rfl⟩ := r2 h
    exact z_zret (by decide) C dX6_isOn_20
def f_X1_addTerm (F : Nat) (q0 : Nat) (x1 : Int32) (x2 : Int32) (x3 : Int32) (u : St) : Option (St) := (if (144 : Int32) ≤ (u.1 q0 3) then some u else (if (u.1 q0 3) < 0 ∨ 144 ≤ (u.1 q0 3).toNatClampNeg then none else (if ((wr u (q0 + 1) (u.1 q0 3).toNatClampNeg x1).1 q0 3) < 0 ∨ 144 ≤ ((wr u (q0 + 1) (u.1 q0 3).toNatClampNeg x1).1 q0 3).toNatClampNeg then none else (if ((wr (wr u (q0 + 1) (u.1 q0 3).toNatClampNeg x1) (q0 + 2) ((wr u (q0 + 1) (u.1 q0 3).toNatClampNeg x1).1 q0 3).toNatClampNeg x2).1 q0 3) < 0 ∨ 144 ≤ ((wr (wr u (q0 + 1) (u.1 q0 3).toNatClampNeg x1) (q0 + 2) ((wr u (q0 + 1) (u.1 q0 3).toNatClampNeg x1).1 q0 3).toNatClampNeg x2).1 q0 3).toNatClampNeg then none else some (wr (wr (wr (wr u (q0 + 1) (u.1 q0 3).toNatClampNeg x1) (q0 + 2) ((wr u (q0 + 1) (u.1 q0 3).toNatClampNeg x1).1 q0 3).toNatClampNeg x2) (q0 + 3) ((wr (wr u (q0 + 1) (u.1 q0 3).toNatClampNeg x1) (q0 + 2) ((wr u (q0 + 1) (u.1 q0 3).toNatClampNeg x1).1 q0 3).toNatClampNeg x2).1 q0 3).toNatClampNeg x3) q0 3 (((wr (wr (wr u (q0 + 1) (u.1 q0 3).toNatClampNeg x1) (q0 + 2) ((wr u (q0 + 1) (u.1 q0 3).toNatClampNeg x1).1 q0 3).toNatClampNeg x2) (q0 + 3) ((wr (wr u (q0 + 1) (u.1 q0 3).toNatClampNeg x1) (q0 + 2) ((wr u (q0 + 1) (u.1 q0 3).toNatClampNeg x1).1 q0 3).toNatClampNeg x2).1 q0 3).toNatClampNeg x3).1 q0 3) + (1 : Int32)))))))
set_option maxRecDepth 20000 in
set_option maxHeartbeats 4000000 in
theorem m_X1_addTerm (F : Nat) (q0 : Nat) (x1 : Int32) (x2 : Int32) (x3 : Int32) (u : St) (u' : St) (hQ0 : IsE q0) (h : f_X1_addTerm F q0 x1 x2 x3 u = some u') : Mt yX1_addTerm cX1_addTerm 4 none 0 (fun ad => [.ref (ad q0), .int x1, .int x2, .int x3]) u (fun _ => none) u' := by
  refine Mt.of (by decide) (fun ad => Nat.le_of_ble_eq_true rfl) ?_
  intro p l e s m args below meth c D cA ad ls C hl
  have hl : lv_has ls 4 [(0, .ref (ad q0)), (1, .int x1), (2, .int x2), (3, .int x3)] := hl
  unfold f_X1_addTerm at h
  refine z_aload_n C (i := 0) (k := 0) hl dX1_addTerm_0 rfl rfl ?_
  refine z_geti C q0 3 fw_X1_21 (shE hQ0) rfl dX1_addTerm_1 ?_
  refine z_aload_n C (i := 0) (k := 0) hl dX1_addTerm_4 rfl rfl ?_
  refine z_getr C q0 0 (q0 + 1) fw_X1_9 (shE hQ0) rfl dX1_addTerm_5 ?_
  refine z_alen C (q0 + 1) 144 (144 : Int32) (shE1 hQ0) (by decide) dX1_addTerm_8 ?_
  refine z_icmp_ge C 52 dX1_addTerm_9 (by decide) (fun hc4 => ?_) (fun hc4 => ?_)
  · replace h := (if_pos hc4).symm.trans h
    obtain rfl := Option.some.inj h
    exact z_vret C dX1_addTerm_52
  · replace h := (if_neg hc4).symm.trans h
    refine z_aload_n C (i := 0) (k := 0) hl dX1_addTerm_12 rfl rfl ?_
    refine z_getr C q0 0 (q0 + 1) fw_X1_9 (shE hQ0) rfl dX1_addTerm_13 ?_
    refine z_aload_n C (i := 0) (k := 0) hl dX1_addTerm_16 rfl rfl ?_
    refine z_geti C q0 3 fw_X1_21 (shE hQ0) rfl dX1_addTerm_17 ?_
    refine z_iload_n C (i := 1) (k := 1) hl dX1_addTerm_20 rfl rfl ?_
    obtain ⟨hi1, h⟩ := gd h
    refine z_iast C (q0 + 1) 144 (shE1 hQ0) hi1 dX1_addTerm_21 ?_
    refine z_aload_n C (i := 0) (k := 0) hl dX1_addTerm_22 rfl rfl ?_
    refine z_getr C q0 1 (q0 + 2) fw_X1_15 (shE hQ0) rfl dX1_addTerm_23 ?_
    refine z_aload_n C (i := 0) (k := 0) hl dX1_addTerm_26 rfl rfl ?_
    refine z_geti C q0 3 fw_X1_21 (shE hQ0) rfl dX1_addTerm_27 ?_
    refine z_iload_n C (i := 2) (k := 2) hl dX1_addTerm_30 rfl rfl ?_
    obtain ⟨hi2, h⟩ := gd h
    refine z_iast C (q0 + 2) 144 (shE2 hQ0) hi2 dX1_addTerm_31 ?_
    refine z_aload_n C (i := 0) (k := 0) hl dX1_addTerm_32 rfl rfl ?_
    refine z_getr C q0 2 (q0 + 3) fw_X1_18 (shE hQ0) rfl dX1_addTerm_33 ?_
    refine z_aload_n C (i := 0) (k := 0) hl dX1_addTerm_36 rfl rfl ?_
    refine z_geti C q0 3 fw_X1_21 (shE hQ0) rfl dX1_addTerm_37 ?_
    refine z_iload_n C (i := 3) (k := 3) hl dX1_addTerm_40 rfl rfl ?_
    obtain ⟨hi3, h⟩ := gd h
    refine z_iast C (q0 + 3) 144 (shE3 hQ0) hi3 dX1_addTerm_41 ?_
    refine z_aload_n C (i := 0) (k := 0) hl dX1_addTerm_42 rfl rfl ?_
    refine z_dup C dX1_addTerm_43 rfl ?_
    refine z_geti C q0 3 fw_X1_21 (shE hQ0) rfl dX1_addTerm_44 ?_
    refine z_iconst C (1 : Int32) dX1_addTerm_47 (by decide) ?_
    refine z_iadd C dX1_addTerm_48 ?_
    refine z_puti C q0 3 pw_X1_21 (shE hQ0) rfl dX1_addTerm_49 ?_
    obtain rfl := Option.some.inj h
    exact z_vret C dX1_addTerm_52
def f_X1_addConstant (F : Nat) (q0 : Nat) (x1 : Int32) (x2 : Int32) (u : St) : Option (St) := (if x2 = 0 then (Option.bind (f_X1_addTerm F q0 x1 (1 : Int32) (1 : Int32) u) (fun u1 => some u1)) else (Option.bind (f_X1_addTerm F q0 x1 (0 : Int32) (0 : Int32) u) (fun u3 => some u3)))
set_option maxRecDepth 20000 in
set_option maxHeartbeats 4000000 in
theorem m_X1_addConstant (F : Nat) (q0 : Nat) (x1 : Int32) (x2 : Int32) (u : St) (u' : St) (hQ0 : IsE q0) (h : f_X1_addConstant F q0 x1 x2 u = some u') : Mt yX1_addConstant cX1_addConstant 4 none 1 (fun ad => [.ref (ad q0), .int x1, .int x2]) u (fun _ => none) u' := by
  refine Mt.of (by decide) (fun ad => Nat.le_of_ble_eq_true rfl) ?_
  intro p l e s m args below meth c D cA ad ls C hl
  have hl : lv_has ls 4 [(0, .ref (ad q0)), (1, .int x1), (2, .int x2)] := hl
  unfold f_X1_addConstant at h
  refine z_iload_n C (i := 2) (k := 2) hl dX1_addConstant_0 rfl rfl ?_
  refine z_if_eq C 8 dX1_addConstant_1 (by decide) (fun hc5 => ?_) (fun hc5 => ?_)
  · replace h := (if_pos hc5).symm.trans h
    refine z_iconst C (1 : Int32) dX1_addConstant_8 (by decide) ?_
    refine z_istore_n C (i := 3) [(3, .int (1 : Int32)), (0, .ref (ad q0)), (1, .int x1), (2, .int x2)] hl dX1_addConstant_9 rfl (by decide) rfl (fun ls hl => ?_)
    refine z_aload_n C (i := 0) (k := 1) hl dX1_addConstant_10 rfl rfl ?_
    refine z_iload_n C (i := 1) (k := 2) hl dX1_addConstant_11 rfl rfl ?_
    refine z_iload_n C (i := 3) (k := 0) hl dX1_addConstant_12 rfl rfl ?_
    refine z_iload_n C (i := 3) (k := 0) hl dX1_addConstant_13 rfl rfl ?_
    obtain ⟨u1, hc2, h⟩ := bnd h
    refine z_callV C (ci := 1) [.int x1, .int (1 : Int32), .int (1 : Int32)] [] [] (m_X1_addTerm F _ _ _ _ _ _ hQ0 hc2) cw_X1_addTerm vw_X1_addTerm ml_X1_32 (shE hQ0) rfl rfl rfl rfl hl.1 (Nat.le_of_ble_eq_true rfl) ⟨Nat.le_of_ble_eq_true rfl, Nat.le_of_ble_eq_true rfl⟩ ⟨Nat.le_refl _, Nat.le_refl _⟩ rfl dX1_addConstant_14 ?_
    obtain rfl := Option.some.inj h
    exact z_vret C dX1_addConstant_17
  · replace h := (if_neg hc5).symm.trans h
    refine z_iconst C (0 : Int32) dX1_addConstant_4 (by decide) ?_
    refine z_goto C 9 dX1_addConstant_5 (by decide) ?_
    refine z_istore_n C (i := 3) [(3, .int (0 : Int32)), (0, .ref (ad q0)), (1, .int x1), (2, .int x2)] hl dX1_addConstant_9 rfl (by decide) rfl (fun ls hl => ?_)
    refine z_aload_n C (i := 0) (k := 1) hl dX1_addConstant_10 rfl rfl ?_
    refine z_iload_n C (i := 1) (k := 2) hl dX1_addConstant_11 rfl rfl ?_
    refine z_iload_n C (i := 3) (k := 0) hl dX1_addConstant_12 rfl rfl ?_
    refine z_iload_n C (i := 3) (k := 0) hl dX1_addConstant_13 rfl rfl ?_
    obtain ⟨u3, hc4, h⟩ := bnd h
    refine z_callV C (ci := 1) [.int x1, .int (0 : Int32), .int (0 : Int32)] [] [] (m_X1_addTerm F _ _ _ _ _ _ hQ0 hc4) cw_X1_addTerm vw_X1_addTerm ml_X1_32 (shE hQ0) rfl rfl rfl rfl hl.1 (Nat.le_of_ble_eq_true rfl) ⟨Nat.le_of_ble_eq_true rfl, Nat.le_of_ble_eq_true rfl⟩ ⟨Nat.le_refl _, Nat.le_refl _⟩ rfl dX1_addConstant_14 ?_
    obtain rfl := Option.some.inj h
    exact z_vret C dX1_addConstant_17
def f_X1_addEquation (F : Nat) (q0 : Nat) (x1 : Int32) (u : St) : Option (St) := some (wr u q0 4 ((u.1 q0 4) ||| ((1 : Int32) <<< (x1 &&& 31))))
set_option maxRecDepth 20000 in
set_option maxHeartbeats 4000000 in
theorem m_X1_addEquation (F : Nat) (q0 : Nat) (x1 : Int32) (u : St) (u' : St) (hQ0 : IsE q0) (h : f_X1_addEquation F q0 x1 u = some u') : Mt yX1_addEquation cX1_addEquation 2 none 0 (fun ad => [.ref (ad q0), .int x1]) u (fun _ => none) u' := by
  refine Mt.of (by decide) (fun ad => Nat.le_of_ble_eq_true rfl) ?_
  intro p l e s m args below meth c D cA ad ls C hl
  have hl : lv_has ls 2 [(0, .ref (ad q0)), (1, .int x1)] := hl
  unfold f_X1_addEquation at h
  refine z_aload_n C (i := 0) (k := 0) hl dX1_addEquation_0 rfl rfl ?_
  refine z_dup C dX1_addEquation_1 rfl ?_
  refine z_geti C q0 4 fw_X1_25 (shE hQ0) rfl dX1_addEquation_2 ?_
  refine z_iconst C (1 : Int32) dX1_addEquation_5 (by decide) ?_
  refine z_iload_n C (i := 1) (k := 1) hl dX1_addEquation_6 rfl rfl ?_
  refine z_ishl C dX1_addEquation_7 ?_
  refine z_ior C dX1_addEquation_8 ?_
  refine z_puti C q0 4 pw_X1_25 (shE hQ0) rfl dX1_addEquation_9 ?_
  obtain rfl := Option.some.inj h
  exact z_vret C dX1_addEquation_12
def f_X1_has (F : Nat) (q0 : Nat) (x1 : Int32) (u : St) : Option (Int32 × St) := (Option.bind (f_X11_isIn F (u.1 q0 4) x1 u) (fun w4 => (if w4.1 = 0 ∨ w4.1 = 1 then some (w4.1, w4.2) else none)))
set_option maxRecDepth 20000 in
set_option maxHeartbeats 4000000 in
theorem m_X1_has (F : Nat) (q0 : Nat) (x1 : Int32) (u : St) (r : Int32) (u' : St) (hQ0 : IsE q0) (h : f_X1_has F q0 x1 u = some (r, u')) : Mt yX1_has cX1_has 2 (some .boolean) 1 (fun ad => [.ref (ad q0), .int x1]) u (fun _ => some (.int r)) u' := by
  refine Mt.of (by decide) (fun ad => Nat.le_of_ble_eq_true rfl) ?_
  intro p l e s m args below meth c D cA ad ls C hl
  have hl : lv_has ls 2 [(0, .ref (ad q0)), (1, .int x1)] := hl
  unfold f_X1_has at h
  refine z_aload_n C (i := 0) (k := 0) hl dX1_has_0 rfl rfl ?_
  refine z_geti C q0 4 fw_X1_25 (shE hQ0) rfl dX1_has_1 ?_
  refine z_iload_n C (i := 1) (k := 1) hl dX1_has_4 rfl rfl ?_
  obtain ⟨⟨r3, u1⟩, hc2, h⟩ := bnd h
  try dsimp only at h
  refine z_callSN C [.int (u.1 q0 4), .int x1] [] [.int r3] (m_X11_isIn F _ _ _ _ _ hc2) cw_X11_isIn sw_X11_isIn mn_X1_28 rfl rfl rfl hl.1 (Nat.le_of_ble_eq_true rfl) ⟨Nat.le_of_ble_eq_true rfl, Nat.le_of_ble_eq_true rfl⟩ ⟨Nat.le_refl _, Nat.le_refl _⟩ rfl dX1_has_5 ?_
  obtain ⟨hz5, h⟩ := gp h
  obtain ⟨rfl, rfl⟩ := r2 h
  exact z_zret hz5 C dX1_has_8
def f_X6_signalHere (F : Nat)  (u : St) : Option (Int32 × St) := (Option.bind (f_X7_byteAt F (u.1 3 1) u) (fun w4 => (if w4.1 < (97 : Int32) then some ((-1 : Int32), w4.2) else (if (109 : Int32) ≤ w4.1 then some ((-1 : Int32), w4.2) else some ((w4.1 - (97 : Int32)), w4.2)))))
set_option maxRecDepth 20000 in
set_option maxHeartbeats 4000000 in
theorem m_X6_signalHere (F : Nat)  (u : St) (r : Int32) (u' : St)  (h : f_X6_signalHere F  u = some (r, u')) : Mt yX6_signalHere cX6_signalHere 2 (some .int) 1 (fun ad => [.ref (ad 3)]) u (fun _ => some (.int r)) u' := by
  refine Mt.of (by decide) (fun ad => Nat.le_of_ble_eq_true rfl) ?_
  intro p l e s m args below meth c D cA ad ls C hl
  have hl : lv_has ls 2 [(0, .ref (ad 3))] := hl
  unfold f_X6_signalHere at h
  refine z_aload_n C (i := 0) (k := 0) hl dX6_signalHere_0 rfl rfl ?_
  refine z_getr C 3 0 1 fw_X6_9 sh_3 rfl dX6_signalHere_1 ?_
  refine z_aload_n C (i := 0) (k := 0) hl dX6_signalHere_4 rfl rfl ?_
  refine z_geti C 3 1 fw_X6_26 sh_3 rfl dX6_signalHere_5 ?_
  obtain ⟨⟨r3, u1⟩, hc2, h⟩ := bnd h
  try dsimp only at h
  refine z_callV C (ci := 7) [.int (u.1 3 1)] [] [.int r3] (m_X7_byteAt F _ _ _ _ hc2) cw_X7_byteAt vw_X7_byteAt ml_X6_72 sh_1 rfl rfl rfl rfl hl.1 (Nat.le_of_ble_eq_true rfl) ⟨Nat.le_of_ble_eq_true rfl, Nat.le_of_ble_eq_true rfl⟩ ⟨Nat.le_refl _, Nat.le_refl _⟩ rfl dX6_signalHere_8 ?_
  refine z_istore_n C (i := 1) [(1, .int r3), (0, .ref (ad 3))] hl dX6_signalHere_11 rfl (by decide) rfl (fun ls hl => ?_)
  refine z_iload_n C (i := 1) (k := 0) hl dX6_signalHere_12 rfl rfl ?_
  refine z_bipush C (97 : Int32) dX6_signalHere_13 (by decide) ?_
  refine z_icmp_lt C 31 dX6_signalHere_15 (by decide) (fun hc6 => ?_) (fun hc6 => ?_)
  · replace h := (if_pos hc6).symm.trans h
    refine z_iconst C (-1 : Int32) dX6_signalHere_31 (by decide) ?_
    obtain ⟨rfl, rfl⟩ := r2 h
    exact z_iret C dX6_signalHere_32
  · replace h := (if_neg hc6).symm.trans h
    refine z_iload_n C (i := 1) (k := 0) hl dX6_signalHere_18 rfl rfl ?_
    refine z_bipush C (109 : Int32) dX6_signalHere_19 (by decide) ?_
    refine z_icmp_ge C 31 dX6_signalHere_21 (by decide) (fun hc5 => ?_) (fun hc5 => ?_)
    · replace h := (if_pos hc5).symm.trans h
      refine z_iconst C (-1 : Int32) dX6_signalHere_31 (by decide) ?_
      obtain ⟨rfl, rfl⟩ := r2 h
      exact z_iret C dX6_signalHere_32
    · replace h := (if_neg hc5).symm.trans h
      refine z_iload_n C (i := 1) (k := 0) hl dX6_signalHere_24 rfl rfl ?_
      refine z_bipush C (97 : Int32) dX6_signalHere_25 (by decide) ?_
      refine z_isub C dX6_signalHere_27 ?_
      refine z_goto C 32 dX6_signalHere_28 (by decide) ?_
      obtain ⟨rfl, rfl⟩ := r2 h
      exact z_iret C dX6_signalHere_32
