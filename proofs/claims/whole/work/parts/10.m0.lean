def f_J6_bitCount_0f7a4 (F : Nat) (x0 : Int32) (u : St) : Option (Int32 × St) := some (((((((((x0 - ((ushr x0 (1 : Int32)) &&& (1431655765 : Int32))) &&& (858993459 : Int32)) + ((ushr (x0 - ((ushr x0 (1 : Int32)) &&& (1431655765 : Int32))) (2 : Int32)) &&& (858993459 : Int32))) + (ushr (((x0 - ((ushr x0 (1 : Int32)) &&& (1431655765 : Int32))) &&& (858993459 : Int32)) + ((ushr (x0 - ((ushr x0 (1 : Int32)) &&& (1431655765 : Int32))) (2 : Int32)) &&& (858993459 : Int32))) (4 : Int32))) &&& (252645135 : Int32)) + (ushr (((((x0 - ((ushr x0 (1 : Int32)) &&& (1431655765 : Int32))) &&& (858993459 : Int32)) + ((ushr (x0 - ((ushr x0 (1 : Int32)) &&& (1431655765 : Int32))) (2 : Int32)) &&& (858993459 : Int32))) + (ushr (((x0 - ((ushr x0 (1 : Int32)) &&& (1431655765 : Int32))) &&& (858993459 : Int32)) + ((ushr (x0 - ((ushr x0 (1 : Int32)) &&& (1431655765 : Int32))) (2 : Int32)) &&& (858993459 : Int32))) (4 : Int32))) &&& (252645135 : Int32)) (8 : Int32))) + (ushr ((((((x0 - ((ushr x0 (1 : Int32)) &&& (1431655765 : Int32))) &&& (858993459 : Int32)) + ((ushr (x0 - ((ushr x0 (1 : Int32)) &&& (1431655765 : Int32))) (2 : Int32)) &&& (858993459 : Int32))) + (ushr (((x0 - ((ushr x0 (1 : Int32)) &&& (1431655765 : Int32))) &&& (858993459 : Int32)) + ((ushr (x0 - ((ushr x0 (1 : Int32)) &&& (1431655765 : Int32))) (2 : Int32)) &&& (858993459 : Int32))) (4 : Int32))) &&& (252645135 : Int32)) + (ushr (((((x0 - ((ushr x0 (1 : Int32)) &&& (1431655765 : Int32))) &&& (858993459 : Int32)) + ((ushr (x0 - ((ushr x0 (1 : Int32)) &&& (1431655765 : Int32))) (2 : Int32)) &&& (858993459 : Int32))) + (ushr (((x0 - ((ushr x0 (1 : Int32)) &&& (1431655765 : Int32))) &&& (858993459 : Int32)) + ((ushr (x0 - ((ushr x0 (1 : Int32)) &&& (1431655765 : Int32))) (2 : Int32)) &&& (858993459 : Int32))) (4 : Int32))) &&& (252645135 : Int32)) (8 : Int32))) (16 : Int32))) &&& (63 : Int32)), u)
set_option maxRecDepth 20000 in
set_option maxHeartbeats 4000000 in
theorem m_J6_bitCount_0f7a4 (F : Nat) (x0 : Int32) (u : St) (r : Int32) (u' : St)  (h : f_J6_bitCount_0f7a4 F x0 u = some (r, u')) : Mt yJ6_bitCount_0f7a4 cJ6_bitCount_0f7a4 1 (some .int) 0 (fun ad => [.int x0]) u (fun _ => some (.int r)) u' := by
  refine Mt.of (by decide) (fun ad => Nat.le_of_ble_eq_true rfl) ?_
  intro p l e s m args below meth c D cA ad ls C hl
  have hl : lv_has ls 1 [(0, .int x0)] := hl
  unfold f_J6_bitCount_0f7a4 at h
  refine z_iload_n C (i := 0) (k := 0) hl dJ6_bitCount_0f7a4_0 rfl rfl ?_
  refine z_iload_n C (i := 0) (k := 0) hl dJ6_bitCount_0f7a4_1 rfl rfl ?_
  refine z_iconst C (1 : Int32) dJ6_bitCount_0f7a4_2 (by decide) ?_
  refine z_iushr C dJ6_bitCount_0f7a4_3 ?_
  refine z_ldc_w C (v := (1431655765 : Int32)) kw_J6_265 dJ6_bitCount_0f7a4_4 ?_
  refine z_iand C dJ6_bitCount_0f7a4_7 ?_
  refine z_isub C dJ6_bitCount_0f7a4_8 ?_
  refine z_istore_n C (i := 0) [(0, .int (x0 - ((ushr x0 (1 : Int32)) &&& (1431655765 : Int32))))] hl dJ6_bitCount_0f7a4_9 rfl (by decide) rfl (fun ls hl => ?_)
  refine z_iload_n C (i := 0) (k := 0) hl dJ6_bitCount_0f7a4_10 rfl rfl ?_
  refine z_ldc_w C (v := (858993459 : Int32)) kw_J6_266 dJ6_bitCount_0f7a4_11 ?_
  refine z_iand C dJ6_bitCount_0f7a4_14 ?_
  refine z_iload_n C (i := 0) (k := 0) hl dJ6_bitCount_0f7a4_15 rfl rfl ?_
  refine z_iconst C (2 : Int32) dJ6_bitCount_0f7a4_16 (by decide) ?_
  refine z_iushr C dJ6_bitCount_0f7a4_17 ?_
  refine z_ldc_w C (v := (858993459 : Int32)) kw_J6_266 dJ6_bitCount_0f7a4_18 ?_
  refine z_iand C dJ6_bitCount_0f7a4_21 ?_
  refine z_iadd C dJ6_bitCount_0f7a4_22 ?_
  refine z_istore_n C (i := 0) [(0, .int (((x0 - ((ushr x0 (1 : Int32)) &&& (1431655765 : Int32))) &&& (858993459 : Int32)) + ((ushr (x0 - ((ushr x0 (1 : Int32)) &&& (1431655765 : Int32))) (2 : Int32)) &&& (858993459 : Int32))))] hl dJ6_bitCount_0f7a4_23 rfl (by decide) rfl (fun ls hl => ?_)
  refine z_iload_n C (i := 0) (k := 0) hl dJ6_bitCount_0f7a4_24 rfl rfl ?_
  refine z_iload_n C (i := 0) (k := 0) hl dJ6_bitCount_0f7a4_25 rfl rfl ?_
  refine z_iconst C (4 : Int32) dJ6_bitCount_0f7a4_26 (by decide) ?_
  refine z_iushr C dJ6_bitCount_0f7a4_27 ?_
  refine z_iadd C dJ6_bitCount_0f7a4_28 ?_
  refine z_ldc_w C (v := (252645135 : Int32)) kw_J6_267 dJ6_bitCount_0f7a4_29 ?_
  refine z_iand C dJ6_bitCount_0f7a4_32 ?_
  refine z_istore_n C (i := 0) [(0, .int (((((x0 - ((ushr x0 (1 : Int32)) &&& (1431655765 : Int32))) &&& (858993459 : Int32)) + ((ushr (x0 - ((ushr x0 (1 : Int32)) &&& (1431655765 : Int32))) (2 : Int32)) &&& (858993459 : Int32))) + (ushr (((x0 - ((ushr x0 (1 : Int32)) &&& (1431655765 : Int32))) &&& (858993459 : Int32)) + ((ushr (x0 - ((ushr x0 (1 : Int32)) &&& (1431655765 : Int32))) (2 : Int32)) &&& (858993459 : Int32))) (4 : Int32))) &&& (252645135 : Int32)))] hl dJ6_bitCount_0f7a4_33 rfl (by decide) rfl (fun ls hl => ?_)
  refine z_iload_n C (i := 0) (k := 0) hl dJ6_bitCount_0f7a4_34 rfl rfl ?_
  refine z_iload_n C (i := 0) (k := 0) hl dJ6_bitCount_0f7a4_35 rfl rfl ?_
  refine z_bipush C (8 : Int32) dJ6_bitCount_0f7a4_36 (by decide) ?_
  refine z_iushr C dJ6_bitCount_0f7a4_38 ?_
  refine z_iadd C dJ6_bitCount_0f7a4_39 ?_
  refine z_istore_n C (i := 0) [(0, .int ((((((x0 - ((ushr x0 (1 : Int32)) &&& (1431655765 : Int32))) &&& (858993459 : Int32)) + ((ushr (x0 - ((ushr x0 (1 : Int32)) &&& (1431655765 : Int32))) (2 : Int32)) &&& (858993459 : Int32))) + (ushr (((x0 - ((ushr x0 (1 : Int32)) &&& (1431655765 : Int32))) &&& (858993459 : Int32)) + ((ushr (x0 - ((ushr x0 (1 : Int32)) &&& (1431655765 : Int32))) (2 : Int32)) &&& (858993459 : Int32))) (4 : Int32))) &&& (252645135 : Int32)) + (ushr (((((x0 - ((ushr x0 (1 : Int32)) &&& (1431655765 : Int32))) &&& (858993459 : Int32)) + ((ushr (x0 - ((ushr x0 (1 : Int32)) &&& (1431655765 : Int32))) (2 : Int32)) &&& (858993459 : Int32))) + (ushr (((x0 - ((ushr x0 (1 : Int32)) &&& (1431655765 : Int32))) &&& (858993459 : Int32)) + ((ushr (x0 - ((ushr x0 (1 : Int32)) &&& (1431655765 : Int32))) (2 : Int32)) &&& (858993459 : Int32))) (4 : Int32))) &&& (252645135 : Int32)) (8 : Int32))))] hl dJ6_bitCount_0f7a4_40 rfl (by decide) rfl (fun ls hl => ?_)
  refine z_iload_n C (i := 0) (k := 0) hl dJ6_bitCount_0f7a4_41 rfl rfl ?_
  refine z_iload_n C (i := 0) (k := 0) hl dJ6_bitCount_0f7a4_42 rfl rfl ?_
  refine z_bipush C (16 : Int32) dJ6_bitCount_0f7a4_43 (by decide) ?_
  refine z_iushr C dJ6_bitCount_0f7a4_45 ?_
  refine z_iadd C dJ6_bitCount_0f7a4_46 ?_
  refine z_istore_n C (i := 0) [(0, .int (((((((x0 - ((ushr x0 (1 : Int32)) &&& (1431655765 : Int32))) &&& (858993459 : Int32)) + ((ushr (x0 - ((ushr x0 (1 : Int32)) &&& (1431655765 : Int32))) (2 : Int32)) &&& (858993459 : Int32))) + (ushr (((x0 - ((ushr x0 (1 : Int32)) &&& (1431655765 : Int32))) &&& (858993459 : Int32)) + ((ushr (x0 - ((ushr x0 (1 : Int32)) &&& (1431655765 : Int32))) (2 : Int32)) &&& (858993459 : Int32))) (4 : Int32))) &&& (252645135 : Int32)) + (ushr (((((x0 - ((ushr x0 (1 : Int32)) &&& (1431655765 : Int32))) &&& (858993459 : Int32)) + ((ushr (x0 - ((ushr x0 (1 : Int32)) &&& (1431655765 : Int32))) (2 : Int32)) &&& (858993459 : Int32))) + (ushr (((x0 - ((ushr x0 (1 : Int32)) &&& (1431655765 : Int32))) &&& (858993459 : Int32)) + ((ushr (x0 - ((ushr x0 (1 : Int32)) &&& (1431655765 : Int32))) (2 : Int32)) &&& (858993459 : Int32))) (4 : Int32))) &&& (252645135 : Int32)) (8 : Int32))) + (ushr ((((((x0 - ((ushr x0 (1 : Int32)) &&& (1431655765 : Int32))) &&& (858993459 : Int32)) + ((ushr (x0 - ((ushr x0 (1 : Int32)) &&& (1431655765 : Int32))) (2 : Int32)) &&& (858993459 : Int32))) + (ushr (((x0 - ((ushr x0 (1 : Int32)) &&& (1431655765 : Int32))) &&& (858993459 : Int32)) + ((ushr (x0 - ((ushr x0 (1 : Int32)) &&& (1431655765 : Int32))) (2 : Int32)) &&& (858993459 : Int32))) (4 : Int32))) &&& (252645135 : Int32)) + (ushr (((((x0 - ((ushr x0 (1 : Int32)) &&& (1431655765 : Int32))) &&& (858993459 : Int32)) + ((ushr (x0 - ((ushr x0 (1 : Int32)) &&& (1431655765 : Int32))) (2 : Int32)) &&& (858993459 : Int32))) + (ushr (((x0 - ((ushr x0 (1 : Int32)) &&& (1431655765 : Int32))) &&& (858993459 : Int32)) + ((ushr (x0 - ((ushr x0 (1 : Int32)) &&& (1431655765 : Int32))) (2 : Int32)) &&& (858993459 : Int32))) (4 : Int32))) &&& (252645135 : Int32)) (8 : Int32))) (16 : Int32))))] hl dJ6_bitCount_0f7a4_47 rfl (by decide) rfl (fun ls hl => ?_)
  refine z_iload_n C (i := 0) (k := 0) hl dJ6_bitCount_0f7a4_48 rfl rfl ?_
  refine z_bipush C (63 : Int32) dJ6_bitCount_0f7a4_49 (by decide) ?_
  refine z_iand C dJ6_bitCount_0f7a4_51 ?_
  obtain ⟨rfl, rfl⟩ := r2 h
  exact z_iret C dJ6_bitCount_0f7a4_52
def f_X4_isNode (F : Nat) (x1 : Int32) (u : St) : Option (Int32 × St) := (if x1 < 0 then some ((0 : Int32), u) else (if (u.1 22 4) ≤ x1 then some ((0 : Int32), u) else some ((1 : Int32), u)))
set_option maxRecDepth 20000 in
set_option maxHeartbeats 4000000 in
theorem m_X4_isNode (F : Nat) (x1 : Int32) (u : St) (r : Int32) (u' : St)  (h : f_X4_isNode F x1 u = some (r, u')) : Mt yX4_isNode cX4_isNode 2 (some .boolean) 0 (fun ad => [.ref (ad 22), .int x1]) u (fun _ => some (.int r)) u' := by
  refine Mt.of (by decide) (fun ad => Nat.le_of_ble_eq_true rfl) ?_
  intro p l e s m args below meth c D cA ad ls C hl
  have hl : lv_has ls 2 [(0, .ref (ad 22)), (1, .int x1)] := hl
  unfold f_X4_isNode at h
  refine z_iload_n C (i := 1) (k := 1) hl dX4_isNode_0 rfl rfl ?_
  refine z_if_lt C 16 dX4_isNode_1 (by decide) (fun hc2 => ?_) (fun hc2 => ?_)
  · replace h := (if_pos hc2).symm.trans h
    refine z_iconst C (0 : Int32) dX4_isNode_16 (by decide) ?_
    obtain ⟨rfl, rfl⟩ := r2 h
    exact z_zret (by decide) C dX4_isNode_17
  · replace h := (if_neg hc2).symm.trans h
    refine z_iload_n C (i := 1) (k := 1) hl dX4_isNode_4 rfl rfl ?_
    refine z_aload_n C (i := 0) (k := 0) hl dX4_isNode_5 rfl rfl ?_
    refine z_geti C 22 4 fw_X4_24 sh_22 rfl dX4_isNode_6 ?_
    refine z_icmp_ge C 16 dX4_isNode_9 (by decide) (fun hc1 => ?_) (fun hc1 => ?_)
    · replace h := (if_pos hc1).symm.trans h
      refine z_iconst C (0 : Int32) dX4_isNode_16 (by decide) ?_
      obtain ⟨rfl, rfl⟩ := r2 h
      exact z_zret (by decide) C dX4_isNode_17
    · replace h := (if_neg hc1).symm.trans h
      refine z_iconst C (1 : Int32) dX4_isNode_12 (by decide) ?_
      refine z_goto C 17 dX4_isNode_13 (by decide) ?_
      obtain ⟨rfl, rfl⟩ := r2 h
      exact z_zret (by decide) C dX4_isNode_17
def f_X4_delayOf (F : Nat) (x1 : Int32) (u : St) : Option (Int32 × St) := (if x1 < 0 ∨ 10 ≤ x1.toNatClampNeg then none else some ((u.1 23 x1.toNatClampNeg), u))
set_option maxRecDepth 20000 in
set_option maxHeartbeats 4000000 in
theorem m_X4_delayOf (F : Nat) (x1 : Int32) (u : St) (r : Int32) (u' : St)  (h : f_X4_delayOf F x1 u = some (r, u')) : Mt yX4_delayOf cX4_delayOf 2 (some .int) 0 (fun ad => [.ref (ad 22), .int x1]) u (fun _ => some (.int r)) u' := by
  refine Mt.of (by decide) (fun ad => Nat.le_of_ble_eq_true rfl) ?_
  intro p l e s m args below meth c D cA ad ls C hl
  have hl : lv_has ls 2 [(0, .ref (ad 22)), (1, .int x1)] := hl
  unfold f_X4_delayOf at h
  refine z_aload_n C (i := 0) (k := 0) hl dX4_delayOf_0 rfl rfl ?_
  refine z_getr C 22 0 23 fw_X4_9 sh_22 rfl dX4_delayOf_1 ?_
  refine z_iload_n C (i := 1) (k := 1) hl dX4_delayOf_4 rfl rfl ?_
  obtain ⟨hi1, h⟩ := gd h
  refine z_iald C 23 10 sh_23 hi1 dX4_delayOf_5 ?_
  obtain ⟨rfl, rfl⟩ := r2 h
  exact z_iret C dX4_delayOf_6
def f_X8_doneAt (F : Nat) (x1 : Int32) (x2 : Int32) (u : St) : Option (Int32 × St) := (if (1 : Int32) ≤ x2 then (if x1 < 0 ∨ 10 ≤ x1.toNatClampNeg then none else (if x2 < 0 ∨ 201 ≤ x2.toNatClampNeg then none else (if (u.1 (35 + x1.toNatClampNeg) x2.toNatClampNeg) = (-1 : Int32) then some ((-1 : Int32), u) else (Option.bind (f_X4_delayOf F x1 u) (fun w6 => some (((u.1 (35 + x1.toNatClampNeg) x2.toNatClampNeg) + w6.1), w6.2)))))) else some ((0 : Int32), u))
set_option maxRecDepth 20000 in
set_option maxHeartbeats 4000000 in
theorem m_X8_doneAt (F : Nat) (x1 : Int32) (x2 : Int32) (u : St) (r : Int32) (u' : St)  (h : f_X8_doneAt F x1 x2 u = some (r, u')) : Mt yX8_doneAt cX8_doneAt 4 (some .int) 1 (fun ad => [.ref (ad 33), .int x1, .int x2]) u (fun _ => some (.int r)) u' := by
  refine Mt.of (by decide) (fun ad => Nat.le_of_ble_eq_true rfl) ?_
  intro p l e s m args below meth c D cA ad ls C hl
  have hl : lv_has ls 4 [(0, .ref (ad 33)), (1, .int x1), (2, .int x2)] := hl
  unfold f_X8_doneAt at h
  refine z_iload_n C (i := 2) (k := 2) hl dX8_doneAt_0 rfl rfl ?_
  refine z_iconst C (1 : Int32) dX8_doneAt_1 (by decide) ?_
  refine z_icmp_ge C 7 dX8_doneAt_2 (by decide) (fun hc8 => ?_) (fun hc8 => ?_)
  · replace h := (if_pos hc8).symm.trans h
    refine z_aload_n C (i := 0) (k := 0) hl dX8_doneAt_7 rfl rfl ?_
    refine z_getr C 33 1 34 fw_X8_11 sh_33 rfl dX8_doneAt_8 ?_
    refine z_iload_n C (i := 1) (k := 1) hl dX8_doneAt_11 rfl rfl ?_
    obtain ⟨hi1, h⟩ := gd h
    have hi1b : x1.toNatClampNeg < 10 := by omega
    refine z_aald C 34 10 (35 + x1.toNatClampNeg) sh_34 hi1 (shBo hi1b) dX8_doneAt_12 ?_
    refine z_iload_n C (i := 2) (k := 2) hl dX8_doneAt_13 rfl rfl ?_
    obtain ⟨hi2, h⟩ := gd h
    refine z_iald C (35 + x1.toNatClampNeg) 201 (shB hi1b) hi2 dX8_doneAt_14 ?_
    refine z_istore_n C (i := 3) [(3, .int (u.1 (35 + x1.toNatClampNeg) x2.toNatClampNeg)), (0, .ref (ad 33)), (1, .int x1), (2, .int x2)] hl dX8_doneAt_15 rfl (by decide) rfl (fun ls hl => ?_)
    refine z_iload_n C (i := 3) (k := 0) hl dX8_doneAt_16 rfl rfl ?_
    refine z_iconst C (-1 : Int32) dX8_doneAt_17 (by decide) ?_
    refine z_icmp_ne C 25 dX8_doneAt_18 (by decide) (fun hc7 => ?_) (fun hc7 => ?_)
    · replace h := (if_neg hc7).symm.trans h
      refine z_iload_n C (i := 3) (k := 0) hl dX8_doneAt_25 rfl rfl ?_
      refine z_aload_n C (i := 0) (k := 1) hl dX8_doneAt_26 rfl rfl ?_
      refine z_getr C 33 0 22 fw_X8_20 sh_33 rfl dX8_doneAt_27 ?_
      refine z_iload_n C (i := 1) (k := 2) hl dX8_doneAt_30 rfl rfl ?_
      obtain ⟨⟨r5, u3⟩, hc4, h⟩ := bnd h
      try dsimp only at h
      refine z_callV C (ci := 4) [.int x1] [.int (u.1 (35 + x1.toNatClampNeg) x2.toNatClampNeg)] [.int r5, .int (u.1 (35 + x1.toNatClampNeg) x2.toNatClampNeg)] (m_X4_delayOf F _ _ _ _ hc4) cw_X4_delayOf vw_X4_delayOf ml_X8_35 sh_22 rfl rfl rfl rfl hl.1 (Nat.le_of_ble_eq_true rfl) ⟨Nat.le_of_ble_eq_true rfl, Nat.le_of_ble_eq_true rfl⟩ ⟨Nat.le_refl _, Nat.le_refl _⟩ rfl dX8_doneAt_31 ?_
      refine z_iadd C dX8_doneAt_34 ?_
      obtain ⟨rfl, rfl⟩ := r2 h
      exact z_iret C dX8_doneAt_35
    · replace h := (if_pos hc7).symm.trans h
      refine z_iconst C (-1 : Int32) dX8_doneAt_21 (by decide) ?_
      refine z_goto C 35 dX8_doneAt_22 (by decide) ?_
      obtain ⟨rfl, rfl⟩ := r2 h
      exact z_iret C dX8_doneAt_35
  · replace h := (if_neg hc8).symm.trans h
    refine z_iconst C (0 : Int32) dX8_doneAt_5 (by decide) ?_
    obtain ⟨rfl, rfl⟩ := r2 h
    exact z_iret C dX8_doneAt_6
def f_X11_isIn (F : Nat) (x0 : Int32) (x1 : Int32) (u : St) : Option (Int32 × St) := (if ((x0 >>> (x1 &&& 31)) &&& (1 : Int32)) = 0 then some ((0 : Int32), u) else some ((1 : Int32), u))
set_option maxRecDepth 20000 in
set_option maxHeartbeats 4000000 in
theorem m_X11_isIn (F : Nat) (x0 : Int32) (x1 : Int32) (u : St) (r : Int32) (u' : St)  (h : f_X11_isIn F x0 x1 u = some (r, u')) : Mt yX11_isIn cX11_isIn 2 (some .boolean) 0 (fun ad => [.int x0, .int x1]) u (fun _ => some (.int r)) u' := by
  refine Mt.of (by decide) (fun ad => Nat.le_of_ble_eq_true rfl) ?_
  intro p l e s m args below meth c D cA ad ls C hl
  have hl : lv_has ls 2 [(0, .int x0), (1, .int x1)] := hl
  unfold f_X11_isIn at h
  refine z_iload_n C (i := 0) (k := 0) hl dX11_isIn_0 rfl rfl ?_
  refine z_iload_n C (i := 1) (k := 1) hl dX11_isIn_1 rfl rfl ?_
  refine z_ishr C dX11_isIn_2 ?_
  refine z_iconst C (1 : Int32) dX11_isIn_3 (by decide) ?_
  refine z_iand C dX11_isIn_4 ?_
  refine z_if_eq C 12 dX11_isIn_5 (by decide) (fun hc1 => ?_) (fun hc1 => ?_)
  · replace h := (if_pos hc1).symm.trans h
    refine z_iconst C (0 : Int32) dX11_isIn_12 (by decide) ?_
    obtain ⟨rfl, rfl⟩ := r2 h
    exact z_zret (by decide) C dX11_isIn_13
  · replace h := (if_neg hc1).symm.trans h
    refine z_iconst C (1 : Int32) dX11_isIn_8 (by decide) ?_
    refine z_goto C 13 dX11_isIn_9 (by decide) ?_
    obtain ⟨rfl, rfl⟩ := r2 h
    exact z_zret (by decide) C dX11_isIn_13
def f_X4_nodes (F : Nat)  (u : St) : Option (Int32 × St) := some ((u.1 22 4), u)
set_option maxRecDepth 20000 in
set_option maxHeartbeats 4000000 in
theorem m_X4_nodes (F : Nat)  (u : St) (r : Int32) (u' : St)  (h : f_X4_nodes F  u = some (r, u')) : Mt yX4_nodes cX4_nodes 1 (some .int) 0 (fun ad => [.ref (ad 22)]) u (fun _ => some (.int r)) u' := by
  refine Mt.of (by decide) (fun ad => Nat.le_of_ble_eq_true rfl) ?_
  intro p l e s m args below meth c D cA ad ls C hl
  have hl : lv_has ls 1 [(0, .ref (ad 22))] := hl
  unfold f_X4_nodes at h
  refine z_aload_n C (i := 0) (k := 0) hl dX4_nodes_0 rfl rfl ?_
  refine z_geti C 22 4 fw_X4_24 sh_22 rfl dX4_nodes_1 ?_
  obtain ⟨rfl, rfl⟩ := r2 h
  exact z_iret C dX4_nodes_4
def f_X4_sourceOf (F : Nat) (x1 : Int32) (u : St) : Option (Int32 × St) := (if x1 < 0 ∨ 20 ≤ x1.toNatClampNeg then none else some ((u.1 24 x1.toNatClampNeg), u))
set_option maxRecDepth 20000 in
set_option maxHeartbeats 4000000 in
theorem m_X4_sourceOf (F : Nat) (x1 : Int32) (u : St) (r : Int32) (u' : St)  (h : f_X4_sourceOf F x1 u = some (r, u')) : Mt yX4_sourceOf cX4_sourceOf 2 (some .int) 0 (fun ad => [.ref (ad 22), .int x1]) u (fun _ => some (.int r)) u' := by
  refine Mt.of (by decide) (fun ad => Nat.le_of_ble_eq_true rfl) ?_
  intro p l e s m args below meth c D cA ad ls C hl
  have hl : lv_has ls 2 [(0, .ref (ad 22)), (1, .int x1)] := hl
  unfold f_X4_sourceOf at h
  refine z_aload_n C (i := 0) (k := 0) hl dX4_sourceOf_0 rfl rfl ?_
  refine z_getr C 22 1 24 fw_X4_15 sh_22 rfl dX4_sourceOf_1 ?_
  refine z_iload_n C (i := 1) (k := 1) hl dX4_sourceOf_4 rfl rfl ?_
  obtain ⟨hi1, h⟩ := gd h
  refine z_iald C 24 20 sh_24 hi1 dX4_sourceOf_5 ?_
  obtain ⟨rfl, rfl⟩ := r2 h
  exact z_iret C dX4_sourceOf_6
def f_X4_targetOf (F : Nat) (x1 : Int32) (u : St) : Option (Int32 × St) := (if x1 < 0 ∨ 20 ≤ x1.toNatClampNeg then none else some ((u.1 25 x1.toNatClampNeg), u))
set_option maxRecDepth 20000 in
set_option maxHeartbeats 4000000 in
theorem m_X4_targetOf (F : Nat) (x1 : Int32) (u : St) (r : Int32) (u' : St)  (h : f_X4_targetOf F x1 u = some (r, u')) : Mt yX4_targetOf cX4_targetOf 2 (some .int) 0 (fun ad => [.ref (ad 22), .int x1]) u (fun _ => some (.int r)) u' := by
  refine Mt.of (by decide) (fun ad => Nat.le_of_ble_eq_true rfl) ?_
  intro p l e s m args below meth c D cA ad ls C hl
  have hl : lv_has ls 2 [(0, .ref (ad 22)), (1, .int x1)] := hl
  unfold f_X4_targetOf at h
  refine z_aload_n C (i := 0) (k := 0) hl dX4_targetOf_0 rfl rfl ?_
  refine z_getr C 22 2 25 fw_X4_18 sh_22 rfl dX4_targetOf_1 ?_
  refine z_iload_n C (i := 1) (k := 1) hl dX4_targetOf_4 rfl rfl ?_
  obtain ⟨hi1, h⟩ := gd h
  refine z_iald C 25 20 sh_25 hi1 dX4_targetOf_5 ?_
  obtain ⟨rfl, rfl⟩ := r2 h
  exact z_iret C dX4_targetOf_6
def f_X4_tokensOf (F : Nat) (x1 : Int32) (u : St) : Option (Int32 × St) := (if x1 < 0 ∨ 20 ≤ x1.toNatClampNeg then none else some ((u.1 26 x1.toNatClampNeg), u))
set_option maxRecDepth 20000 in
set_option maxHeartbeats 4000000 in
theorem m_X4_tokensOf (F : Nat) (x1 : Int32) (u : St) (r : Int32) (u' : St)  (h : f_X4_tokensOf F x1 u = some (r, u')) : Mt yX4_tokensOf cX4_tokensOf 2 (some .int) 0 (fun ad => [.ref (ad 22), .int x1]) u (fun _ => some (.int r)) u' := by
  refine Mt.of (by decide) (fun ad => Nat.le_of_ble_eq_true rfl) ?_
  intro p l e s m args below meth c D cA ad ls C hl
  have hl : lv_has ls 2 [(0, .ref (ad 22)), (1, .int x1)] := hl
  unfold f_X4_tokensOf at h
  refine z_aload_n C (i := 0) (k := 0) hl dX4_tokensOf_0 rfl rfl ?_
  refine z_getr C 22 3 26 fw_X4_21 sh_22 rfl dX4_tokensOf_1 ?_
  refine z_iload_n C (i := 1) (k := 1) hl dX4_tokensOf_4 rfl rfl ?_
  obtain ⟨hi1, h⟩ := gd h
  refine z_iald C 26 20 sh_26 hi1 dX4_tokensOf_5 ?_
  obtain ⟨rfl, rfl⟩ := r2 h
  exact z_iret C dX4_tokensOf_6
def f_X8_later (F : Nat) (x0 : Int32) (x1 : Int32) (u : St) : Option (Int32 × St) := (if x0 = (-1 : Int32) then some ((-1 : Int32), u) else (if x1 = (-1 : Int32) then some ((-1 : Int32), u) else some ((if x0 < x1 then x1 else x0), u)))
set_option maxRecDepth 20000 in
set_option maxHeartbeats 4000000 in
theorem m_X8_later (F : Nat) (x0 : Int32) (x1 : Int32) (u : St) (r : Int32) (u' : St)  (h : f_X8_later F x0 x1 u = some (r, u')) : Mt yX8_later cX8_later 2 (some .int) 1 (fun ad => [.int x0, .int x1]) u (fun _ => some (.int r)) u' := by
  refine Mt.of (by decide) (fun ad => Nat.le_of_ble_eq_true rfl) ?_
  intro p l e s m args below meth c D cA ad ls C hl
  have hl : lv_has ls 2 [(0, .int x0), (1, .int x1)] := hl
  unfold f_X8_later at h
  refine z_iload_n C (i := 0) (k := 0) hl dX8_later_0 rfl rfl ?_
  refine z_iconst C (-1 : Int32) dX8_later_1 (by decide) ?_
  refine z_icmp_eq C 10 dX8_later_2 (by decide) (fun hc2 => ?_) (fun hc2 => ?_)
  · replace h := (if_pos hc2).symm.trans h
    refine z_iconst C (-1 : Int32) dX8_later_10 (by decide) ?_
    refine z_goto C 19 dX8_later_11 (by decide) ?_
    obtain ⟨rfl, rfl⟩ := r2 h
    exact z_iret C dX8_later_19
  · replace h := (if_neg hc2).symm.trans h
    refine z_iload_n C (i := 1) (k := 1) hl dX8_later_5 rfl rfl ?_
    refine z_iconst C (-1 : Int32) dX8_later_6 (by decide) ?_
    refine z_icmp_ne C 14 dX8_later_7 (by decide) (fun hc1 => ?_) (fun hc1 => ?_)
    · replace h := (if_neg hc1).symm.trans h
      refine z_iload_n C (i := 0) (k := 0) hl dX8_later_14 rfl rfl ?_
      refine z_iload_n C (i := 1) (k := 1) hl dX8_later_15 rfl rfl ?_
      refine z_max C ml_X8_80 hl.1 ⟨Nat.le_of_ble_eq_true rfl, Nat.le_of_ble_eq_true rfl⟩ ⟨Nat.le_refl _, Nat.le_refl _⟩ dX8_later_16 ?_
      obtain ⟨rfl, rfl⟩ := r2 h
      exact z_iret C dX8_later_19
    · replace h := (if_pos hc1).symm.trans h
      refine z_iconst C (-1 : Int32) dX8_later_10 (by decide) ?_
      refine z_goto C 19 dX8_later_11 (by decide) ?_
      obtain ⟨rfl, rfl⟩ := r2 h
      exact z_iret C dX8_later_19
def b_X8_fill_2 (F : Nat) (x1 : Int32) (rec : Int32 → St → Option (Int32 × St)) (x2 : Int32) (u : St) : Option (Int32 × St) := (Option.bind (f_X4_nodes F u) (fun w4 => (if w4.1 ≤ x2 then some (x2, w4.2) else (if x2 < 0 ∨ 10 ≤ x2.toNatClampNeg then none else (Option.bind (f_X11_isIn F (w4.2.1 33 4) x2 w4.2) (fun w9 => (if w9.1 = 0 then (if x1 < 0 ∨ 201 ≤ x1.toNatClampNeg then none else rec ((x2 + (1 : Int32))) (wr w9.2 (35 + x2.toNatClampNeg) x1.toNatClampNeg (-1 : Int32))) else (if x1 < 0 ∨ 201 ≤ x1.toNatClampNeg then none else rec ((x2 + (1 : Int32))) (wr w9.2 (35 + x2.toNatClampNeg) x1.toNatClampNeg (0 : Int32))))))))))
def l_X8_fill_2 (F : Nat) (x1 : Int32) : Nat → Int32 → St → Option (Int32 × St)
  | 0, _, _ => none
  | k + 1, x2, u => b_X8_fill_2 F x1 (l_X8_fill_2 F x1 k) x2 u
def b_X8_fill_45 (F : Nat) (x1 : Int32) (rec : Int32 → St → Option (Int32 × St)) (x2 : Int32) (u : St) : Option (Int32 × St) := (if (u.1 33 3) ≤ x2 then some (x2, u) else (if x2 < 0 ∨ 20 ≤ x2.toNatClampNeg then none else (Option.bind (f_X4_targetOf F (u.1 45 x2.toNatClampNeg) u) (fun w20 => (Option.bind (f_X4_sourceOf F (u.1 45 x2.toNatClampNeg) w20.2) (fun w24 => (Option.bind (f_X4_tokensOf F (u.1 45 x2.toNatClampNeg) w24.2) (fun w28 => (Option.bind (f_X8_doneAt F w24.1 (x1 - w28.1) w28.2) (fun w32 => (if w20.1 < 0 ∨ 10 ≤ w20.1.toNatClampNeg then none else (if w20.1 < 0 ∨ 10 ≤ w20.1.toNatClampNeg then none else (if x1 < 0 ∨ 201 ≤ x1.toNatClampNeg then none else (Option.bind (f_X8_later F (w32.2.1 (35 + w20.1.toNatClampNeg) x1.toNatClampNeg) w32.1 w32.2) (fun w39 => (if x1 < 0 ∨ 201 ≤ x1.toNatClampNeg then none else rec ((x2 + (1 : Int32))) (wr w39.2 (35 + w20.1.toNatClampNeg) x1.toNatClampNeg w39.1)))))))))))))))))
def l_X8_fill_45 (F : Nat) (x1 : Int32) : Nat → Int32 → St → Option (Int32 × St)
  | 0, _, _ => none
  | k + 1, x2, u => b_X8_fill_45 F x1 (l_X8_fill_45 F x1 k) x2 u
def f_X8_fill (F : Nat) (x1 : Int32) (u : St) : Option (St) := (Option.bind (l_X8_fill_2 F x1 F (0 : Int32) u) (fun w14 => (Option.bind (l_X8_fill_45 F x1 F (0 : Int32) w14.2) (fun w42 => some w42.2))))
set_option maxRecDepth 20000 in
set_option maxHeartbeats 4000000 in
theorem zl_X8_fill_2 {p : Program} {l : Launch} {e : Env} {s : State} {m : MethodId} {args : Array Value} {below : List Frame} {meth : Method} {c : Code} {D : va_G} {cA : Nat → ClassId} {ad : Nat → Nat} {Q : State → Prop} (C : Cx SH p s m args meth c cX8_fill 6 none RX8 D cA ad (inAd ad)) (F : Nat) (x1 : Int32)  {out : Int32 × St}  (K : ∀ ls : Array Slot, lv_has ls 6 [(0, .ref (ad 33)), (1, .int x1), (2, .int out.1)] → Z SH p l e (rmD 2) s m args below meth c D cA ad (inAd ad) 0 0 Q out.2 43 ls []) : ∀ (k : Nat) (x2 : Int32) (u : St), l_X8_fill_2 F x1 k x2 u = some out → ∀ ls : Array Slot, lv_has ls 6 [(0, .ref (ad 33)), (1, .int x1), (2, .int x2)] → Z SH p l e (rmD 2) s m args below meth c D cA ad (inAd ad) 0 0 Q u 2 ls [] := by
  intro k
  induction k with
  | zero => intro x2 u h; cases h
  | succ k ih =>
    intro x2 u h ls hl
    replace h : b_X8_fill_2 F x1 (l_X8_fill_2 F x1 k) x2 u = some out := h
    unfold b_X8_fill_2 at h
    refine z_iload_n C (i := 2) (k := 2) hl dX8_fill_2 rfl rfl ?_
    refine z_aload_n C (i := 0) (k := 0) hl dX8_fill_3 rfl rfl ?_
    refine z_getr C 33 0 22 fw_X8_20 sh_33 rfl dX8_fill_4 ?_
    obtain ⟨⟨r3, u1⟩, hc2, h⟩ := bnd h
    try dsimp only at h
    refine z_callV C (ci := 4) [] [.int x2] [.int r3, .int x2] (m_X4_nodes F  _ _ _ hc2) cw_X4_nodes vw_X4_nodes ml_X8_47 sh_22 rfl rfl rfl rfl hl.1 (Nat.le_of_ble_eq_true rfl) ⟨Nat.le_of_ble_eq_true rfl, Nat.le_of_ble_eq_true rfl⟩ ⟨Nat.le_refl _, Nat.le_refl _⟩ rfl dX8_fill_7 ?_
    refine z_icmp_ge C 43 dX8_fill_10 (by decide) (fun hc13 => ?_) (fun hc13 => ?_)
    · replace h := (if_pos hc13).symm.trans h
      obtain rfl := Option.some.inj h
      exact K _ (lv_sub hl [0, 1, 2] rfl)
    · replace h := (if_neg hc13).symm.trans h
      refine z_aload_n C (i := 0) (k := 0) hl dX8_fill_13 rfl rfl ?_
      refine z_getr C 33 1 34 fw_X8_11 sh_33 rfl dX8_fill_14 ?_
      refine z_iload_n C (i := 2) (k := 2) hl dX8_fill_17 rfl rfl ?_
      obtain ⟨hi5, h⟩ := gd h
      have hi5b : x2.toNatClampNeg < 10 := by omega
      refine z_aald C 34 10 (35 + x2.toNatClampNeg) sh_34 hi5 (shBo hi5b) dX8_fill_18 ?_
      refine z_iload_n C (i := 1) (k := 1) hl dX8_fill_19 rfl rfl ?_
      refine z_aload_n C (i := 0) (k := 0) hl dX8_fill_20 rfl rfl ?_
      refine z_geti C 33 4 fw_X8_44 sh_33 rfl dX8_fill_21 ?_
      refine z_iload_n C (i := 2) (k := 2) hl dX8_fill_24 rfl rfl ?_
      obtain ⟨⟨r8, u6⟩, hc7, h⟩ := bnd h
      try dsimp only at h
      refine z_callSN C [.int (u1.1 33 4), .int x2] [.int x1, .ref (ad (35 + x2.toNatClampNeg))] [.int r8, .int x1, .ref (ad (35 + x2.toNatClampNeg))] (m_X11_isIn F _ _ _ _ _ hc7) cw_X11_isIn sw_X11_isIn mn_X8_64 rfl rfl rfl hl.1 (Nat.le_of_ble_eq_true rfl) ⟨Nat.le_of_ble_eq_true rfl, Nat.le_of_ble_eq_true rfl⟩ ⟨Nat.le_refl _, Nat.le_refl _⟩ rfl dX8_fill_25 ?_
      refine z_if_eq C 35 dX8_fill_28 (by decide) (fun hc12 => ?_) (fun hc12 => ?_)
      · replace h := (if_pos hc12).symm.trans h
        refine z_iconst C (-1 : Int32) dX8_fill_35 (by decide) ?_
        obtain ⟨hi10, h⟩ := gd h
        refine z_iast C (35 + x2.toNatClampNeg) 201 (shB hi5b) hi10 dX8_fill_36 ?_
        refine z_iinc C (i := 2) (k := 2) (x2 + (1 : Int32)) [(2, .int (x2 + (1 : Int32))), (0, .ref (ad 33)), (1, .int x1)] hl dX8_fill_37 rfl rfl (by decide) rfl (fun ls hl => ?_)
        refine z_goto C 2 dX8_fill_40 (by decide) ?_
        exact ih _ _ h _ (lv_sub hl [1, 2, 0] rfl)
      · replace h := (if_neg hc12).symm.trans h
        refine z_iconst C (0 : Int32) dX8_fill_31 (by decide) ?_
        refine z_goto C 36 dX8_fill_32 (by decide) ?_
        obtain ⟨hi11, h⟩ := gd h
        refine z_iast C (35 + x2.toNatClampNeg) 201 (shB hi5b) hi11 dX8_fill_36 ?_
        refine z_iinc C (i := 2) (k := 2) (x2 + (1 : Int32)) [(2, .int (x2 + (1 : Int32))), (0, .ref (ad 33)), (1, .int x1)] hl dX8_fill_37 rfl rfl (by decide) rfl (fun ls hl => ?_)
        refine z_goto C 2 dX8_fill_40 (by decide) ?_
        exact ih _ _ h _ (lv_sub hl [1, 2, 0] rfl)
set_option maxRecDepth 20000 in
set_option maxHeartbeats 4000000 in
theorem zl_X8_fill_45 {p : Program} {l : Launch} {e : Env} {s : State} {m : MethodId} {args : Array Value} {below : List Frame} {meth : Method} {c : Code} {D : va_G} {cA : Nat → ClassId} {ad : Nat → Nat} {Q : State → Prop} (C : Cx SH p s m args meth c cX8_fill 6 none RX8 D cA ad (inAd ad)) (F : Nat) (x1 : Int32)  {out : Int32 × St}  (K : ∀ ls : Array Slot, lv_has ls 6 [(0, .ref (ad 33)), (1, .int x1), (2, .int out.1)] → Z SH p l e (rmD 2) s m args below meth c D cA ad (inAd ad) 0 0 Q out.2 123 ls []) : ∀ (k : Nat) (x2 : Int32) (u : St), l_X8_fill_45 F x1 k x2 u = some out → ∀ ls : Array Slot, lv_has ls 6 [(0, .ref (ad 33)), (1, .int x1), (2, .int x2)] → Z SH p l e (rmD 2) s m args below meth c D cA ad (inAd ad) 0 0 Q u 45 ls [] := by
  intro k
  induction k with
  | zero => intro x2 u h; cases h
  | succ k ih =>
    intro x2 u h ls hl
    replace h : b_X8_fill_45 F x1 (l_X8_fill_45 F x1 k) x2 u = some out := h
    unfold b_X8_fill_45 at h
    refine z_iload_n C (i := 2) (k := 2) hl dX8_fill_45 rfl rfl ?_
    refine z_aload_n C (i := 0) (k := 0) hl dX8_fill_46 rfl rfl ?_
    refine z_geti C 33 3 fw_X8_41 sh_33 rfl dX8_fill_47 ?_
    refine z_icmp_ge C 123 dX8_fill_50 (by decide) (fun hc41 => ?_) (fun hc41 => ?_)
    · replace h := (if_pos hc41).symm.trans h
      obtain rfl := Option.some.inj h
      exact K _ (lv_sub hl [0, 1, 2] rfl)
    · replace h := (if_neg hc41).symm.trans h
      refine z_aload_n C (i := 0) (k := 0) hl dX8_fill_53 rfl rfl ?_
      refine z_getr C 33 2 45 fw_X8_16 sh_33 rfl dX8_fill_54 ?_
      refine z_iload_n C (i := 2) (k := 2) hl dX8_fill_57 rfl rfl ?_
      obtain ⟨hi16, h⟩ := gd h
      refine z_iald C 45 20 sh_45 hi16 dX8_fill_58 ?_
      refine z_istore_n C (i := 3) [(3, .int (u.1 45 x2.toNatClampNeg)), (0, .ref (ad 33)), (1, .int x1), (2, .int x2)] hl dX8_fill_59 rfl (by decide) rfl (fun ls hl => ?_)
      refine z_aload_n C (i := 0) (k := 1) hl dX8_fill_60 rfl rfl ?_
      refine z_getr C 33 0 22 fw_X8_20 sh_33 rfl dX8_fill_61 ?_
      refine z_iload_n C (i := 3) (k := 0) hl dX8_fill_64 rfl rfl ?_
      obtain ⟨⟨r19, u17⟩, hc18, h⟩ := bnd h
      try dsimp only at h
      refine z_callV C (ci := 4) [.int (u.1 45 x2.toNatClampNeg)] [] [.int r19] (m_X4_targetOf F _ _ _ _ hc18) cw_X4_targetOf vw_X4_targetOf ml_X8_61 sh_22 rfl rfl rfl rfl hl.1 (Nat.le_of_ble_eq_true rfl) ⟨Nat.le_of_ble_eq_true rfl, Nat.le_of_ble_eq_true rfl⟩ ⟨Nat.le_refl _, Nat.le_refl _⟩ rfl dX8_fill_65 ?_
      refine z_istore C (i := 4) [(4, .int r19), (3, .int (u.1 45 x2.toNatClampNeg)), (0, .ref (ad 33)), (1, .int x1), (2, .int x2)] hl dX8_fill_68 (by decide) rfl (fun ls hl => ?_)
      refine z_aload_n C (i := 0) (k := 2) hl dX8_fill_70 rfl rfl ?_
      refine z_aload_n C (i := 0) (k := 2) hl dX8_fill_71 rfl rfl ?_
      refine z_getr C 33 0 22 fw_X8_20 sh_33 rfl dX8_fill_72 ?_
      refine z_iload_n C (i := 3) (k := 1) hl dX8_fill_75 rfl rfl ?_
      obtain ⟨⟨r23, u21⟩, hc22, h⟩ := bnd h
      try dsimp only at h
      refine z_callV C (ci := 4) [.int (u.1 45 x2.toNatClampNeg)] [.ref (ad 33)] [.int r23, .ref (ad 33)] (m_X4_sourceOf F _ _ _ _ hc22) cw_X4_sourceOf vw_X4_sourceOf ml_X8_68 sh_22 rfl rfl rfl rfl hl.1 (Nat.le_of_ble_eq_true rfl) ⟨Nat.le_of_ble_eq_true rfl, Nat.le_of_ble_eq_true rfl⟩ ⟨Nat.le_refl _, Nat.le_refl _⟩ rfl dX8_fill_76 ?_
      refine z_iload_n C (i := 1) (k := 3) hl dX8_fill_79 rfl rfl ?_
      refine z_aload_n C (i := 0) (k := 2) hl dX8_fill_80 rfl rfl ?_
      refine z_getr C 33 0 22 fw_X8_20 sh_33 rfl dX8_fill_81 ?_
      refine z_iload_n C (i := 3) (k := 1) hl dX8_fill_84 rfl rfl ?_
      obtain ⟨⟨r27, u25⟩, hc26, h⟩ := bnd h
      try dsimp only at h
      refine z_callV C (ci := 4) [.int (u.1 45 x2.toNatClampNeg)] [.int x1, .int r23, .ref (ad 33)] [.int r27, .int x1, .int r23, .ref (ad 33)] (m_X4_tokensOf F _ _ _ _ hc26) cw_X4_tokensOf vw_X4_tokensOf ml_X8_71 sh_22 rfl rfl rfl rfl hl.1 (Nat.le_of_ble_eq_true rfl) ⟨Nat.le_of_ble_eq_true rfl, Nat.le_of_ble_eq_true rfl⟩ ⟨Nat.le_refl _, Nat.le_refl _⟩ rfl dX8_fill_85 ?_
      refine z_isub C dX8_fill_88 ?_
      obtain ⟨⟨r31, u29⟩, hc30, h⟩ := bnd h
      try dsimp only at h
      refine z_callV C (ci := 8) [.int r23, .int (x1 - r27)] [] [.int r31] (m_X8_doneAt F _ _ _ _ _ hc30) cw_X8_doneAt vw_X8_doneAt ml_X8_74 sh_33 rfl rfl rfl rfl hl.1 (Nat.le_of_ble_eq_true rfl) ⟨Nat.le_of_ble_eq_true rfl, Nat.le_of_ble_eq_true rfl⟩ ⟨Nat.le_refl _, Nat.le_refl _⟩ rfl dX8_fill_89 ?_
      refine z_istore C (i := 5) [(5, .int r31), (4, .int r19), (3, .int (u.1 45 x2.toNatClampNeg)), (0, .ref (ad 33)), (1, .int x1), (2, .int x2)] hl dX8_fill_92 (by decide) rfl (fun ls hl => ?_)
      refine z_aload_n C (i := 0) (k := 3) hl dX8_fill_94 rfl rfl ?_
      refine z_getr C 33 1 34 fw_X8_11 sh_33 rfl dX8_fill_95 ?_
      refine z_iload C (i := 4) (k := 1) hl dX8_fill_98 rfl ?_
      obtain ⟨hi33, h⟩ := gd h
      have hi33b : r19.toNatClampNeg < 10 := by omega
      refine z_aald C 34 10 (35 + r19.toNatClampNeg) sh_34 hi33 (shBo hi33b) dX8_fill_100 ?_
      refine z_iload_n C (i := 1) (k := 4) hl dX8_fill_101 rfl rfl ?_
      refine z_aload_n C (i := 0) (k := 3) hl dX8_fill_102 rfl rfl ?_
      refine z_getr C 33 1 34 fw_X8_11 sh_33 rfl dX8_fill_103 ?_
      refine z_iload C (i := 4) (k := 1) hl dX8_fill_106 rfl ?_
      obtain ⟨hi34, h⟩ := gd h
      have hi34b : r19.toNatClampNeg < 10 := by omega
      refine z_aald C 34 10 (35 + r19.toNatClampNeg) sh_34 hi34 (shBo hi34b) dX8_fill_108 ?_
      refine z_iload_n C (i := 1) (k := 4) hl dX8_fill_109 rfl rfl ?_
      obtain ⟨hi35, h⟩ := gd h
      refine z_iald C (35 + r19.toNatClampNeg) 201 (shB hi34b) hi35 dX8_fill_110 ?_
      refine z_iload C (i := 5) (k := 0) hl dX8_fill_111 rfl ?_
      obtain ⟨⟨r38, u36⟩, hc37, h⟩ := bnd h
      try dsimp only at h
      refine z_callS C [.int (u29.1 (35 + r19.toNatClampNeg) x1.toNatClampNeg), .int r31] [.int x1, .ref (ad (35 + r19.toNatClampNeg))] [.int r38, .int x1, .ref (ad (35 + r19.toNatClampNeg))] (m_X8_later F _ _ _ _ _ hc37) cw_X8_later sw_X8_later ml_X8_77 rfl rfl rfl hl.1 (Nat.le_of_ble_eq_true rfl) ⟨Nat.le_of_ble_eq_true rfl, Nat.le_of_ble_eq_true rfl⟩ ⟨Nat.le_refl _, Nat.le_refl _⟩ rfl dX8_fill_113 ?_
      obtain ⟨hi40, h⟩ := gd h
      refine z_iast C (35 + r19.toNatClampNeg) 201 (shB hi33b) hi40 dX8_fill_116 ?_
      refine z_iinc C (i := 2) (k := 5) (x2 + (1 : Int32)) [(2, .int (x2 + (1 : Int32))), (5, .int r31), (4, .int r19), (3, .int (u.1 45 x2.toNatClampNeg)), (0, .ref (ad 33)), (1, .int x1)] hl dX8_fill_117 rfl rfl (by decide) rfl (fun ls hl => ?_)
      refine z_goto C 45 dX8_fill_120 (by decide) ?_
      exact ih _ _ h _ (lv_sub hl [4, 5, 0] rfl)
set_option maxRecDepth 20000 in
set_option maxHeartbeats 4000000 in
theorem m_X8_fill (F : Nat) (x1 : Int32) (u : St) (u' : St)  (h : f_X8_fill F x1 u = some u') : Mt yX8_fill cX8_fill 6 none 2 (fun ad => [.ref (ad 33), .int x1]) u (fun _ => none) u' := by
  refine Mt.of (by decide) (fun ad => Nat.le_of_ble_eq_true rfl) ?_
  intro p l e s m args below meth c D cA ad ls C hl
  have hl : lv_has ls 6 [(0, .ref (ad 33)), (1, .int x1)] := hl
  unfold f_X8_fill at h
  refine z_iconst C (0 : Int32) dX8_fill_0 (by decide) ?_
  refine z_istore_n C (i := 2) [(2, .int (0 : Int32)), (0, .ref (ad 33)), (1, .int x1)] hl dX8_fill_1 rfl (by decide) rfl (fun ls hl => ?_)
  obtain ⟨w14, hw15, h⟩ := bnd h
  refine zl_X8_fill_2 C F x1 (out := w14) (fun ls hl => ?_) F _ _ hw15 _ (lv_sub hl [1, 2, 0] rfl)
  refine z_iconst C (0 : Int32) dX8_fill_43 (by decide) ?_
  refine z_istore_n C (i := 2) [(2, .int (0 : Int32)), (0, .ref (ad 33)), (1, .int x1)] hl dX8_fill_44 rfl (by decide) rfl (fun ls hl => ?_)
  obtain ⟨w42, hw43, h⟩ := bnd h
  refine zl_X8_fill_45 C F x1 (out := w42) (fun ls hl => ?_) F _ _ hw43 _ (lv_sub hl [1, 2, 0] rfl)
  obtain rfl := Option.some.inj h
  exact z_vret C dX8_fill_123
def f_X4_allNodes (F : Nat)  (u : St) : Option (Int32 × St) := some ((((1 : Int32) <<< ((u.1 22 4) &&& 31)) - (1 : Int32)), u)
set_option maxRecDepth 20000 in
set_option maxHeartbeats 4000000 in
theorem m_X4_allNodes (F : Nat)  (u : St) (r : Int32) (u' : St)  (h : f_X4_allNodes F  u = some (r, u')) : Mt yX4_allNodes cX4_allNodes 1 (some .int) 0 (fun ad => [.ref (ad 22)]) u (fun _ => some (.int r)) u' := by
  refine Mt.of (by decide) (fun ad => Nat.le_of_ble_eq_true rfl) ?_
  intro p l e s m args below meth c D cA ad ls C hl
  have hl : lv_has ls 1 [(0, .ref (ad 22))] := hl
  unfold f_X4_allNodes at h
  refine z_iconst C (1 : Int32) dX4_allNodes_0 (by decide) ?_
  refine z_aload_n C (i := 0) (k := 0) hl dX4_allNodes_1 rfl rfl ?_
  refine z_geti C 22 4 fw_X4_24 sh_22 rfl dX4_allNodes_2 ?_
  refine z_ishl C dX4_allNodes_5 ?_
  refine z_iconst C (1 : Int32) dX4_allNodes_6 (by decide) ?_
  refine z_isub C dX4_allNodes_7 ?_
  obtain ⟨rfl, rfl⟩ := r2 h
  exact z_iret C dX4_allNodes_8
def b_X4_freedBy_5 (F : Nat) (x1 : Int32) (x2 : Int32) (rec : Int32 → Int32 → St → Option (Int32 × Int32 × St)) (x3 : Int32) (x4 : Int32) (u : St) : Option (Int32 × Int32 × St) := (if (u.1 22 5) ≤ x4 then some (x3, x4, u) else (if x4 < 0 ∨ 20 ≤ x4.toNatClampNeg then none else (if x2 < (u.1 26 x4.toNatClampNeg) then rec x3 ((x4 + (1 : Int32))) u else (if x4 < 0 ∨ 20 ≤ x4.toNatClampNeg then none else (Option.bind (f_X11_isIn F x1 (u.1 24 x4.toNatClampNeg) u) (fun w6 => (if w6.1 = 0 then (if x4 < 0 ∨ 20 ≤ x4.toNatClampNeg then none else rec ((x3 ||| ((1 : Int32) <<< ((w6.2.1 25 x4.toNatClampNeg) &&& 31)))) ((x4 + (1 : Int32))) w6.2) else rec x3 ((x4 + (1 : Int32))) w6.2)))))))
def l_X4_freedBy_5 (F : Nat) (x1 : Int32) (x2 : Int32) : Nat → Int32 → Int32 → St → Option (Int32 × Int32 × St)
  | 0, _, _, _ => none
  | k + 1, x3, x4, u => b_X4_freedBy_5 F x1 x2 (l_X4_freedBy_5 F x1 x2 k) x3 x4 u
def f_X4_freedBy (F : Nat) (x1 : Int32) (x2 : Int32) (u : St) : Option (Int32 × St) := (Option.bind (l_X4_freedBy_5 F x1 x2 F (0 : Int32) (0 : Int32) u) (fun w11 => (Option.bind (f_X4_allNodes F w11.2.2) (fun w16 => some ((w16.1 &&& (w11.1 ^^^ (-1 : Int32))), w16.2)))))
set_option maxRecDepth 20000 in
set_option maxHeartbeats 4000000 in
theorem zl_X4_freedBy_5 {p : Program} {l : Launch} {e : Env} {s : State} {m : MethodId} {args : Array Value} {below : List Frame} {meth : Method} {c : Code} {D : va_G} {cA : Nat → ClassId} {ad : Nat → Nat} {Q : State → Prop} (C : Cx SH p s m args meth c cX4_freedBy 5 (some .int) RX4 D cA ad (inAd ad)) (F : Nat) (x1 : Int32) (x2 : Int32)  {out : Int32 × Int32 × St}  (K : ∀ ls : Array Slot, lv_has ls 5 [(0, .ref (ad 22)), (1, .int x1), (2, .int x2), (3, .int out.1), (4, .int out.2.1)] → Z SH p l e (rmD 1) s m args below meth c D cA ad (inAd ad) 0 0 Q out.2.2 57 ls []) : ∀ (k : Nat) (x3 : Int32) (x4 : Int32) (u : St), l_X4_freedBy_5 F x1 x2 k x3 x4 u = some out → ∀ ls : Array Slot, lv_has ls 5 [(0, .ref (ad 22)), (1, .int x1), (2, .int x2), (3, .int x3), (4, .int x4)] → Z SH p l e (rmD 1) s m args below meth c D cA ad (inAd ad) 0 0 Q u 5 ls [] := by
  intro k
  induction k with
  | zero => intro x3 x4 u h; cases h
  | succ k ih =>
    intro x3 x4 u h ls hl
    replace h : b_X4_freedBy_5 F x1 x2 (l_X4_freedBy_5 F x1 x2 k) x3 x4 u = some out := h
    unfold b_X4_freedBy_5 at h
    refine z_iload C (i := 4) (k := 4) hl dX4_freedBy_5 rfl ?_
    refine z_aload_n C (i := 0) (k := 0) hl dX4_freedBy_7 rfl rfl ?_
    refine z_geti C 22 5 fw_X4_28 sh_22 rfl dX4_freedBy_8 ?_
    refine z_icmp_ge C 57 dX4_freedBy_11 (by decide) (fun hc10 => ?_) (fun hc10 => ?_)
    · replace h := (if_pos hc10).symm.trans h
      obtain rfl := Option.some.inj h
      exact K _ (lv_sub hl [0, 1, 2, 3, 4] rfl)
    · replace h := (if_neg hc10).symm.trans h
      refine z_aload_n C (i := 0) (k := 0) hl dX4_freedBy_14 rfl rfl ?_
      refine z_getr C 22 3 26 fw_X4_21 sh_22 rfl dX4_freedBy_15 ?_
      refine z_iload C (i := 4) (k := 4) hl dX4_freedBy_18 rfl ?_
      obtain ⟨hi1, h⟩ := gd h
      refine z_iald C 26 20 sh_26 hi1 dX4_freedBy_20 ?_
      refine z_iload_n C (i := 2) (k := 2) hl dX4_freedBy_21 rfl rfl ?_
      refine z_icmp_gt C 51 dX4_freedBy_22 (by decide) (fun hc9 => ?_) (fun hc9 => ?_)
      · replace h := (if_pos hc9).symm.trans h
        refine z_iinc C (i := 4) (k := 4) (x4 + (1 : Int32)) [(4, .int (x4 + (1 : Int32))), (0, .ref (ad 22)), (1, .int x1), (2, .int x2), (3, .int x3)] hl dX4_freedBy_51 rfl rfl (by decide) rfl (fun ls hl => ?_)
        refine z_goto C 5 dX4_freedBy_54 (by decide) ?_
        exact ih _ _ _ h _ (lv_sub hl [1, 2, 3, 4, 0] rfl)
      · replace h := (if_neg hc9).symm.trans h
        refine z_iload_n C (i := 1) (k := 1) hl dX4_freedBy_25 rfl rfl ?_
        refine z_aload_n C (i := 0) (k := 0) hl dX4_freedBy_26 rfl rfl ?_
        refine z_getr C 22 1 24 fw_X4_15 sh_22 rfl dX4_freedBy_27 ?_
        refine z_iload C (i := 4) (k := 4) hl dX4_freedBy_30 rfl ?_
        obtain ⟨hi2, h⟩ := gd h
        refine z_iald C 24 20 sh_24 hi2 dX4_freedBy_32 ?_
        obtain ⟨⟨r5, u3⟩, hc4, h⟩ := bnd h
        try dsimp only at h
        refine z_callSN C [.int x1, .int (u.1 24 x4.toNatClampNeg)] [] [.int r5] (m_X11_isIn F _ _ _ _ _ hc4) cw_X11_isIn sw_X11_isIn mn_X4_50 rfl rfl rfl hl.1 (Nat.le_of_ble_eq_true rfl) ⟨Nat.le_of_ble_eq_true rfl, Nat.le_of_ble_eq_true rfl⟩ ⟨Nat.le_refl _, Nat.le_refl _⟩ rfl dX4_freedBy_33 ?_
        refine z_if_ne C 51 dX4_freedBy_36 (by decide) (fun hc8 => ?_) (fun hc8 => ?_)
        · replace h := (if_neg hc8).symm.trans h
          refine z_iinc C (i := 4) (k := 4) (x4 + (1 : Int32)) [(4, .int (x4 + (1 : Int32))), (0, .ref (ad 22)), (1, .int x1), (2, .int x2), (3, .int x3)] hl dX4_freedBy_51 rfl rfl (by decide) rfl (fun ls hl => ?_)
          refine z_goto C 5 dX4_freedBy_54 (by decide) ?_
          exact ih _ _ _ h _ (lv_sub hl [1, 2, 3, 4, 0] rfl)
        · replace h := (if_pos hc8).symm.trans h
          refine z_iload_n C (i := 3) (k := 3) hl dX4_freedBy_39 rfl rfl ?_
          refine z_iconst C (1 : Int32) dX4_freedBy_40 (by decide) ?_
          refine z_aload_n C (i := 0) (k := 0) hl dX4_freedBy_41 rfl rfl ?_
          refine z_getr C 22 2 25 fw_X4_18 sh_22 rfl dX4_freedBy_42 ?_
          refine z_iload C (i := 4) (k := 4) hl dX4_freedBy_45 rfl ?_
          obtain ⟨hi7, h⟩ := gd h
          refine z_iald C 25 20 sh_25 hi7 dX4_freedBy_47 ?_
          refine z_ishl C dX4_freedBy_48 ?_
          refine z_ior C dX4_freedBy_49 ?_
          refine z_istore_n C (i := 3) [(3, .int (x3 ||| ((1 : Int32) <<< ((u3.1 25 x4.toNatClampNeg) &&& 31)))), (0, .ref (ad 22)), (1, .int x1), (2, .int x2), (4, .int x4)] hl dX4_freedBy_50 rfl (by decide) rfl (fun ls hl => ?_)
          refine z_iinc C (i := 4) (k := 4) (x4 + (1 : Int32)) [(4, .int (x4 + (1 : Int32))), (3, .int (x3 ||| ((1 : Int32) <<< ((u3.1 25 x4.toNatClampNeg) &&& 31)))), (0, .ref (ad 22)), (1, .int x1), (2, .int x2)] hl dX4_freedBy_51 rfl rfl (by decide) rfl (fun ls hl => ?_)
          refine z_goto C 5 dX4_freedBy_54 (by decide) ?_
          exact ih _ _ _ h _ (lv_sub hl [2, 3, 4, 1, 0] rfl)
set_option maxRecDepth 20000 in
set_option maxHeartbeats 4000000 in
theorem m_X4_freedBy (F : Nat) (x1 : Int32) (x2 : Int32) (u : St) (r : Int32) (u' : St)  (h : f_X4_freedBy F x1 x2 u = some (r, u')) : Mt yX4_freedBy cX4_freedBy 5 (some .int) 1 (fun ad => [.ref (ad 22), .int x1, .int x2]) u (fun _ => some (.int r)) u' := by
  refine Mt.of (by decide) (fun ad => Nat.le_of_ble_eq_true rfl) ?_
  intro p l e s m args below meth c D cA ad ls C hl
  have hl : lv_has ls 5 [(0, .ref (ad 22)), (1, .int x1), (2, .int x2)] := hl
  unfold f_X4_freedBy at h
  refine z_iconst C (0 : Int32) dX4_freedBy_0 (by decide) ?_
  refine z_istore_n C (i := 3) [(3, .int (0 : Int32)), (0, .ref (ad 22)), (1, .int x1), (2, .int x2)] hl dX4_freedBy_1 rfl (by decide) rfl (fun ls hl => ?_)
  refine z_iconst C (0 : Int32) dX4_freedBy_2 (by decide) ?_
  refine z_istore C (i := 4) [(4, .int (0 : Int32)), (3, .int (0 : Int32)), (0, .ref (ad 22)), (1, .int x1), (2, .int x2)] hl dX4_freedBy_3 (by decide) rfl (fun ls hl => ?_)
  obtain ⟨w11, hw12, h⟩ := bnd h
  refine zl_X4_freedBy_5 C F x1 x2 (out := w11) (fun ls hl => ?_) F _ _ _ hw12 _ (lv_sub hl [2, 3, 4, 1, 0] rfl)
  refine z_aload_n C (i := 0) (k := 0) hl dX4_freedBy_57 rfl rfl ?_
  obtain ⟨⟨r15, u13⟩, hc14, h⟩ := bnd h
  try dsimp only at h
  refine z_callV C (ci := 4) [] [] [.int r15] (m_X4_allNodes F  _ _ _ hc14) cw_X4_allNodes vw_X4_allNodes ml_X4_46 sh_22 rfl rfl rfl rfl hl.1 (Nat.le_of_ble_eq_true rfl) ⟨Nat.le_of_ble_eq_true rfl, Nat.le_of_ble_eq_true rfl⟩ ⟨Nat.le_refl _, Nat.le_refl _⟩ rfl dX4_freedBy_58 ?_
  refine z_iload_n C (i := 3) (k := 3) hl dX4_freedBy_61 rfl rfl ?_
  refine z_iconst C (-1 : Int32) dX4_freedBy_62 (by decide) ?_
  refine z_ixor C dX4_freedBy_63 ?_
  refine z_iand C dX4_freedBy_64 ?_
  obtain ⟨rfl, rfl⟩ := r2 h
  exact z_iret C dX4_freedBy_65
def f_X4_arcs (F : Nat)  (u : St) : Option (Int32 × St) := some ((u.1 22 5), u)
set_option maxRecDepth 20000 in
set_option maxHeartbeats 4000000 in
theorem m_X4_arcs (F : Nat)  (u : St) (r : Int32) (u' : St)  (h : f_X4_arcs F  u = some (r, u')) : Mt yX4_arcs cX4_arcs 1 (some .int) 0 (fun ad => [.ref (ad 22)]) u (fun _ => some (.int r)) u' := by
  refine Mt.of (by decide) (fun ad => Nat.le_of_ble_eq_true rfl) ?_
  intro p l e s m args below meth c D cA ad ls C hl
  have hl : lv_has ls 1 [(0, .ref (ad 22))] := hl
  unfold f_X4_arcs at h
  refine z_aload_n C (i := 0) (k := 0) hl dX4_arcs_0 rfl rfl ?_
  refine z_geti C 22 5 fw_X4_28 sh_22 rfl dX4_arcs_1 ?_
  obtain ⟨rfl, rfl⟩ := r2 h
  exact z_iret C dX4_arcs_4
def b_X8_appendArcsTo_2 (F : Nat) (x1 : Int32) (rec : Int32 → St → Option (Int32 × St)) (x2 : Int32) (u : St) : Option (Int32 × St) := (Option.bind (f_X4_arcs F u) (fun w4 => (if w4.1 ≤ x2 then some (x2, w4.2) else (Option.bind (f_X4_targetOf F x2 w4.2) (fun w8 => (Option.bind (f_X11_isIn F x1 w8.1 w8.2) (fun w12 => (if w12.1 = 0 then rec ((x2 + (1 : Int32))) w12.2 else (if (20 : Int32) ≤ (w12.2.1 33 3) then rec ((x2 + (1 : Int32))) w12.2 else (if (w12.2.1 33 3) < 0 ∨ 20 ≤ (w12.2.1 33 3).toNatClampNeg then none else rec ((x2 + (1 : Int32))) (wr (wr w12.2 45 (w12.2.1 33 3).toNatClampNeg x2) 33 3 (((wr w12.2 45 (w12.2.1 33 3).toNatClampNeg x2).1 33 3) + (1 : Int32)))))))))))))
def l_X8_appendArcsTo_2 (F : Nat) (x1 : Int32) : Nat → Int32 → St → Option (Int32 × St)
  | 0, _, _ => none
  | k + 1, x2, u => b_X8_appendArcsTo_2 F x1 (l_X8_appendArcsTo_2 F x1 k) x2 u
def f_X8_appendArcsTo (F : Nat) (x1 : Int32) (u : St) : Option (St) := (Option.bind (l_X8_appendArcsTo_2 F x1 F (0 : Int32) u) (fun w17 => some w17.2))
set_option maxRecDepth 20000 in
set_option maxHeartbeats 4000000 in
theorem zl_X8_appendArcsTo_2 {p : Program} {l : Launch} {e : Env} {s : State} {m : MethodId} {args : Array Value} {below : List Frame} {meth : Method} {c : Code} {D : va_G} {cA : Nat → ClassId} {ad : Nat → Nat} {Q : State → Prop} (C : Cx SH p s m args meth c cX8_appendArcsTo 3 none RX8 D cA ad (inAd ad)) (F : Nat) (x1 : Int32)  {out : Int32 × St}  (K : ∀ ls : Array Slot, lv_has ls 3 [(0, .ref (ad 33)), (1, .int x1), (2, .int out.1)] → Z SH p l e (rmD 1) s m args below meth c D cA ad (inAd ad) 0 0 Q out.2 63 ls []) : ∀ (k : Nat) (x2 : Int32) (u : St), l_X8_appendArcsTo_2 F x1 k x2 u = some out → ∀ ls : Array Slot, lv_has ls 3 [(0, .ref (ad 33)), (1, .int x1), (2, .int x2)] → Z SH p l e (rmD 1) s m args below meth c D cA ad (inAd ad) 0 0 Q u 2 ls [] := by
  intro k
  induction k with
  | zero => intro x2 u h; cases h
  | succ k ih =>
    intro x2 u h ls hl
    replace h : b_X8_appendArcsTo_2 F x1 (l_X8_appendArcsTo_2 F x1 k) x2 u = some out := h
    unfold b_X8_appendArcsTo_2 at h
    refine z_iload_n C (i := 2) (k := 2) hl dX8_appendArcsTo_2 rfl rfl ?_
    refine z_aload_n C (i := 0) (k := 0) hl dX8_appendArcsTo_3 rfl rfl ?_
    refine z_getr C 33 0 22 fw_X8_20 sh_33 rfl dX8_appendArcsTo_4 ?_
    obtain ⟨⟨r3, u1⟩, hc2, h⟩ := bnd h
    try dsimp only at h
    refine z_callV C (ci := 4) [] [.int x2] [.int r3, .int x2] (m_X4_arcs F  _ _ _ hc2) cw_X4_arcs vw_X4_arcs ml_X8_58 sh_22 rfl rfl rfl rfl hl.1 (Nat.le_of_ble_eq_true rfl) ⟨Nat.le_of_ble_eq_true rfl, Nat.le_of_ble_eq_true rfl⟩ ⟨Nat.le_refl _, Nat.le_refl _⟩ rfl dX8_appendArcsTo_7 ?_
    refine z_icmp_ge C 63 dX8_appendArcsTo_10 (by decide) (fun hc16 => ?_) (fun hc16 => ?_)
    · replace h := (if_pos hc16).symm.trans h
      obtain rfl := Option.some.inj h
      exact K _ (lv_sub hl [0, 1, 2] rfl)
    · replace h := (if_neg hc16).symm.trans h
      refine z_iload_n C (i := 1) (k := 1) hl dX8_appendArcsTo_13 rfl rfl ?_
      refine z_aload_n C (i := 0) (k := 0) hl dX8_appendArcsTo_14 rfl rfl ?_
      refine z_getr C 33 0 22 fw_X8_20 sh_33 rfl dX8_appendArcsTo_15 ?_
      refine z_iload_n C (i := 2) (k := 2) hl dX8_appendArcsTo_18 rfl rfl ?_
      obtain ⟨⟨r7, u5⟩, hc6, h⟩ := bnd h
      try dsimp only at h
      refine z_callV C (ci := 4) [.int x2] [.int x1] [.int r7, .int x1] (m_X4_targetOf F _ _ _ _ hc6) cw_X4_targetOf vw_X4_targetOf ml_X8_61 sh_22 rfl rfl rfl rfl hl.1 (Nat.le_of_ble_eq_true rfl) ⟨Nat.le_of_ble_eq_true rfl, Nat.le_of_ble_eq_true rfl⟩ ⟨Nat.le_refl _, Nat.le_refl _⟩ rfl dX8_appendArcsTo_19 ?_
      obtain ⟨⟨r11, u9⟩, hc10, h⟩ := bnd h
      try dsimp only at h
      refine z_callSN C [.int x1, .int r7] [] [.int r11] (m_X11_isIn F _ _ _ _ _ hc10) cw_X11_isIn sw_X11_isIn mn_X8_64 rfl rfl rfl hl.1 (Nat.le_of_ble_eq_true rfl) ⟨Nat.le_of_ble_eq_true rfl, Nat.le_of_ble_eq_true rfl⟩ ⟨Nat.le_refl _, Nat.le_refl _⟩ rfl dX8_appendArcsTo_22 ?_
      refine z_if_eq C 57 dX8_appendArcsTo_25 (by decide) (fun hc15 => ?_) (fun hc15 => ?_)
      · replace h := (if_pos hc15).symm.trans h
        refine z_iinc C (i := 2) (k := 2) (x2 + (1 : Int32)) [(2, .int (x2 + (1 : Int32))), (0, .ref (ad 33)), (1, .int x1)] hl dX8_appendArcsTo_57 rfl rfl (by decide) rfl (fun ls hl => ?_)
        refine z_goto C 2 dX8_appendArcsTo_60 (by decide) ?_
        exact ih _ _ h _ (lv_sub hl [1, 2, 0] rfl)
      · replace h := (if_neg hc15).symm.trans h
        refine z_aload_n C (i := 0) (k := 0) hl dX8_appendArcsTo_28 rfl rfl ?_
        refine z_geti C 33 3 fw_X8_41 sh_33 rfl dX8_appendArcsTo_29 ?_
        refine z_bipush C (20 : Int32) dX8_appendArcsTo_32 (by decide) ?_
        refine z_icmp_ge C 57 dX8_appendArcsTo_34 (by decide) (fun hc14 => ?_) (fun hc14 => ?_)
        · replace h := (if_pos hc14).symm.trans h
          refine z_iinc C (i := 2) (k := 2) (x2 + (1 : Int32)) [(2, .int (x2 + (1 : Int32))), (0, .ref (ad 33)), (1, .int x1)] hl dX8_appendArcsTo_57 rfl rfl (by decide) rfl (fun ls hl => ?_)
          refine z_goto C 2 dX8_appendArcsTo_60 (by decide) ?_
          exact ih _ _ h _ (lv_sub hl [1, 2, 0] rfl)
        · replace h := (if_neg hc14).symm.trans h
          refine z_aload_n C (i := 0) (k := 0) hl dX8_appendArcsTo_37 rfl rfl ?_
          refine z_getr C 33 2 45 fw_X8_16 sh_33 rfl dX8_appendArcsTo_38 ?_
          refine z_aload_n C (i := 0) (k := 0) hl dX8_appendArcsTo_41 rfl rfl ?_
          refine z_geti C 33 3 fw_X8_41 sh_33 rfl dX8_appendArcsTo_42 ?_
          refine z_iload_n C (i := 2) (k := 2) hl dX8_appendArcsTo_45 rfl rfl ?_
          obtain ⟨hi13, h⟩ := gd h
          refine z_iast C 45 20 sh_45 hi13 dX8_appendArcsTo_46 ?_
          refine z_aload_n C (i := 0) (k := 0) hl dX8_appendArcsTo_47 rfl rfl ?_
          refine z_dup C dX8_appendArcsTo_48 rfl ?_
          refine z_geti C 33 3 fw_X8_41 sh_33 rfl dX8_appendArcsTo_49 ?_
          refine z_iconst C (1 : Int32) dX8_appendArcsTo_52 (by decide) ?_
          refine z_iadd C dX8_appendArcsTo_53 ?_
          refine z_puti C 33 3 pw_X8_41 sh_33 rfl dX8_appendArcsTo_54 ?_
          refine z_iinc C (i := 2) (k := 2) (x2 + (1 : Int32)) [(2, .int (x2 + (1 : Int32))), (0, .ref (ad 33)), (1, .int x1)] hl dX8_appendArcsTo_57 rfl rfl (by decide) rfl (fun ls hl => ?_)
          refine z_goto C 2 dX8_appendArcsTo_60 (by decide) ?_
          exact ih _ _ h _ (lv_sub hl [1, 2, 0] rfl)
set_option maxRecDepth 20000 in
set_option maxHeartbeats 4000000 in
theorem m_X8_appendArcsTo (F : Nat) (x1 : Int32) (u : St) (u' : St)  (h : f_X8_appendArcsTo F x1 u = some u') : Mt yX8_appendArcsTo cX8_appendArcsTo 3 none 1 (fun ad => [.ref (ad 33), .int x1]) u (fun _ => none) u' := by
  refine Mt.of (by decide) (fun ad => Nat.le_of_ble_eq_true rfl) ?_
  intro p l e s m args below meth c D cA ad ls C hl
  have hl : lv_has ls 3 [(0, .ref (ad 33)), (1, .int x1)] := hl
  unfold f_X8_appendArcsTo at h
  refine z_iconst C (0 : Int32) dX8_appendArcsTo_0 (by decide) ?_
  refine z_istore_n C (i := 2) [(2, .int (0 : Int32)), (0, .ref (ad 33)), (1, .int x1)] hl dX8_appendArcsTo_1 rfl (by decide) rfl (fun ls hl => ?_)
  obtain ⟨w17, hw18, h⟩ := bnd h
  refine zl_X8_appendArcsTo_2 C F x1 (out := w17) (fun ls hl => ?_) F _ _ hw18 _ (lv_sub hl [1, 2, 0] rfl)
  obtain rfl := Option.some.inj h
  exact z_vret C dX8_appendArcsTo_63
def b_X8_orderArcs_12 (F : Nat)  (rec : Int32 → St → Option (Int32 × St)) (x1 : Int32) (u : St) : Option (Int32 × St) := (Option.bind (f_X4_nodes F u) (fun w4 => (if w4.1 ≤ x1 then some (x1, w4.2) else (Option.bind (f_X4_freedBy F (w4.2.1 33 4) (0 : Int32) w4.2) (fun w8 => (Option.bind (f_X8_appendArcsTo F (w8.1 &&& ((w8.2.1 33 4) ^^^ (-1 : Int32))) w8.2) (fun u9 => rec ((x1 + (1 : Int32))) (wr u9 33 4 w8.1))))))))
def l_X8_orderArcs_12 (F : Nat)  : Nat → Int32 → St → Option (Int32 × St)
  | 0, _, _ => none
  | k + 1, x1, u => b_X8_orderArcs_12 F  (l_X8_orderArcs_12 F  k) x1 u
def f_X8_orderArcs (F : Nat)  (u : St) : Option (St) := (Option.bind (l_X8_orderArcs_12 F  F (0 : Int32) (wr (wr u 33 3 (0 : Int32)) 33 4 (0 : Int32))) (fun w12 => some w12.2))
set_option maxRecDepth 20000 in
set_option maxHeartbeats 4000000 in
theorem zl_X8_orderArcs_12 {p : Program} {l : Launch} {e : Env} {s : State} {m : MethodId} {args : Array Value} {below : List Frame} {meth : Method} {c : Code} {D : va_G} {cA : Nat → ClassId} {ad : Nat → Nat} {Q : State → Prop} (C : Cx SH p s m args meth c cX8_orderArcs 3 none RX8 D cA ad (inAd ad)) (F : Nat)   {out : Int32 × St}  (K : ∀ ls : Array Slot, lv_has ls 3 [(0, .ref (ad 33)), (1, .int out.1)] → Z SH p l e (rmD 2) s m args below meth c D cA ad (inAd ad) 0 0 Q out.2 59 ls []) : ∀ (k : Nat) (x1 : Int32) (u : St), l_X8_orderArcs_12 F  k x1 u = some out → ∀ ls : Array Slot, lv_has ls 3 [(0, .ref (ad 33)), (1, .int x1)] → Z SH p l e (rmD 2) s m args below meth c D cA ad (inAd ad) 0 0 Q u 12 ls [] := by
  intro k
  induction k with
  | zero => intro x1 u h; cases h
  | succ k ih =>
    intro x1 u h ls hl
    replace h : b_X8_orderArcs_12 F  (l_X8_orderArcs_12 F  k) x1 u = some out := h
    unfold b_X8_orderArcs_12 at h
    refine z_iload_n C (i := 1) (k := 1) hl dX8_orderArcs_12 rfl rfl ?_
    refine z_aload_n C (i := 0) (k := 0) hl dX8_orderArcs_13 rfl rfl ?_
    refine z_getr C 33 0 22 fw_X8_20 sh_33 rfl dX8_orderArcs_14 ?_
    obtain ⟨⟨r3, u1⟩, hc2, h⟩ := bnd h
    try dsimp only at h
    refine z_callV C (ci := 4) [] [.int x1] [.int r3, .int x1] (m_X4_nodes F  _ _ _ hc2) cw_X4_nodes vw_X4_nodes ml_X8_47 sh_22 rfl rfl rfl rfl hl.1 (Nat.le_of_ble_eq_true rfl) ⟨Nat.le_of_ble_eq_true rfl, Nat.le_of_ble_eq_true rfl⟩ ⟨Nat.le_refl _, Nat.le_refl _⟩ rfl dX8_orderArcs_17 ?_
    refine z_icmp_ge C 59 dX8_orderArcs_20 (by decide) (fun hc11 => ?_) (fun hc11 => ?_)
    · replace h := (if_pos hc11).symm.trans h
      obtain rfl := Option.some.inj h
      exact K _ (lv_sub hl [0, 1] rfl)
    · replace h := (if_neg hc11).symm.trans h
      refine z_aload_n C (i := 0) (k := 0) hl dX8_orderArcs_23 rfl rfl ?_
      refine z_getr C 33 0 22 fw_X8_20 sh_33 rfl dX8_orderArcs_24 ?_
      refine z_aload_n C (i := 0) (k := 0) hl dX8_orderArcs_27 rfl rfl ?_
      refine z_geti C 33 4 fw_X8_44 sh_33 rfl dX8_orderArcs_28 ?_
      refine z_iconst C (0 : Int32) dX8_orderArcs_31 (by decide) ?_
      obtain ⟨⟨r7, u5⟩, hc6, h⟩ := bnd h
      try dsimp only at h
      refine z_callV C (ci := 4) [.int (u1.1 33 4), .int (0 : Int32)] [] [.int r7] (m_X4_freedBy F _ _ _ _ _ hc6) cw_X4_freedBy vw_X4_freedBy ml_X8_51 sh_22 rfl rfl rfl rfl hl.1 (Nat.le_of_ble_eq_true rfl) ⟨Nat.le_of_ble_eq_true rfl, Nat.le_of_ble_eq_true rfl⟩ ⟨Nat.le_refl _, Nat.le_refl _⟩ rfl dX8_orderArcs_32 ?_
      refine z_istore_n C (i := 2) [(2, .int r7), (0, .ref (ad 33)), (1, .int x1)] hl dX8_orderArcs_35 rfl (by decide) rfl (fun ls hl => ?_)
      refine z_aload_n C (i := 0) (k := 1) hl dX8_orderArcs_36 rfl rfl ?_
      refine z_iload_n C (i := 2) (k := 0) hl dX8_orderArcs_37 rfl rfl ?_
      refine z_aload_n C (i := 0) (k := 1) hl dX8_orderArcs_38 rfl rfl ?_
      refine z_geti C 33 4 fw_X8_44 sh_33 rfl dX8_orderArcs_39 ?_
      refine z_iconst C (-1 : Int32) dX8_orderArcs_42 (by decide) ?_
      refine z_ixor C dX8_orderArcs_43 ?_
      refine z_iand C dX8_orderArcs_44 ?_
      obtain ⟨u9, hc10, h⟩ := bnd h
      refine z_callV C (ci := 8) [.int (r7 &&& ((u5.1 33 4) ^^^ (-1 : Int32)))] [] [] (m_X8_appendArcsTo F _ _ _ hc10) cw_X8_appendArcsTo vw_X8_appendArcsTo ml_X8_55 sh_33 rfl rfl rfl rfl hl.1 (Nat.le_of_ble_eq_true rfl) ⟨Nat.le_of_ble_eq_true rfl, Nat.le_of_ble_eq_true rfl⟩ ⟨Nat.le_refl _, Nat.le_refl _⟩ rfl dX8_orderArcs_45 ?_
      refine z_aload_n C (i := 0) (k := 1) hl dX8_orderArcs_48 rfl rfl ?_
      refine z_iload_n C (i := 2) (k := 0) hl dX8_orderArcs_49 rfl rfl ?_
      refine z_puti C 33 4 pw_X8_44 sh_33 rfl dX8_orderArcs_50 ?_
      refine z_iinc C (i := 1) (k := 2) (x1 + (1 : Int32)) [(1, .int (x1 + (1 : Int32))), (2, .int r7), (0, .ref (ad 33))] hl dX8_orderArcs_53 rfl rfl (by decide) rfl (fun ls hl => ?_)
      refine z_goto C 12 dX8_orderArcs_56 (by decide) ?_
      exact ih _ _ h _ (lv_sub hl [2, 0] rfl)
set_option maxRecDepth 20000 in
set_option maxHeartbeats 4000000 in
theorem m_X8_orderArcs (F : Nat)  (u : St) (u' : St)  (h : f_X8_orderArcs F  u = some u') : Mt yX8_orderArcs cX8_orderArcs 3 none 2 (fun ad => [.ref (ad 33)]) u (fun _ => none) u' := by
  refine Mt.of (by decide) (fun ad => Nat.le_of_ble_eq_true rfl) ?_
  intro p l e s m args below meth c D cA ad ls C hl
  have hl : lv_has ls 3 [(0, .ref (ad 33))] := hl
  unfold f_X8_orderArcs at h
  refine z_aload_n C (i := 0) (k := 0) hl dX8_orderArcs_0 rfl rfl ?_
  refine z_iconst C (0 : Int32) dX8_orderArcs_1 (by decide) ?_
  refine z_puti C 33 3 pw_X8_41 sh_33 rfl dX8_orderArcs_2 ?_
  refine z_aload_n C (i := 0) (k := 0) hl dX8_orderArcs_5 rfl rfl ?_
  refine z_iconst C (0 : Int32) dX8_orderArcs_6 (by decide) ?_
  refine z_puti C 33 4 pw_X8_44 sh_33 rfl dX8_orderArcs_7 ?_
  refine z_iconst C (0 : Int32) dX8_orderArcs_10 (by decide) ?_
  refine z_istore_n C (i := 1) [(1, .int (0 : Int32)), (0, .ref (ad 33))] hl dX8_orderArcs_11 rfl (by decide) rfl (fun ls hl => ?_)
  obtain ⟨w12, hw13, h⟩ := bnd h
  refine zl_X8_orderArcs_12 C F (out := w12) (fun ls hl => ?_) F _ _ hw13 _ (lv_sub hl [1, 0] rfl)
  obtain rfl := Option.some.inj h
  exact z_vret C dX8_orderArcs_59
def b_X8_fillTo_18 (F : Nat) (x1 : Int32) (rec : Int32 → St → Option (Int32 × St)) (x2 : Int32) (u : St) : Option (Int32 × St) := (if x1 < x2 then some (x2, u) else (if (200 : Int32) < x2 then some (x2, u) else (Option.bind (f_X8_fill F x2 u) (fun u1 => rec ((x2 + (1 : Int32))) (wr u1 33 5 x2)))))
def l_X8_fillTo_18 (F : Nat) (x1 : Int32) : Nat → Int32 → St → Option (Int32 × St)
  | 0, _, _ => none
  | k + 1, x2, u => b_X8_fillTo_18 F x1 (l_X8_fillTo_18 F x1 k) x2 u
def f_X8_fillTo (F : Nat) (x1 : Int32) (u : St) : Option (St) := (if (u.1 33 5) = 0 then (Option.bind (f_X8_orderArcs F u) (fun u7 => (Option.bind (l_X8_fillTo_18 F x1 F ((u7.1 33 5) + (1 : Int32)) u7) (fun w9 => some w9.2)))) else (Option.bind (l_X8_fillTo_18 F x1 F ((u.1 33 5) + (1 : Int32)) u) (fun w5 => some w5.2)))
set_option maxRecDepth 20000 in
set_option maxHeartbeats 4000000 in
theorem zl_X8_fillTo_18 {p : Program} {l : Launch} {e : Env} {s : State} {m : MethodId} {args : Array Value} {below : List Frame} {meth : Method} {c : Code} {D : va_G} {cA : Nat → ClassId} {ad : Nat → Nat} {Q : State → Prop} (C : Cx SH p s m args meth c cX8_fillTo 3 none RX8 D cA ad (inAd ad)) (F : Nat) (x1 : Int32)  {out : Int32 × St}  (K : ∀ ls : Array Slot, lv_has ls 3 [(0, .ref (ad 33)), (1, .int x1), (2, .int out.1)] → Z SH p l e (rmD 3) s m args below meth c D cA ad (inAd ad) 0 0 Q out.2 46 ls []) : ∀ (k : Nat) (x2 : Int32) (u : St), l_X8_fillTo_18 F x1 k x2 u = some out → ∀ ls : Array Slot, lv_has ls 3 [(0, .ref (ad 33)), (1, .int x1), (2, .int x2)] → Z SH p l e (rmD 3) s m args below meth c D cA ad (inAd ad) 0 0 Q u 18 ls [] := by
  intro k
  induction k with
  | zero => intro x2 u h; cases h
  | succ k ih =>
    intro x2 u h ls hl
    replace h : b_X8_fillTo_18 F x1 (l_X8_fillTo_18 F x1 k) x2 u = some out := h
    unfold b_X8_fillTo_18 at h
    refine z_iload_n C (i := 2) (k := 2) hl dX8_fillTo_18 rfl rfl ?_
    refine z_iload_n C (i := 1) (k := 1) hl dX8_fillTo_19 rfl rfl ?_
    refine z_icmp_gt C 46 dX8_fillTo_20 (by decide) (fun hc4 => ?_) (fun hc4 => ?_)
    · replace h := (if_pos hc4).symm.trans h
      obtain rfl := Option.some.inj h
      exact K _ (lv_sub hl [0, 1, 2] rfl)
    · replace h := (if_neg hc4).symm.trans h
      refine z_iload_n C (i := 2) (k := 2) hl dX8_fillTo_23 rfl rfl ?_
      refine z_sipush C (200 : Int32) dX8_fillTo_24 (by decide) ?_
      refine z_icmp_gt C 46 dX8_fillTo_27 (by decide) (fun hc3 => ?_) (fun hc3 => ?_)
      · replace h := (if_pos hc3).symm.trans h
        obtain rfl := Option.some.inj h
        exact K _ (lv_sub hl [0, 1, 2] rfl)
      · replace h := (if_neg hc3).symm.trans h
        refine z_aload_n C (i := 0) (k := 0) hl dX8_fillTo_30 rfl rfl ?_
        refine z_iload_n C (i := 2) (k := 2) hl dX8_fillTo_31 rfl rfl ?_
        obtain ⟨u1, hc2, h⟩ := bnd h
        refine z_callV C (ci := 8) [.int x2] [] [] (m_X8_fill F _ _ _ hc2) cw_X8_fill vw_X8_fill ml_X8_31 sh_33 rfl rfl rfl rfl hl.1 (Nat.le_of_ble_eq_true rfl) ⟨Nat.le_of_ble_eq_true rfl, Nat.le_of_ble_eq_true rfl⟩ ⟨Nat.le_refl _, Nat.le_refl _⟩ rfl dX8_fillTo_32 ?_
        refine z_aload_n C (i := 0) (k := 0) hl dX8_fillTo_35 rfl rfl ?_
        refine z_iload_n C (i := 2) (k := 2) hl dX8_fillTo_36 rfl rfl ?_
        refine z_puti C 33 5 pw_X8_24 sh_33 rfl dX8_fillTo_37 ?_
        refine z_iinc C (i := 2) (k := 2) (x2 + (1 : Int32)) [(2, .int (x2 + (1 : Int32))), (0, .ref (ad 33)), (1, .int x1)] hl dX8_fillTo_40 rfl rfl (by decide) rfl (fun ls hl => ?_)
        refine z_goto C 18 dX8_fillTo_43 (by decide) ?_
        exact ih _ _ h _ (lv_sub hl [1, 2, 0] rfl)
set_option maxRecDepth 20000 in
set_option maxHeartbeats 4000000 in
theorem m_X8_fillTo (F : Nat) (x1 : Int32) (u : St) (u' : St)  (h : f_X8_fillTo F x1 u = some u') : Mt yX8_fillTo cX8_fillTo 3 none 3 (fun ad => [.ref (ad 33), .int x1]) u (fun _ => none) u' := by
  refine Mt.of (by decide) (fun ad => Nat.le_of_ble_eq_true rfl) ?_
  intro p l e s m args below meth c D cA ad ls C hl
  have hl : lv_has ls 3 [(0, .ref (ad 33)), (1, .int x1)] := hl
  unfold f_X8_fillTo at h
  refine z_aload_n C (i := 0) (k := 0) hl dX8_fillTo_0 rfl rfl ?_
  refine z_geti C 33 5 fw_X8_24 sh_33 rfl dX8_fillTo_1 ?_
  refine z_if_ne C 11 dX8_fillTo_4 (by decide) (fun hc11 => ?_) (fun hc11 => ?_)
  · replace h := (if_neg hc11).symm.trans h
    refine z_aload_n C (i := 0) (k := 0) hl dX8_fillTo_11 rfl rfl ?_
    refine z_geti C 33 5 fw_X8_24 sh_33 rfl dX8_fillTo_12 ?_
    refine z_iconst C (1 : Int32) dX8_fillTo_15 (by decide) ?_
    refine z_iadd C dX8_fillTo_16 ?_
    refine z_istore_n C (i := 2) [(2, .int ((u.1 33 5) + (1 : Int32))), (0, .ref (ad 33)), (1, .int x1)] hl dX8_fillTo_17 rfl (by decide) rfl (fun ls hl => ?_)
    obtain ⟨w5, hw6, h⟩ := bnd h
    refine zl_X8_fillTo_18 C F x1 (out := w5) (fun ls hl => ?_) F _ _ hw6 _ (lv_sub hl [1, 2, 0] rfl)
    obtain rfl := Option.some.inj h
    exact z_vret C dX8_fillTo_46
  · replace h := (if_pos hc11).symm.trans h
    refine z_aload_n C (i := 0) (k := 0) hl dX8_fillTo_7 rfl rfl ?_
    obtain ⟨u7, hc8, h⟩ := bnd h
    refine z_callV C (ci := 8) [] [] [] (m_X8_orderArcs F  _ _ hc8) cw_X8_orderArcs vw_X8_orderArcs ml_X8_28 sh_33 rfl rfl rfl rfl hl.1 (Nat.le_of_ble_eq_true rfl) ⟨Nat.le_of_ble_eq_true rfl, Nat.le_of_ble_eq_true rfl⟩ ⟨Nat.le_refl _, Nat.le_refl _⟩ rfl dX8_fillTo_8 ?_
    refine z_aload_n C (i := 0) (k := 0) hl dX8_fillTo_11 rfl rfl ?_
    refine z_geti C 33 5 fw_X8_24 sh_33 rfl dX8_fillTo_12 ?_
    refine z_iconst C (1 : Int32) dX8_fillTo_15 (by decide) ?_
    refine z_iadd C dX8_fillTo_16 ?_
    refine z_istore_n C (i := 2) [(2, .int ((u7.1 33 5) + (1 : Int32))), (0, .ref (ad 33)), (1, .int x1)] hl dX8_fillTo_17 rfl (by decide) rfl (fun ls hl => ?_)
    obtain ⟨w9, hw10, h⟩ := bnd h
    refine zl_X8_fillTo_18 C F x1 (out := w9) (fun ls hl => ?_) F _ _ hw10 _ (lv_sub hl [1, 2, 0] rfl)
    obtain rfl := Option.some.inj h
    exact z_vret C dX8_fillTo_46
def f_X0_isPair (F : Nat) (x1 : Int32) (x2 : Int32) (u : St) : Option (Int32 × St) := (if x1 < 0 ∨ 12 ≤ x1.toNatClampNeg then none else (Option.bind (f_X11_isIn F (u.1 6 x1.toNatClampNeg) x2 u) (fun w5 => (if w5.1 = 0 ∨ w5.1 = 1 then some (w5.1, w5.2) else none))))
set_option maxRecDepth 20000 in
set_option maxHeartbeats 4000000 in
theorem m_X0_isPair (F : Nat) (x1 : Int32) (x2 : Int32) (u : St) (r : Int32) (u' : St)  (h : f_X0_isPair F x1 x2 u = some (r, u')) : Mt yX0_isPair cX0_isPair 3 (some .boolean) 1 (fun ad => [.ref (ad 4), .int x1, .int x2]) u (fun _ => some (.int r)) u' := by
  refine Mt.of (by decide) (fun ad => Nat.le_of_ble_eq_true rfl) ?_
  intro p l e s m args below meth c D cA ad ls C hl
  have hl : lv_has ls 3 [(0, .ref (ad 4)), (1, .int x1), (2, .int x2)] := hl
  unfold f_X0_isPair at h
  refine z_aload_n C (i := 0) (k := 0) hl dX0_isPair_0 rfl rfl ?_
  refine z_getr C 4 1 6 fw_X0_15 sh_4 rfl dX0_isPair_1 ?_
  refine z_iload_n C (i := 1) (k := 1) hl dX0_isPair_4 rfl rfl ?_
  obtain ⟨hi1, h⟩ := gd h
  refine z_iald C 6 12 sh_6 hi1 dX0_isPair_5 ?_
  refine z_iload_n C (i := 2) (k := 2) hl dX0_isPair_6 rfl rfl ?_
  obtain ⟨⟨r4, u2⟩, hc3, h⟩ := bnd h
  try dsimp only at h
  refine z_callSN C [.int (u.1 6 x1.toNatClampNeg), .int x2] [] [.int r4] (m_X11_isIn F _ _ _ _ _ hc3) cw_X11_isIn sw_X11_isIn mn_X0_51 rfl rfl rfl hl.1 (Nat.le_of_ble_eq_true rfl) ⟨Nat.le_of_ble_eq_true rfl, Nat.le_of_ble_eq_true rfl⟩ ⟨Nat.le_refl _, Nat.le_refl _⟩ rfl dX0_isPair_7 ?_
  obtain ⟨hz6, h⟩ := gp h
  obtain ⟨rfl, rfl⟩ := r2 h
  exact z_zret hz6 C dX0_isPair_10
def f_X0_turnPair (F : Nat) (x1 : Int32) (x2 : Int32) (u : St) : Option (St) := (if x1 < 0 ∨ 12 ≤ x1.toNatClampNeg then none else (if x1 < 0 ∨ 12 ≤ x1.toNatClampNeg then none else (if x2 < 0 ∨ 12 ≤ x2.toNatClampNeg then none else (if x2 < 0 ∨ 12 ≤ x2.toNatClampNeg then none else some (wr (wr u 6 x1.toNatClampNeg ((u.1 6 x1.toNatClampNeg) ^^^ ((1 : Int32) <<< (x2 &&& 31)))) 6 x2.toNatClampNeg (((wr u 6 x1.toNatClampNeg ((u.1 6 x1.toNatClampNeg) ^^^ ((1 : Int32) <<< (x2 &&& 31)))).1 6 x2.toNatClampNeg) ^^^ ((1 : Int32) <<< (x1 &&& 31))))))))
set_option maxRecDepth 20000 in
set_option maxHeartbeats 4000000 in
theorem m_X0_turnPair (F : Nat) (x1 : Int32) (x2 : Int32) (u : St) (u' : St)  (h : f_X0_turnPair F x1 x2 u = some u') : Mt yX0_turnPair cX0_turnPair 3 none 0 (fun ad => [.ref (ad 4), .int x1, .int x2]) u (fun _ => none) u' := by
  refine Mt.of (by decide) (fun ad => Nat.le_of_ble_eq_true rfl) ?_
  intro p l e s m args below meth c D cA ad ls C hl
  have hl : lv_has ls 3 [(0, .ref (ad 4)), (1, .int x1), (2, .int x2)] := hl
  unfold f_X0_turnPair at h
  refine z_aload_n C (i := 0) (k := 0) hl dX0_turnPair_0 rfl rfl ?_
  refine z_getr C 4 1 6 fw_X0_15 sh_4 rfl dX0_turnPair_1 ?_
  refine z_iload_n C (i := 1) (k := 1) hl dX0_turnPair_4 rfl rfl ?_
  refine z_dup2 C dX0_turnPair_5 rfl rfl ?_
  obtain ⟨hi1, h⟩ := gd h
  refine z_iald C 6 12 sh_6 hi1 dX0_turnPair_6 ?_
  refine z_iconst C (1 : Int32) dX0_turnPair_7 (by decide) ?_
  refine z_iload_n C (i := 2) (k := 2) hl dX0_turnPair_8 rfl rfl ?_
  refine z_ishl C dX0_turnPair_9 ?_
  refine z_ixor C dX0_turnPair_10 ?_
  obtain ⟨hi2, h⟩ := gd h
  refine z_iast C 6 12 sh_6 hi2 dX0_turnPair_11 ?_
  refine z_aload_n C (i := 0) (k := 0) hl dX0_turnPair_12 rfl rfl ?_
  refine z_getr C 4 1 6 fw_X0_15 sh_4 rfl dX0_turnPair_13 ?_
  refine z_iload_n C (i := 2) (k := 2) hl dX0_turnPair_16 rfl rfl ?_
  refine z_dup2 C dX0_turnPair_17 rfl rfl ?_
  obtain ⟨hi3, h⟩ := gd h
  refine z_iald C 6 12 sh_6 hi3 dX0_turnPair_18 ?_
  refine z_iconst C (1 : Int32) dX0_turnPair_19 (by decide) ?_
  refine z_iload_n C (i := 1) (k := 1) hl dX0_turnPair_20 rfl rfl ?_
  refine z_ishl C dX0_turnPair_21 ?_
  refine z_ixor C dX0_turnPair_22 ?_
  obtain ⟨hi4, h⟩ := gd h
  refine z_iast C 6 12 sh_6 hi4 dX0_turnPair_23 ?_
  obtain rfl := Option.some.inj h
  exact z_vret C dX0_turnPair_24
