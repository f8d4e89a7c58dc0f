def f_X3_isLive (F : Nat) (x1 : Int32) (u : St) : Option (Int32 × St) := (Option.bind (f_X11_isIn F (u.1 18 5) x1 u) (fun w4 => (if w4.1 = 0 then (Option.bind (f_X3_leadsThereFromAll F x1 (wr w4.2 18 5 ((w4.2.1 18 5) ||| ((1 : Int32) <<< (x1 &&& 31))))) (fun w13 => (if w13.1 = 0 then (Option.bind (f_X11_isIn F (w13.2.1 18 6) x1 w13.2) (fun w17 => (if w17.1 = 0 ∨ w17.1 = 1 then some (w17.1, w17.2) else none))) else (Option.bind (f_X11_isIn F ((wr w13.2 18 6 ((w13.2.1 18 6) ||| ((1 : Int32) <<< (x1 &&& 31)))).1 18 6) x1 (wr w13.2 18 6 ((w13.2.1 18 6) ||| ((1 : Int32) <<< (x1 &&& 31))))) (fun w22 => (if w22.1 = 0 ∨ w22.1 = 1 then some (w22.1, w22.2) else none)))))) else (Option.bind (f_X11_isIn F (w4.2.1 18 6) x1 w4.2) (fun w8 => (if w8.1 = 0 ∨ w8.1 = 1 then some (w8.1, w8.2) else none))))))
set_option maxRecDepth 20000 in
set_option maxHeartbeats 4000000 in
theorem m_X3_isLive (F : Nat) (x1 : Int32) (u : St) (r : Int32) (u' : St)  (h : f_X3_isLive F x1 u = some (r, u')) : Mt yX3_isLive cX3_isLive 2 (some .boolean) 4 (fun ad => [.ref (ad 18), .int x1]) u (fun _ => some (.int r)) u' := by
  refine Mt.of (by decide) (fun ad => Nat.le_of_ble_eq_true rfl) ?_
  intro p l e s m args below meth c D cA ad ls C hl
  have hl : lv_has ls 2 [(0, .ref (ad 18)), (1, .int x1)] := hl
  unfold f_X3_isLive at h
  refine z_aload_n C (i := 0) (k := 0) hl dX3_isLive_0 rfl rfl ?_
  refine z_geti C 18 5 fw_X3_27 sh_18 rfl dX3_isLive_1 ?_
  refine z_iload_n C (i := 1) (k := 1) hl dX3_isLive_4 rfl rfl ?_
  obtain ⟨⟨r3, u1⟩, hc2, h⟩ := bnd h
  try dsimp only at h
  refine z_callSN C [.int (u.1 18 5), .int x1] [] [.int r3] (m_X11_isIn F _ _ _ _ _ hc2) cw_X11_isIn sw_X11_isIn mn_X3_34 rfl rfl rfl hl.1 (Nat.le_of_ble_eq_true rfl) ⟨Nat.le_of_ble_eq_true rfl, Nat.le_of_ble_eq_true rfl⟩ ⟨Nat.le_refl _, Nat.le_refl _⟩ rfl dX3_isLive_5 ?_
  refine z_if_ne C 43 dX3_isLive_8 (by decide) (fun hc25 => ?_) (fun hc25 => ?_)
  · replace h := (if_neg hc25).symm.trans h
    refine z_aload_n C (i := 0) (k := 0) hl dX3_isLive_43 rfl rfl ?_
    refine z_geti C 18 6 fw_X3_31 sh_18 rfl dX3_isLive_44 ?_
    refine z_iload_n C (i := 1) (k := 1) hl dX3_isLive_47 rfl rfl ?_
    obtain ⟨⟨r7, u5⟩, hc6, h⟩ := bnd h
    try dsimp only at h
    refine z_callSN C [.int (u1.1 18 6), .int x1] [] [.int r7] (m_X11_isIn F _ _ _ _ _ hc6) cw_X11_isIn sw_X11_isIn mn_X3_34 rfl rfl rfl hl.1 (Nat.le_of_ble_eq_true rfl) ⟨Nat.le_of_ble_eq_true rfl, Nat.le_of_ble_eq_true rfl⟩ ⟨Nat.le_refl _, Nat.le_refl _⟩ rfl dX3_isLive_48 ?_
    obtain ⟨hz9, h⟩ := gp h
    obtain ⟨rfl, rfl⟩ := r2 h
    exact z_zret hz9 C dX3_isLive_51
  · replace h := (if_pos hc25).symm.trans h
    refine z_aload_n C (i := 0) (k := 0) hl dX3_isLive_11 rfl rfl ?_
    refine z_dup C dX3_isLive_12 rfl ?_
    refine z_geti C 18 5 fw_X3_27 sh_18 rfl dX3_isLive_13 ?_
    refine z_iconst C (1 : Int32) dX3_isLive_16 (by decide) ?_
    refine z_iload_n C (i := 1) (k := 1) hl dX3_isLive_17 rfl rfl ?_
    refine z_ishl C dX3_isLive_18 ?_
    refine z_ior C dX3_isLive_19 ?_
    refine z_puti C 18 5 pw_X3_27 sh_18 rfl dX3_isLive_20 ?_
    refine z_aload_n C (i := 0) (k := 0) hl dX3_isLive_23 rfl rfl ?_
    refine z_iload_n C (i := 1) (k := 1) hl dX3_isLive_24 rfl rfl ?_
    obtain ⟨⟨r12, u10⟩, hc11, h⟩ := bnd h
    try dsimp only at h
    refine z_callV C (ci := 3) [.int x1] [] [.int r12] (m_X3_leadsThereFromAll F _ _ _ _ hc11) cw_X3_leadsThereFromAll vw_X3_leadsThereFromAll ml_X3_38 sh_18 rfl rfl rfl rfl hl.1 (Nat.le_of_ble_eq_true rfl) ⟨Nat.le_of_ble_eq_true rfl, Nat.le_of_ble_eq_true rfl⟩ ⟨Nat.le_refl _, Nat.le_refl _⟩ rfl dX3_isLive_25 ?_
    refine z_if_eq C 43 dX3_isLive_28 (by decide) (fun hc24 => ?_) (fun hc24 => ?_)
    · replace h := (if_pos hc24).symm.trans h
      refine z_aload_n C (i := 0) (k := 0) hl dX3_isLive_43 rfl rfl ?_
      refine z_geti C 18 6 fw_X3_31 sh_18 rfl dX3_isLive_44 ?_
      refine z_iload_n C (i := 1) (k := 1) hl dX3_isLive_47 rfl rfl ?_
      obtain ⟨⟨r16, u14⟩, hc15, h⟩ := bnd h
      try dsimp only at h
      refine z_callSN C [.int (u10.1 18 6), .int x1] [] [.int r16] (m_X11_isIn F _ _ _ _ _ hc15) cw_X11_isIn sw_X11_isIn mn_X3_34 rfl rfl rfl hl.1 (Nat.le_of_ble_eq_true rfl) ⟨Nat.le_of_ble_eq_true rfl, Nat.le_of_ble_eq_true rfl⟩ ⟨Nat.le_refl _, Nat.le_refl _⟩ rfl dX3_isLive_48 ?_
      obtain ⟨hz18, h⟩ := gp h
      obtain ⟨rfl, rfl⟩ := r2 h
      exact z_zret hz18 C dX3_isLive_51
    · replace h := (if_neg hc24).symm.trans h
      refine z_aload_n C (i := 0) (k := 0) hl dX3_isLive_31 rfl rfl ?_
      refine z_dup C dX3_isLive_32 rfl ?_
      refine z_geti C 18 6 fw_X3_31 sh_18 rfl dX3_isLive_33 ?_
      refine z_iconst C (1 : Int32) dX3_isLive_36 (by decide) ?_
      refine z_iload_n C (i := 1) (k := 1) hl dX3_isLive_37 rfl rfl ?_
      refine z_ishl C dX3_isLive_38 ?_
      refine z_ior C dX3_isLive_39 ?_
      refine z_puti C 18 6 pw_X3_31 sh_18 rfl dX3_isLive_40 ?_
      refine z_aload_n C (i := 0) (k := 0) hl dX3_isLive_43 rfl rfl ?_
      refine z_geti C 18 6 fw_X3_31 sh_18 rfl dX3_isLive_44 ?_
      refine z_iload_n C (i := 1) (k := 1) hl dX3_isLive_47 rfl rfl ?_
      obtain ⟨⟨r21, u19⟩, hc20, h⟩ := bnd h
      try dsimp only at h
      refine z_callSN C [.int ((wr u10 18 6 ((u10.1 18 6) ||| ((1 : Int32) <<< (x1 &&& 31)))).1 18 6), .int x1] [] [.int r21] (m_X11_isIn F _ _ _ _ _ hc20) cw_X11_isIn sw_X11_isIn mn_X3_34 rfl rfl rfl hl.1 (Nat.le_of_ble_eq_true rfl) ⟨Nat.le_of_ble_eq_true rfl, Nat.le_of_ble_eq_true rfl⟩ ⟨Nat.le_refl _, Nat.le_refl _⟩ rfl dX3_isLive_48 ?_
      obtain ⟨hz23, h⟩ := gp h
      obtain ⟨rfl, rfl⟩ := r2 h
      exact z_zret hz23 C dX3_isLive_51
def f_X11_live (F : Nat) (x1 : Int32) (u : St) : Option (Int32 × St) := (Option.bind (f_X11_isSignal F x1 u) (fun w4 => (if w4.1 = 0 then some ((-1 : Int32), w4.2) else (Option.bind (f_X10_renew F w4.2) (fun u5 => (Option.bind (f_X3_isLive F x1 u5) (fun w10 => (if w10.1 = 0 then some ((0 : Int32), w10.2) else some ((1 : Int32), w10.2)))))))))
set_option maxRecDepth 20000 in
set_option maxHeartbeats 4000000 in
theorem m_X11_live (F : Nat) (x1 : Int32) (u : St) (r : Int32) (u' : St)  (h : f_X11_live F x1 u = some (r, u')) : Mt yX11_live cX11_live 2 (some .int) 5 (fun ad => [.ref (ad 0), .int x1]) u (fun _ => some (.int r)) u' := by
  refine Mt.of (by decide) (fun ad => Nat.le_of_ble_eq_true rfl) ?_
  intro p l e s m args below meth c D cA ad ls C hl
  have hl : lv_has ls 2 [(0, .ref (ad 0)), (1, .int x1)] := hl
  unfold f_X11_live at h
  refine z_iload_n C (i := 1) (k := 1) hl dX11_live_0 rfl rfl ?_
  obtain ⟨⟨r3, u1⟩, hc2, h⟩ := bnd h
  try dsimp only at h
  refine z_callS C [.int x1] [] [.int r3] (m_X11_isSignal F _ _ _ _ hc2) cw_X11_isSignal sw_X11_isSignal ml_X11_121 rfl rfl rfl hl.1 (Nat.le_of_ble_eq_true rfl) ⟨Nat.le_of_ble_eq_true rfl, Nat.le_of_ble_eq_true rfl⟩ ⟨Nat.le_refl _, Nat.le_refl _⟩ rfl dX11_live_1 ?_
  refine z_if_ne C 9 dX11_live_4 (by decide) (fun hc12 => ?_) (fun hc12 => ?_)
  · replace h := (if_neg hc12).symm.trans h
    refine z_aload_n C (i := 0) (k := 0) hl dX11_live_9 rfl rfl ?_
    refine z_getr C 0 3 11 fw_X11_37 sh_0 rfl dX11_live_10 ?_
    obtain ⟨u5, hc6, h⟩ := bnd h
    refine z_callV C (ci := 10) [] [] [] (m_X10_renew F  _ _ hc6) cw_X10_renew vw_X10_renew ml_X11_144 sh_11 rfl rfl rfl rfl hl.1 (Nat.le_of_ble_eq_true rfl) ⟨Nat.le_of_ble_eq_true rfl, Nat.le_of_ble_eq_true rfl⟩ ⟨Nat.le_refl _, Nat.le_refl _⟩ rfl dX11_live_13 ?_
    refine z_aload_n C (i := 0) (k := 0) hl dX11_live_16 rfl rfl ?_
    refine z_getr C 0 5 18 fw_X11_53 sh_0 rfl dX11_live_17 ?_
    refine z_iload_n C (i := 1) (k := 1) hl dX11_live_20 rfl rfl ?_
    obtain ⟨⟨r9, u7⟩, hc8, h⟩ := bnd h
    try dsimp only at h
    refine z_callV C (ci := 3) [.int x1] [] [.int r9] (m_X3_isLive F _ _ _ _ hc8) cw_X3_isLive vw_X3_isLive ml_X11_168 sh_18 rfl rfl rfl rfl hl.1 (Nat.le_of_ble_eq_true rfl) ⟨Nat.le_of_ble_eq_true rfl, Nat.le_of_ble_eq_true rfl⟩ ⟨Nat.le_refl _, Nat.le_refl _⟩ rfl dX11_live_21 ?_
    refine z_if_eq C 31 dX11_live_24 (by decide) (fun hc11 => ?_) (fun hc11 => ?_)
    · replace h := (if_pos hc11).symm.trans h
      refine z_iconst C (0 : Int32) dX11_live_31 (by decide) ?_
      obtain ⟨rfl, rfl⟩ := r2 h
      exact z_iret C dX11_live_32
    · replace h := (if_neg hc11).symm.trans h
      refine z_iconst C (1 : Int32) dX11_live_27 (by decide) ?_
      refine z_goto C 32 dX11_live_28 (by decide) ?_
      obtain ⟨rfl, rfl⟩ := r2 h
      exact z_iret C dX11_live_32
  · replace h := (if_pos hc12).symm.trans h
    refine z_iconst C (-1 : Int32) dX11_live_7 (by decide) ?_
    obtain ⟨rfl, rfl⟩ := r2 h
    exact z_iret C dX11_live_8
def f_X4_addNode (F : Nat) (x1 : Int32) (u : St) : Option (Int32 × St) := (if (10 : Int32) ≤ (u.1 22 4) then some ((-1 : Int32), u) else (if x1 < 0 then some ((-1 : Int32), u) else (if x1 ≤ (100 : Int32) then (if (u.1 22 4) < 0 ∨ 10 ≤ (u.1 22 4).toNatClampNeg then none else some ((((wr (wr u 23 (u.1 22 4).toNatClampNeg x1) 22 4 (((wr u 23 (u.1 22 4).toNatClampNeg x1).1 22 4) + (1 : Int32))).1 22 4) - (1 : Int32)), (wr (wr u 23 (u.1 22 4).toNatClampNeg x1) 22 4 (((wr u 23 (u.1 22 4).toNatClampNeg x1).1 22 4) + (1 : Int32))))) else some ((-1 : Int32), u))))
set_option maxRecDepth 20000 in
set_option maxHeartbeats 4000000 in
theorem m_X4_addNode (F : Nat) (x1 : Int32) (u : St) (r : Int32) (u' : St)  (h : f_X4_addNode F x1 u = some (r, u')) : Mt yX4_addNode cX4_addNode 2 (some .int) 0 (fun ad => [.ref (ad 22), .int x1]) u (fun _ => some (.int r)) u' := by
  refine Mt.of (by decide) (fun ad => Nat.le_of_ble_eq_true rfl) ?_
  intro p l e s m args below meth c D cA ad ls C hl
  have hl : lv_has ls 2 [(0, .ref (ad 22)), (1, .int x1)] := hl
  unfold f_X4_addNode at h
  refine z_aload_n C (i := 0) (k := 0) hl dX4_addNode_0 rfl rfl ?_
  refine z_geti C 22 4 fw_X4_24 sh_22 rfl dX4_addNode_1 ?_
  refine z_bipush C (10 : Int32) dX4_addNode_4 (by decide) ?_
  refine z_icmp_ge C 19 dX4_addNode_6 (by decide) (fun hc4 => ?_) (fun hc4 => ?_)
  · replace h := (if_pos hc4).symm.trans h
    refine z_iconst C (-1 : Int32) dX4_addNode_19 (by decide) ?_
    obtain ⟨rfl, rfl⟩ := r2 h
    exact z_iret C dX4_addNode_20
  · replace h := (if_neg hc4).symm.trans h
    refine z_iload_n C (i := 1) (k := 1) hl dX4_addNode_9 rfl rfl ?_
    refine z_if_lt C 19 dX4_addNode_10 (by decide) (fun hc3 => ?_) (fun hc3 => ?_)
    · replace h := (if_pos hc3).symm.trans h
      refine z_iconst C (-1 : Int32) dX4_addNode_19 (by decide) ?_
      obtain ⟨rfl, rfl⟩ := r2 h
      exact z_iret C dX4_addNode_20
    · replace h := (if_neg hc3).symm.trans h
      refine z_iload_n C (i := 1) (k := 1) hl dX4_addNode_13 rfl rfl ?_
      refine z_bipush C (100 : Int32) dX4_addNode_14 (by decide) ?_
      refine z_icmp_le C 21 dX4_addNode_16 (by decide) (fun hc2 => ?_) (fun hc2 => ?_)
      · replace h := (if_pos hc2).symm.trans h
        refine z_aload_n C (i := 0) (k := 0) hl dX4_addNode_21 rfl rfl ?_
        refine z_getr C 22 0 23 fw_X4_9 sh_22 rfl dX4_addNode_22 ?_
        refine z_aload_n C (i := 0) (k := 0) hl dX4_addNode_25 rfl rfl ?_
        refine z_geti C 22 4 fw_X4_24 sh_22 rfl dX4_addNode_26 ?_
        refine z_iload_n C (i := 1) (k := 1) hl dX4_addNode_29 rfl rfl ?_
        obtain ⟨hi1, h⟩ := gd h
        refine z_iast C 23 10 sh_23 hi1 dX4_addNode_30 ?_
        refine z_aload_n C (i := 0) (k := 0) hl dX4_addNode_31 rfl rfl ?_
        refine z_dup C dX4_addNode_32 rfl ?_
        refine z_geti C 22 4 fw_X4_24 sh_22 rfl dX4_addNode_33 ?_
        refine z_iconst C (1 : Int32) dX4_addNode_36 (by decide) ?_
        refine z_iadd C dX4_addNode_37 ?_
        refine z_puti C 22 4 pw_X4_24 sh_22 rfl dX4_addNode_38 ?_
        refine z_aload_n C (i := 0) (k := 0) hl dX4_addNode_41 rfl rfl ?_
        refine z_geti C 22 4 fw_X4_24 sh_22 rfl dX4_addNode_42 ?_
        refine z_iconst C (1 : Int32) dX4_addNode_45 (by decide) ?_
        refine z_isub C dX4_addNode_46 ?_
        obtain ⟨rfl, rfl⟩ := r2 h
        exact z_iret C dX4_addNode_47
      · replace h := (if_neg hc2).symm.trans h
        refine z_iconst C (-1 : Int32) dX4_addNode_19 (by decide) ?_
        obtain ⟨rfl, rfl⟩ := r2 h
        exact z_iret C dX4_addNode_20
def f_X11_node (F : Nat) (x1 : Int32) (u : St) : Option (Int32 × St) := (Option.bind (f_X4_addNode F x1 u) (fun w4 => (Option.bind (f_X11_forgetRings F w4.2) (fun u5 => some (w4.1, u5)))))
set_option maxRecDepth 20000 in
set_option maxHeartbeats 4000000 in
theorem m_X11_node (F : Nat) (x1 : Int32) (u : St) (r : Int32) (u' : St)  (h : f_X11_node F x1 u = some (r, u')) : Mt yX11_node cX11_node 3 (some .int) 2 (fun ad => [.ref (ad 0), .int x1]) u (fun _ => some (.int r)) u' := by
  refine Mt.of (by decide) (fun ad => Nat.le_of_ble_eq_true rfl) ?_
  intro p l e s m args below meth c D cA ad ls C hl
  have hl : lv_has ls 3 [(0, .ref (ad 0)), (1, .int x1)] := hl
  unfold f_X11_node at h
  refine z_aload_n C (i := 0) (k := 0) hl dX11_node_0 rfl rfl ?_
  refine z_getr C 0 7 22 fw_X11_64 sh_0 rfl dX11_node_1 ?_
  refine z_iload_n C (i := 1) (k := 1) hl dX11_node_4 rfl rfl ?_
  obtain ⟨⟨r3, u1⟩, hc2, h⟩ := bnd h
  try dsimp only at h
  refine z_callV C (ci := 4) [.int x1] [] [.int r3] (m_X4_addNode F _ _ _ _ hc2) cw_X4_addNode vw_X4_addNode ml_X11_181 sh_22 rfl rfl rfl rfl hl.1 (Nat.le_of_ble_eq_true rfl) ⟨Nat.le_of_ble_eq_true rfl, Nat.le_of_ble_eq_true rfl⟩ ⟨Nat.le_refl _, Nat.le_refl _⟩ rfl dX11_node_5 ?_
  refine z_istore_n C (i := 2) [(2, .int r3), (0, .ref (ad 0)), (1, .int x1)] hl dX11_node_8 rfl (by decide) rfl (fun ls hl => ?_)
  refine z_aload_n C (i := 0) (k := 1) hl dX11_node_9 rfl rfl ?_
  obtain ⟨u5, hc6, h⟩ := bnd h
  refine z_callV C (ci := 11) [] [] [] (m_X11_forgetRings F  _ _ hc6) cw_X11_forgetRings vw_X11_forgetRings ml_X11_184 sh_0 rfl rfl rfl rfl hl.1 (Nat.le_of_ble_eq_true rfl) ⟨Nat.le_of_ble_eq_true rfl, Nat.le_of_ble_eq_true rfl⟩ ⟨Nat.le_refl _, Nat.le_refl _⟩ rfl dX11_node_10 ?_
  refine z_iload_n C (i := 2) (k := 0) hl dX11_node_13 rfl rfl ?_
  obtain ⟨rfl, rfl⟩ := r2 h
  exact z_iret C dX11_node_14
def f_X11_place (F : Nat) (x1 : Int32) (u : St) : Option (Int32 × St) := (Option.bind (f_X10_renew F u) (fun u1 => (Option.bind (f_X10_placeOf F x1 u1) (fun w6 => some (w6.1, w6.2)))))
set_option maxRecDepth 20000 in
set_option maxHeartbeats 4000000 in
theorem m_X11_place (F : Nat) (x1 : Int32) (u : St) (r : Int32) (u' : St)  (h : f_X11_place F x1 u = some (r, u')) : Mt yX11_place cX11_place 2 (some .int) 4 (fun ad => [.ref (ad 0), .int x1]) u (fun _ => some (.int r)) u' := by
  refine Mt.of (by decide) (fun ad => Nat.le_of_ble_eq_true rfl) ?_
  intro p l e s m args below meth c D cA ad ls C hl
  have hl : lv_has ls 2 [(0, .ref (ad 0)), (1, .int x1)] := hl
  unfold f_X11_place at h
  refine z_aload_n C (i := 0) (k := 0) hl dX11_place_0 rfl rfl ?_
  refine z_getr C 0 3 11 fw_X11_37 sh_0 rfl dX11_place_1 ?_
  obtain ⟨u1, hc2, h⟩ := bnd h
  refine z_callV C (ci := 10) [] [] [] (m_X10_renew F  _ _ hc2) cw_X10_renew vw_X10_renew ml_X11_144 sh_11 rfl rfl rfl rfl hl.1 (Nat.le_of_ble_eq_true rfl) ⟨Nat.le_of_ble_eq_true rfl, Nat.le_of_ble_eq_true rfl⟩ ⟨Nat.le_refl _, Nat.le_refl _⟩ rfl dX11_place_4 ?_
  refine z_aload_n C (i := 0) (k := 0) hl dX11_place_7 rfl rfl ?_
  refine z_getr C 0 3 11 fw_X11_37 sh_0 rfl dX11_place_8 ?_
  refine z_iload_n C (i := 1) (k := 1) hl dX11_place_11 rfl rfl ?_
  obtain ⟨⟨r5, u3⟩, hc4, h⟩ := bnd h
  try dsimp only at h
  refine z_callV C (ci := 10) [.int x1] [] [.int r5] (m_X10_placeOf F _ _ _ _ hc4) cw_X10_placeOf vw_X10_placeOf ml_X11_151 sh_11 rfl rfl rfl rfl hl.1 (Nat.le_of_ble_eq_true rfl) ⟨Nat.le_of_ble_eq_true rfl, Nat.le_of_ble_eq_true rfl⟩ ⟨Nat.le_refl _, Nat.le_refl _⟩ rfl dX11_place_12 ?_
  obtain ⟨rfl, rfl⟩ := r2 h
  exact z_iret C dX11_place_15
def f_X11_run (F : Nat) (x1 : Int32) (x2 : Int64) (u : St) : Option (Int32 × St) := (Option.bind (f_X11_isRunLength F x1 u) (fun w4 => (if w4.1 = 0 then some ((-1 : Int32), w4.2) else (Option.bind (f_X0_runByLots F x1 x2 w4.2) (fun w8 => some (w8.1, w8.2))))))
set_option maxRecDepth 20000 in
set_option maxHeartbeats 4000000 in
theorem m_X11_run (F : Nat) (x1 : Int32) (x2 : Int64) (u : St) (r : Int32) (u' : St)  (h : f_X11_run F x1 x2 u = some (r, u')) : Mt yX11_run cX11_run 4 (some .int) 3 (fun ad => [.ref (ad 0), .int x1, .long x2]) u (fun _ => some (.int r)) u' := by
  refine Mt.of (by decide) (fun ad => Nat.le_of_ble_eq_true rfl) ?_
  intro p l e s m args below meth c D cA ad ls C hl
  have hl : lv_has ls 4 [(0, .ref (ad 0)), (1, .int x1), (2, .long x2)] := hl
  unfold f_X11_run at h
  refine z_iload_n C (i := 1) (k := 1) hl dX11_run_0 rfl rfl ?_
  obtain ⟨⟨r3, u1⟩, hc2, h⟩ := bnd h
  try dsimp only at h
  refine z_callS C [.int x1] [] [.int r3] (m_X11_isRunLength F _ _ _ _ hc2) cw_X11_isRunLength sw_X11_isRunLength ml_X11_174 rfl rfl rfl hl.1 (Nat.le_of_ble_eq_true rfl) ⟨Nat.le_of_ble_eq_true rfl, Nat.le_of_ble_eq_true rfl⟩ ⟨Nat.le_refl _, Nat.le_refl _⟩ rfl dX11_run_1 ?_
  refine z_if_eq C 23 dX11_run_4 (by decide) (fun hc9 => ?_) (fun hc9 => ?_)
  · replace h := (if_pos hc9).symm.trans h
    refine z_iconst C (-1 : Int32) dX11_run_23 (by decide) ?_
    obtain ⟨rfl, rfl⟩ := r2 h
    exact z_iret C dX11_run_24
  · replace h := (if_neg hc9).symm.trans h
    refine z_aload_n C (i := 0) (k := 0) hl dX11_run_7 rfl rfl ?_
    refine z_getr C 0 2 4 fw_X11_28 sh_0 rfl dX11_run_8 ?_
    refine z_iload_n C (i := 1) (k := 1) hl dX11_run_11 rfl rfl ?_
    refine z_lload_n C (i := 2) (k := 2) hl dX11_run_12 rfl rfl ?_
    refine z_aload_n C (i := 0) (k := 0) hl dX11_run_13 rfl rfl ?_
    refine z_getr C 0 6 21 fw_X11_57 sh_0 rfl dX11_run_14 ?_
    obtain ⟨⟨r7, u5⟩, hc6, h⟩ := bnd h
    try dsimp only at h
    refine z_callV C (ci := 0) [.int x1, .long x2, .ref (ad 21)] [] [.int r7] (m_X0_runByLots F _ _ _ _ _ hc6) cw_X0_runByLots vw_X0_runByLots ml_X11_177 sh_4 rfl rfl rfl rfl hl.1 (Nat.le_of_ble_eq_true rfl) ⟨Nat.le_of_ble_eq_true rfl, Nat.le_of_ble_eq_true rfl⟩ ⟨Nat.le_refl _, Nat.le_refl _⟩ rfl dX11_run_17 ?_
    refine z_goto C 24 dX11_run_20 (by decide) ?_
    obtain ⟨rfl, rfl⟩ := r2 h
    exact z_iret C dX11_run_24
def f_X11_state (F : Nat) (x1 : Int32) (u : St) : Option (Int32 × St) := (Option.bind (f_X10_renew F u) (fun u1 => (Option.bind (f_X10_stateAt F x1 u1) (fun w6 => some (w6.1, w6.2)))))
set_option maxRecDepth 20000 in
set_option maxHeartbeats 4000000 in
theorem m_X11_state (F : Nat) (x1 : Int32) (u : St) (r : Int32) (u' : St)  (h : f_X11_state F x1 u = some (r, u')) : Mt yX11_state cX11_state 2 (some .int) 4 (fun ad => [.ref (ad 0), .int x1]) u (fun _ => some (.int r)) u' := by
  refine Mt.of (by decide) (fun ad => Nat.le_of_ble_eq_true rfl) ?_
  intro p l e s m args below meth c D cA ad ls C hl
  have hl : lv_has ls 2 [(0, .ref (ad 0)), (1, .int x1)] := hl
  unfold f_X11_state at h
  refine z_aload_n C (i := 0) (k := 0) hl dX11_state_0 rfl rfl ?_
  refine z_getr C 0 3 11 fw_X11_37 sh_0 rfl dX11_state_1 ?_
  obtain ⟨u1, hc2, h⟩ := bnd h
  refine z_callV C (ci := 10) [] [] [] (m_X10_renew F  _ _ hc2) cw_X10_renew vw_X10_renew ml_X11_144 sh_11 rfl rfl rfl rfl hl.1 (Nat.le_of_ble_eq_true rfl) ⟨Nat.le_of_ble_eq_true rfl, Nat.le_of_ble_eq_true rfl⟩ ⟨Nat.le_refl _, Nat.le_refl _⟩ rfl dX11_state_4 ?_
  refine z_aload_n C (i := 0) (k := 0) hl dX11_state_7 rfl rfl ?_
  refine z_getr C 0 3 11 fw_X11_37 sh_0 rfl dX11_state_8 ?_
  refine z_iload_n C (i := 1) (k := 1) hl dX11_state_11 rfl rfl ?_
  obtain ⟨⟨r5, u3⟩, hc4, h⟩ := bnd h
  try dsimp only at h
  refine z_callV C (ci := 10) [.int x1] [] [.int r5] (m_X10_stateAt F _ _ _ _ hc4) cw_X10_stateAt vw_X10_stateAt ml_X11_148 sh_11 rfl rfl rfl rfl hl.1 (Nat.le_of_ble_eq_true rfl) ⟨Nat.le_of_ble_eq_true rfl, Nat.le_of_ble_eq_true rfl⟩ ⟨Nat.le_refl _, Nat.le_refl _⟩ rfl dX11_state_12 ?_
  obtain ⟨rfl, rfl⟩ := r2 h
  exact z_iret C dX11_state_15
def f_X11_states (F : Nat)  (u : St) : Option (Int32 × St) := (Option.bind (f_X10_renew F u) (fun u1 => (Option.bind (f_X10_size F u1) (fun w6 => some (w6.1, w6.2)))))
set_option maxRecDepth 20000 in
set_option maxHeartbeats 4000000 in
theorem m_X11_states (F : Nat)  (u : St) (r : Int32) (u' : St)  (h : f_X11_states F  u = some (r, u')) : Mt yX11_states cX11_states 1 (some .int) 4 (fun ad => [.ref (ad 0)]) u (fun _ => some (.int r)) u' := by
  refine Mt.of (by decide) (fun ad => Nat.le_of_ble_eq_true rfl) ?_
  intro p l e s m args below meth c D cA ad ls C hl
  have hl : lv_has ls 1 [(0, .ref (ad 0))] := hl
  unfold f_X11_states at h
  refine z_aload_n C (i := 0) (k := 0) hl dX11_states_0 rfl rfl ?_
  refine z_getr C 0 3 11 fw_X11_37 sh_0 rfl dX11_states_1 ?_
  obtain ⟨u1, hc2, h⟩ := bnd h
  refine z_callV C (ci := 10) [] [] [] (m_X10_renew F  _ _ hc2) cw_X10_renew vw_X10_renew ml_X11_144 sh_11 rfl rfl rfl rfl hl.1 (Nat.le_of_ble_eq_true rfl) ⟨Nat.le_of_ble_eq_true rfl, Nat.le_of_ble_eq_true rfl⟩ ⟨Nat.le_refl _, Nat.le_refl _⟩ rfl dX11_states_4 ?_
  refine z_aload_n C (i := 0) (k := 0) hl dX11_states_7 rfl rfl ?_
  refine z_getr C 0 3 11 fw_X11_37 sh_0 rfl dX11_states_8 ?_
  obtain ⟨⟨r5, u3⟩, hc4, h⟩ := bnd h
  try dsimp only at h
  refine z_callV C (ci := 10) [] [] [.int r5] (m_X10_size F  _ _ _ hc4) cw_X10_size vw_X10_size ml_X11_147 sh_11 rfl rfl rfl rfl hl.1 (Nat.le_of_ble_eq_true rfl) ⟨Nat.le_of_ble_eq_true rfl, Nat.le_of_ble_eq_true rfl⟩ ⟨Nat.le_refl _, Nat.le_refl _⟩ rfl dX11_states_11 ?_
  obtain ⟨rfl, rfl⟩ := r2 h
  exact z_iret C dX11_states_14
def f_X10_stopAt (F : Nat) (x1 : Int32) (u : St) : Option (Int32 × St) := (if x1 < 0 then some ((-1 : Int32), u) else (if (u.1 11 6) ≤ x1 then some ((-1 : Int32), u) else (if x1 < 0 ∨ 4096 ≤ x1.toNatClampNeg then none else some ((u.1 15 x1.toNatClampNeg), u))))
set_option maxRecDepth 20000 in
set_option maxHeartbeats 4000000 in
theorem m_X10_stopAt (F : Nat) (x1 : Int32) (u : St) (r : Int32) (u' : St)  (h : f_X10_stopAt F x1 u = some (r, u')) : Mt yX10_stopAt cX10_stopAt 2 (some .int) 0 (fun ad => [.ref (ad 11), .int x1]) u (fun _ => some (.int r)) u' := by
  refine Mt.of (by decide) (fun ad => Nat.le_of_ble_eq_true rfl) ?_
  intro p l e s m args below meth c D cA ad ls C hl
  have hl : lv_has ls 2 [(0, .ref (ad 11)), (1, .int x1)] := hl
  unfold f_X10_stopAt at h
  refine z_iload_n C (i := 1) (k := 1) hl dX10_stopAt_0 rfl rfl ?_
  refine z_if_lt C 21 dX10_stopAt_1 (by decide) (fun hc3 => ?_) (fun hc3 => ?_)
  · replace h := (if_pos hc3).symm.trans h
    refine z_iconst C (-1 : Int32) dX10_stopAt_21 (by decide) ?_
    obtain ⟨rfl, rfl⟩ := r2 h
    exact z_iret C dX10_stopAt_22
  · replace h := (if_neg hc3).symm.trans h
    refine z_iload_n C (i := 1) (k := 1) hl dX10_stopAt_4 rfl rfl ?_
    refine z_aload_n C (i := 0) (k := 0) hl dX10_stopAt_5 rfl rfl ?_
    refine z_geti C 11 6 fw_X10_42 sh_11 rfl dX10_stopAt_6 ?_
    refine z_icmp_ge C 21 dX10_stopAt_9 (by decide) (fun hc2 => ?_) (fun hc2 => ?_)
    · replace h := (if_pos hc2).symm.trans h
      refine z_iconst C (-1 : Int32) dX10_stopAt_21 (by decide) ?_
      obtain ⟨rfl, rfl⟩ := r2 h
      exact z_iret C dX10_stopAt_22
    · replace h := (if_neg hc2).symm.trans h
      refine z_aload_n C (i := 0) (k := 0) hl dX10_stopAt_12 rfl rfl ?_
      refine z_getr C 11 4 15 fw_X10_21 sh_11 rfl dX10_stopAt_13 ?_
      refine z_iload_n C (i := 1) (k := 1) hl dX10_stopAt_16 rfl rfl ?_
      obtain ⟨hi1, h⟩ := gd h
      refine z_iald C 15 4096 sh_15 hi1 dX10_stopAt_17 ?_
      refine z_goto C 22 dX10_stopAt_18 (by decide) ?_
      obtain ⟨rfl, rfl⟩ := r2 h
      exact z_iret C dX10_stopAt_22
def f_X11_stop (F : Nat) (x1 : Int32) (u : St) : Option (Int32 × St) := (Option.bind (f_X10_renew F u) (fun u1 => (Option.bind (f_X10_stopAt F x1 u1) (fun w6 => some (w6.1, w6.2)))))
set_option maxRecDepth 20000 in
set_option maxHeartbeats 4000000 in
theorem m_X11_stop (F : Nat) (x1 : Int32) (u : St) (r : Int32) (u' : St)  (h : f_X11_stop F x1 u = some (r, u')) : Mt yX11_stop cX11_stop 2 (some .int) 4 (fun ad => [.ref (ad 0), .int x1]) u (fun _ => some (.int r)) u' := by
  refine Mt.of (by decide) (fun ad => Nat.le_of_ble_eq_true rfl) ?_
  intro p l e s m args below meth c D cA ad ls C hl
  have hl : lv_has ls 2 [(0, .ref (ad 0)), (1, .int x1)] := hl
  unfold f_X11_stop at h
  refine z_aload_n C (i := 0) (k := 0) hl dX11_stop_0 rfl rfl ?_
  refine z_getr C 0 3 11 fw_X11_37 sh_0 rfl dX11_stop_1 ?_
  obtain ⟨u1, hc2, h⟩ := bnd h
  refine z_callV C (ci := 10) [] [] [] (m_X10_renew F  _ _ hc2) cw_X10_renew vw_X10_renew ml_X11_144 sh_11 rfl rfl rfl rfl hl.1 (Nat.le_of_ble_eq_true rfl) ⟨Nat.le_of_ble_eq_true rfl, Nat.le_of_ble_eq_true rfl⟩ ⟨Nat.le_refl _, Nat.le_refl _⟩ rfl dX11_stop_4 ?_
  refine z_aload_n C (i := 0) (k := 0) hl dX11_stop_7 rfl rfl ?_
  refine z_getr C 0 3 11 fw_X11_37 sh_0 rfl dX11_stop_8 ?_
  refine z_iload_n C (i := 1) (k := 1) hl dX11_stop_11 rfl rfl ?_
  obtain ⟨⟨r5, u3⟩, hc4, h⟩ := bnd h
  try dsimp only at h
  refine z_callV C (ci := 10) [.int x1] [] [.int r5] (m_X10_stopAt F _ _ _ _ hc4) cw_X10_stopAt vw_X10_stopAt ml_X11_159 sh_11 rfl rfl rfl rfl hl.1 (Nat.le_of_ble_eq_true rfl) ⟨Nat.le_of_ble_eq_true rfl, Nat.le_of_ble_eq_true rfl⟩ ⟨Nat.le_refl _, Nat.le_refl _⟩ rfl dX11_stop_12 ?_
  obtain ⟨rfl, rfl⟩ := r2 h
  exact z_iret C dX11_stop_15
def f_X0_isStuck (F : Nat) (x1 : Int32) (u : St) : Option (Int32 × St) := (Option.bind (f_X11_isIn F (u.1 4 4) x1 u) (fun w4 => (if w4.1 = 0 ∨ w4.1 = 1 then some (w4.1, w4.2) else none)))
set_option maxRecDepth 20000 in
set_option maxHeartbeats 4000000 in
theorem m_X0_isStuck (F : Nat) (x1 : Int32) (u : St) (r : Int32) (u' : St)  (h : f_X0_isStuck F x1 u = some (r, u')) : Mt yX0_isStuck cX0_isStuck 2 (some .boolean) 1 (fun ad => [.ref (ad 4), .int x1]) u (fun _ => some (.int r)) u' := by
  refine Mt.of (by decide) (fun ad => Nat.le_of_ble_eq_true rfl) ?_
  intro p l e s m args below meth c D cA ad ls C hl
  have hl : lv_has ls 2 [(0, .ref (ad 4)), (1, .int x1)] := hl
  unfold f_X0_isStuck at h
  refine z_aload_n C (i := 0) (k := 0) hl dX0_isStuck_0 rfl rfl ?_
  refine z_geti C 4 4 fw_X0_35 sh_4 rfl dX0_isStuck_1 ?_
  refine z_iload_n C (i := 1) (k := 1) hl dX0_isStuck_4 rfl rfl ?_
  obtain ⟨⟨r3, u1⟩, hc2, h⟩ := bnd h
  try dsimp only at h
  refine z_callSN C [.int (u.1 4 4), .int x1] [] [.int r3] (m_X11_isIn F _ _ _ _ _ hc2) cw_X11_isIn sw_X11_isIn mn_X0_51 rfl rfl rfl hl.1 (Nat.le_of_ble_eq_true rfl) ⟨Nat.le_of_ble_eq_true rfl, Nat.le_of_ble_eq_true rfl⟩ ⟨Nat.le_refl _, Nat.le_refl _⟩ rfl dX0_isStuck_5 ?_
  obtain ⟨hz5, h⟩ := gp h
  obtain ⟨rfl, rfl⟩ := r2 h
  exact z_zret hz5 C dX0_isStuck_8
def f_X0_turnStuck (F : Nat) (x1 : Int32) (u : St) : Option (St) := some (wr u 4 4 ((u.1 4 4) ^^^ ((1 : Int32) <<< (x1 &&& 31))))
set_option maxRecDepth 20000 in
set_option maxHeartbeats 4000000 in
theorem m_X0_turnStuck (F : Nat) (x1 : Int32) (u : St) (u' : St)  (h : f_X0_turnStuck F x1 u = some u') : Mt yX0_turnStuck cX0_turnStuck 2 none 0 (fun ad => [.ref (ad 4), .int x1]) u (fun _ => none) u' := by
  refine Mt.of (by decide) (fun ad => Nat.le_of_ble_eq_true rfl) ?_
  intro p l e s m args below meth c D cA ad ls C hl
  have hl : lv_has ls 2 [(0, .ref (ad 4)), (1, .int x1)] := hl
  unfold f_X0_turnStuck at h
  refine z_aload_n C (i := 0) (k := 0) hl dX0_turnStuck_0 rfl rfl ?_
  refine z_dup C dX0_turnStuck_1 rfl ?_
  refine z_geti C 4 4 fw_X0_35 sh_4 rfl dX0_turnStuck_2 ?_
  refine z_iconst C (1 : Int32) dX0_turnStuck_5 (by decide) ?_
  refine z_iload_n C (i := 1) (k := 1) hl dX0_turnStuck_6 rfl rfl ?_
  refine z_ishl C dX0_turnStuck_7 ?_
  refine z_ixor C dX0_turnStuck_8 ?_
  refine z_puti C 4 4 pw_X0_35 sh_4 rfl dX0_turnStuck_9 ?_
  obtain rfl := Option.some.inj h
  exact z_vret C dX0_turnStuck_12
def f_X11_stuck (F : Nat) (x1 : Int32) (x2 : Int32) (u : St) : Option (Int32 × St) := (Option.bind (f_X11_isSignal F x1 u) (fun w4 => (if w4.1 = 0 then some ((0 : Int32), w4.2) else (Option.bind (f_X0_isStuck F x1 w4.2) (fun w8 => (if w8.1 = x2 then some ((0 : Int32), w8.2) else (Option.bind (f_X0_turnStuck F x1 w8.2) (fun u9 => (Option.bind (f_X11_forgetWalk F u9) (fun u11 => some ((1 : Int32), u11)))))))))))
set_option maxRecDepth 20000 in
set_option maxHeartbeats 4000000 in
theorem m_X11_stuck (F : Nat) (x1 : Int32) (x2 : Int32) (u : St) (r : Int32) (u' : St)  (h : f_X11_stuck F x1 x2 u = some (r, u')) : Mt yX11_stuck cX11_stuck 3 (some .boolean) 2 (fun ad => [.ref (ad 0), .int x1, .int x2]) u (fun _ => some (.int r)) u' := by
  refine Mt.of (by decide) (fun ad => Nat.le_of_ble_eq_true rfl) ?_
  intro p l e s m args below meth c D cA ad ls C hl
  have hl : lv_has ls 3 [(0, .ref (ad 0)), (1, .int x1), (2, .int x2)] := hl
  unfold f_X11_stuck at h
  refine z_iload_n C (i := 1) (k := 1) hl dX11_stuck_0 rfl rfl ?_
  obtain ⟨⟨r3, u1⟩, hc2, h⟩ := bnd h
  try dsimp only at h
  refine z_callS C [.int x1] [] [.int r3] (m_X11_isSignal F _ _ _ _ hc2) cw_X11_isSignal sw_X11_isSignal ml_X11_121 rfl rfl rfl hl.1 (Nat.le_of_ble_eq_true rfl) ⟨Nat.le_of_ble_eq_true rfl, Nat.le_of_ble_eq_true rfl⟩ ⟨Nat.le_refl _, Nat.le_refl _⟩ rfl dX11_stuck_1 ?_
  refine z_if_eq C 19 dX11_stuck_4 (by decide) (fun hc14 => ?_) (fun hc14 => ?_)
  · replace h := (if_pos hc14).symm.trans h
    refine z_iconst C (0 : Int32) dX11_stuck_19 (by decide) ?_
    obtain ⟨rfl, rfl⟩ := r2 h
    exact z_zret (by decide) C dX11_stuck_20
  · replace h := (if_neg hc14).symm.trans h
    refine z_aload_n C (i := 0) (k := 0) hl dX11_stuck_7 rfl rfl ?_
    refine z_getr C 0 2 4 fw_X11_28 sh_0 rfl dX11_stuck_8 ?_
    refine z_iload_n C (i := 1) (k := 1) hl dX11_stuck_11 rfl rfl ?_
    obtain ⟨⟨r7, u5⟩, hc6, h⟩ := bnd h
    try dsimp only at h
    refine z_callV C (ci := 0) [.int x1] [] [.int r7] (m_X0_isStuck F _ _ _ _ hc6) cw_X0_isStuck vw_X0_isStuck ml_X11_135 sh_4 rfl rfl rfl rfl hl.1 (Nat.le_of_ble_eq_true rfl) ⟨Nat.le_of_ble_eq_true rfl, Nat.le_of_ble_eq_true rfl⟩ ⟨Nat.le_refl _, Nat.le_refl _⟩ rfl dX11_stuck_12 ?_
    refine z_iload_n C (i := 2) (k := 2) hl dX11_stuck_15 rfl rfl ?_
    refine z_icmp_ne C 21 dX11_stuck_16 (by decide) (fun hc13 => ?_) (fun hc13 => ?_)
    · replace h := (if_neg hc13).symm.trans h
      refine z_aload_n C (i := 0) (k := 0) hl dX11_stuck_21 rfl rfl ?_
      refine z_getr C 0 2 4 fw_X11_28 sh_0 rfl dX11_stuck_22 ?_
      refine z_iload_n C (i := 1) (k := 1) hl dX11_stuck_25 rfl rfl ?_
      obtain ⟨u9, hc10, h⟩ := bnd h
      refine z_callV C (ci := 0) [.int x1] [] [] (m_X0_turnStuck F _ _ _ hc10) cw_X0_turnStuck vw_X0_turnStuck ml_X11_138 sh_4 rfl rfl rfl rfl hl.1 (Nat.le_of_ble_eq_true rfl) ⟨Nat.le_of_ble_eq_true rfl, Nat.le_of_ble_eq_true rfl⟩ ⟨Nat.le_refl _, Nat.le_refl _⟩ rfl dX11_stuck_26 ?_
      refine z_aload_n C (i := 0) (k := 0) hl dX11_stuck_29 rfl rfl ?_
      obtain ⟨u11, hc12, h⟩ := bnd h
      refine z_callV C (ci := 11) [] [] [] (m_X11_forgetWalk F  _ _ hc12) cw_X11_forgetWalk vw_X11_forgetWalk ml_X11_118 sh_0 rfl rfl rfl rfl hl.1 (Nat.le_of_ble_eq_true rfl) ⟨Nat.le_of_ble_eq_true rfl, Nat.le_of_ble_eq_true rfl⟩ ⟨Nat.le_refl _, Nat.le_refl _⟩ rfl dX11_stuck_30 ?_
      refine z_iconst C (1 : Int32) dX11_stuck_33 (by decide) ?_
      obtain ⟨rfl, rfl⟩ := r2 h
      exact z_zret (by decide) C dX11_stuck_34
    · replace h := (if_pos hc13).symm.trans h
      refine z_iconst C (0 : Int32) dX11_stuck_19 (by decide) ?_
      obtain ⟨rfl, rfl⟩ := r2 h
      exact z_zret (by decide) C dX11_stuck_20
def f_X4_putTokens (F : Nat) (x1 : Int32) (x2 : Int32) (u : St) : Option (Int32 × St) := (if x1 < 0 then some ((0 : Int32), u) else (if (u.1 22 5) ≤ x1 then some ((0 : Int32), u) else (Option.bind (f_X4_isTokens F x2 u) (fun w4 => (if w4.1 = 0 then some ((0 : Int32), w4.2) else (if x1 < 0 ∨ 20 ≤ x1.toNatClampNeg then none else some ((1 : Int32), (wr w4.2 26 x1.toNatClampNeg x2))))))))
set_option maxRecDepth 20000 in
set_option maxHeartbeats 4000000 in
theorem m_X4_putTokens (F : Nat) (x1 : Int32) (x2 : Int32) (u : St) (r : Int32) (u' : St)  (h : f_X4_putTokens F x1 x2 u = some (r, u')) : Mt yX4_putTokens cX4_putTokens 3 (some .boolean) 1 (fun ad => [.ref (ad 22), .int x1, .int x2]) u (fun _ => some (.int r)) u' := by
  refine Mt.of (by decide) (fun ad => Nat.le_of_ble_eq_true rfl) ?_
  intro p l e s m args below meth c D cA ad ls C hl
  have hl : lv_has ls 3 [(0, .ref (ad 22)), (1, .int x1), (2, .int x2)] := hl
  unfold f_X4_putTokens at h
  refine z_iload_n C (i := 1) (k := 1) hl dX4_putTokens_0 rfl rfl ?_
  refine z_if_lt C 19 dX4_putTokens_1 (by decide) (fun hc8 => ?_) (fun hc8 => ?_)
  · replace h := (if_pos hc8).symm.trans h
    refine z_iconst C (0 : Int32) dX4_putTokens_19 (by decide) ?_
    obtain ⟨rfl, rfl⟩ := r2 h
    exact z_zret (by decide) C dX4_putTokens_20
  · replace h := (if_neg hc8).symm.trans h
    refine z_iload_n C (i := 1) (k := 1) hl dX4_putTokens_4 rfl rfl ?_
    refine z_aload_n C (i := 0) (k := 0) hl dX4_putTokens_5 rfl rfl ?_
    refine z_geti C 22 5 fw_X4_28 sh_22 rfl dX4_putTokens_6 ?_
    refine z_icmp_ge C 19 dX4_putTokens_9 (by decide) (fun hc7 => ?_) (fun hc7 => ?_)
    · replace h := (if_pos hc7).symm.trans h
      refine z_iconst C (0 : Int32) dX4_putTokens_19 (by decide) ?_
      obtain ⟨rfl, rfl⟩ := r2 h
      exact z_zret (by decide) C dX4_putTokens_20
    · replace h := (if_neg hc7).symm.trans h
      refine z_iload_n C (i := 2) (k := 2) hl dX4_putTokens_12 rfl rfl ?_
      obtain ⟨⟨r3, u1⟩, hc2, h⟩ := bnd h
      try dsimp only at h
      refine z_callS C [.int x2] [] [.int r3] (m_X4_isTokens F _ _ _ _ hc2) cw_X4_isTokens sw_X4_isTokens ml_X4_35 rfl rfl rfl hl.1 (Nat.le_of_ble_eq_true rfl) ⟨Nat.le_of_ble_eq_true rfl, Nat.le_of_ble_eq_true rfl⟩ ⟨Nat.le_refl _, Nat.le_refl _⟩ rfl dX4_putTokens_13 ?_
      refine z_if_ne C 21 dX4_putTokens_16 (by decide) (fun hc6 => ?_) (fun hc6 => ?_)
      · replace h := (if_neg hc6).symm.trans h
        refine z_aload_n C (i := 0) (k := 0) hl dX4_putTokens_21 rfl rfl ?_
        refine z_getr C 22 3 26 fw_X4_21 sh_22 rfl dX4_putTokens_22 ?_
        refine z_iload_n C (i := 1) (k := 1) hl dX4_putTokens_25 rfl rfl ?_
        refine z_iload_n C (i := 2) (k := 2) hl dX4_putTokens_26 rfl rfl ?_
        obtain ⟨hi5, h⟩ := gd h
        refine z_iast C 26 20 sh_26 hi5 dX4_putTokens_27 ?_
        refine z_iconst C (1 : Int32) dX4_putTokens_28 (by decide) ?_
        obtain ⟨rfl, rfl⟩ := r2 h
        exact z_zret (by decide) C dX4_putTokens_29
      · replace h := (if_pos hc6).symm.trans h
        refine z_iconst C (0 : Int32) dX4_putTokens_19 (by decide) ?_
        obtain ⟨rfl, rfl⟩ := r2 h
        exact z_zret (by decide) C dX4_putTokens_20
def f_X11_tokens (F : Nat) (x1 : Int32) (x2 : Int32) (u : St) : Option (Int32 × St) := (Option.bind (f_X4_putTokens F x1 x2 u) (fun w4 => (Option.bind (f_X11_forgetRings F w4.2) (fun u5 => (if w4.1 = 0 ∨ w4.1 = 1 then some (w4.1, u5) else none)))))
set_option maxRecDepth 20000 in
set_option maxHeartbeats 4000000 in
theorem m_X11_tokens (F : Nat) (x1 : Int32) (x2 : Int32) (u : St) (r : Int32) (u' : St)  (h : f_X11_tokens F x1 x2 u = some (r, u')) : Mt yX11_tokens cX11_tokens 4 (some .boolean) 2 (fun ad => [.ref (ad 0), .int x1, .int x2]) u (fun _ => some (.int r)) u' := by
  refine Mt.of (by decide) (fun ad => Nat.le_of_ble_eq_true rfl) ?_
  intro p l e s m args below meth c D cA ad ls C hl
  have hl : lv_has ls 4 [(0, .ref (ad 0)), (1, .int x1), (2, .int x2)] := hl
  unfold f_X11_tokens at h
  refine z_aload_n C (i := 0) (k := 0) hl dX11_tokens_0 rfl rfl ?_
  refine z_getr C 0 7 22 fw_X11_64 sh_0 rfl dX11_tokens_1 ?_
  refine z_iload_n C (i := 1) (k := 1) hl dX11_tokens_4 rfl rfl ?_
  refine z_iload_n C (i := 2) (k := 2) hl dX11_tokens_5 rfl rfl ?_
  obtain ⟨⟨r3, u1⟩, hc2, h⟩ := bnd h
  try dsimp only at h
  refine z_callV C (ci := 4) [.int x1, .int x2] [] [.int r3] (m_X4_putTokens F _ _ _ _ _ hc2) cw_X4_putTokens vw_X4_putTokens ml_X11_191 sh_22 rfl rfl rfl rfl hl.1 (Nat.le_of_ble_eq_true rfl) ⟨Nat.le_of_ble_eq_true rfl, Nat.le_of_ble_eq_true rfl⟩ ⟨Nat.le_refl _, Nat.le_refl _⟩ rfl dX11_tokens_6 ?_
  refine z_istore_n C (i := 3) [(3, .int r3), (0, .ref (ad 0)), (1, .int x1), (2, .int x2)] hl dX11_tokens_9 rfl (by decide) rfl (fun ls hl => ?_)
  refine z_aload_n C (i := 0) (k := 1) hl dX11_tokens_10 rfl rfl ?_
  obtain ⟨u5, hc6, h⟩ := bnd h
  refine z_callV C (ci := 11) [] [] [] (m_X11_forgetRings F  _ _ hc6) cw_X11_forgetRings vw_X11_forgetRings ml_X11_184 sh_0 rfl rfl rfl rfl hl.1 (Nat.le_of_ble_eq_true rfl) ⟨Nat.le_of_ble_eq_true rfl, Nat.le_of_ble_eq_true rfl⟩ ⟨Nat.le_refl _, Nat.le_refl _⟩ rfl dX11_tokens_11 ?_
  refine z_iload_n C (i := 3) (k := 0) hl dX11_tokens_14 rfl rfl ?_
  obtain ⟨hz7, h⟩ := gp h
  obtain ⟨rfl, rfl⟩ := r2 h
  exact z_zret hz7 C dX11_tokens_15
def f_X9_denominator (F : Nat)  (u : St) : Option (Int32 × St) := (if (u.1 27 7) = 0 then some ((-1 : Int32), u) else (Option.bind (f_X5_bottom F 28 u) (fun w4 => some (w4.1, w4.2))))
set_option maxRecDepth 20000 in
set_option maxHeartbeats 4000000 in
theorem m_X9_denominator (F : Nat)  (u : St) (r : Int32) (u' : St)  (h : f_X9_denominator F  u = some (r, u')) : Mt yX9_denominator cX9_denominator 1 (some .int) 1 (fun ad => [.ref (ad 27)]) u (fun _ => some (.int r)) u' := by
  refine Mt.of (by decide) (fun ad => Nat.le_of_ble_eq_true rfl) ?_
  intro p l e s m args below meth c D cA ad ls C hl
  have hl : lv_has ls 1 [(0, .ref (ad 27))] := hl
  unfold f_X9_denominator at h
  refine z_aload_n C (i := 0) (k := 0) hl dX9_denominator_0 rfl rfl ?_
  refine z_geti C 27 7 fw_X9_55 sh_27 rfl dX9_denominator_1 ?_
  refine z_if_eq C 17 dX9_denominator_4 (by decide) (fun hc5 => ?_) (fun hc5 => ?_)
  · replace h := (if_pos hc5).symm.trans h
    refine z_iconst C (-1 : Int32) dX9_denominator_17 (by decide) ?_
    obtain ⟨rfl, rfl⟩ := r2 h
    exact z_iret C dX9_denominator_18
  · replace h := (if_neg hc5).symm.trans h
    refine z_aload_n C (i := 0) (k := 0) hl dX9_denominator_7 rfl rfl ?_
    refine z_getr C 27 1 28 fw_X9_12 sh_27 rfl dX9_denominator_8 ?_
    obtain ⟨⟨r3, u1⟩, hc2, h⟩ := bnd h
    try dsimp only at h
    refine z_callV C (ci := 5) [] [] [.int r3] (m_X5_bottom F _ _ _ _ (Or.inl rfl) hc2) cw_X5_bottom vw_X5_bottom ml_X9_66 sh_28 rfl rfl rfl rfl hl.1 (Nat.le_of_ble_eq_true rfl) ⟨Nat.le_of_ble_eq_true rfl, Nat.le_of_ble_eq_true rfl⟩ ⟨Nat.le_refl _, Nat.le_refl _⟩ rfl dX9_denominator_11 ?_
    refine z_goto C 18 dX9_denominator_14 (by decide) ?_
    obtain ⟨rfl, rfl⟩ := r2 h
    exact z_iret C dX9_denominator_18
def f_X9_numerator (F : Nat)  (u : St) : Option (Int32 × St) := (if (u.1 27 7) = 0 then some ((-1 : Int32), u) else (Option.bind (f_X5_top F 28 u) (fun w4 => some (w4.1, w4.2))))
set_option maxRecDepth 20000 in
set_option maxHeartbeats 4000000 in
theorem m_X9_numerator (F : Nat)  (u : St) (r : Int32) (u' : St)  (h : f_X9_numerator F  u = some (r, u')) : Mt yX9_numerator cX9_numerator 1 (some .int) 1 (fun ad => [.ref (ad 27)]) u (fun _ => some (.int r)) u' := by
  refine Mt.of (by decide) (fun ad => Nat.le_of_ble_eq_true rfl) ?_
  intro p l e s m args below meth c D cA ad ls C hl
  have hl : lv_has ls 1 [(0, .ref (ad 27))] := hl
  unfold f_X9_numerator at h
  refine z_aload_n C (i := 0) (k := 0) hl dX9_numerator_0 rfl rfl ?_
  refine z_geti C 27 7 fw_X9_55 sh_27 rfl dX9_numerator_1 ?_
  refine z_if_eq C 17 dX9_numerator_4 (by decide) (fun hc5 => ?_) (fun hc5 => ?_)
  · replace h := (if_pos hc5).symm.trans h
    refine z_iconst C (-1 : Int32) dX9_numerator_17 (by decide) ?_
    obtain ⟨rfl, rfl⟩ := r2 h
    exact z_iret C dX9_numerator_18
  · replace h := (if_neg hc5).symm.trans h
    refine z_aload_n C (i := 0) (k := 0) hl dX9_numerator_7 rfl rfl ?_
    refine z_getr C 27 1 28 fw_X9_12 sh_27 rfl dX9_numerator_8 ?_
    obtain ⟨⟨r3, u1⟩, hc2, h⟩ := bnd h
    try dsimp only at h
    refine z_callV C (ci := 5) [] [] [.int r3] (m_X5_top F _ _ _ _ (Or.inl rfl) hc2) cw_X5_top vw_X5_top ml_X9_62 sh_28 rfl rfl rfl rfl hl.1 (Nat.le_of_ble_eq_true rfl) ⟨Nat.le_of_ble_eq_true rfl, Nat.le_of_ble_eq_true rfl⟩ ⟨Nat.le_refl _, Nat.le_refl _⟩ rfl dX9_numerator_11 ?_
    refine z_goto C 18 dX9_numerator_14 (by decide) ?_
    obtain ⟨rfl, rfl⟩ := r2 h
    exact z_iret C dX9_numerator_18
def f_X11_turn (F : Nat) (x1 : Int32) (u : St) : Option (Int64 × St) := (if x1 < 0 then some ((-1 : Int64), u) else (if x1 ≤ (1 : Int32) then (Option.bind (f_X9_renew F u) (fun u1 => (if x1 = 0 then (Option.bind (f_X9_numerator F u1) (fun w10 => some ((w10.1.toInt64), w10.2))) else (Option.bind (f_X9_denominator F u1) (fun w6 => some ((w6.1.toInt64), w6.2)))))) else some ((-1 : Int64), u)))
set_option maxRecDepth 20000 in
set_option maxHeartbeats 4000000 in
theorem m_X11_turn (F : Nat) (x1 : Int32) (u : St) (r : Int64) (u' : St)  (h : f_X11_turn F x1 u = some (r, u')) : Mt yX11_turn cX11_turn 2 (some .long) 6 (fun ad => [.ref (ad 0), .int x1]) u (fun _ => some (.long r)) u' := by
  refine Mt.of (by decide) (fun ad => Nat.le_of_ble_eq_true rfl) ?_
  intro p l e s m args below meth c D cA ad ls C hl
  have hl : lv_has ls 2 [(0, .ref (ad 0)), (1, .int x1)] := hl
  unfold f_X11_turn at h
  refine z_iload_n C (i := 1) (k := 1) hl dX11_turn_0 rfl rfl ?_
  refine z_if_lt C 9 dX11_turn_1 (by decide) (fun hc13 => ?_) (fun hc13 => ?_)
  · replace h := (if_pos hc13).symm.trans h
    refine z_ldc2 C (v := (-1 : Int64)) kw_X11_201 dX11_turn_9 ?_
    obtain ⟨rfl, rfl⟩ := r2 h
    exact z_lret C dX11_turn_12
  · replace h := (if_neg hc13).symm.trans h
    refine z_iload_n C (i := 1) (k := 1) hl dX11_turn_4 rfl rfl ?_
    refine z_iconst C (1 : Int32) dX11_turn_5 (by decide) ?_
    refine z_icmp_le C 13 dX11_turn_6 (by decide) (fun hc12 => ?_) (fun hc12 => ?_)
    · replace h := (if_pos hc12).symm.trans h
      refine z_aload_n C (i := 0) (k := 0) hl dX11_turn_13 rfl rfl ?_
      refine z_getr C 0 8 27 fw_X11_73 sh_0 rfl dX11_turn_14 ?_
      obtain ⟨u1, hc2, h⟩ := bnd h
      refine z_callV C (ci := 9) [] [] [] (m_X9_renew F  _ _ hc2) cw_X9_renew vw_X9_renew ml_X11_203 sh_27 rfl rfl rfl rfl hl.1 (Nat.le_of_ble_eq_true rfl) ⟨Nat.le_of_ble_eq_true rfl, Nat.le_of_ble_eq_true rfl⟩ ⟨Nat.le_refl _, Nat.le_refl _⟩ rfl dX11_turn_17 ?_
      refine z_iload_n C (i := 1) (k := 1) hl dX11_turn_20 rfl rfl ?_
      refine z_if_ne C 35 dX11_turn_21 (by decide) (fun hc11 => ?_) (fun hc11 => ?_)
      · replace h := (if_neg hc11).symm.trans h
        refine z_aload_n C (i := 0) (k := 0) hl dX11_turn_35 rfl rfl ?_
        refine z_getr C 0 8 27 fw_X11_73 sh_0 rfl dX11_turn_36 ?_
        obtain ⟨⟨r5, u3⟩, hc4, h⟩ := bnd h
        try dsimp only at h
        refine z_callV C (ci := 9) [] [] [.int r5] (m_X9_denominator F  _ _ _ hc4) cw_X9_denominator vw_X9_denominator ml_X11_207 sh_27 rfl rfl rfl rfl hl.1 (Nat.le_of_ble_eq_true rfl) ⟨Nat.le_of_ble_eq_true rfl, Nat.le_of_ble_eq_true rfl⟩ ⟨Nat.le_refl _, Nat.le_refl _⟩ rfl dX11_turn_39 ?_
        refine z_i2l C dX11_turn_42 ?_
        obtain ⟨rfl, rfl⟩ := r2 h
        exact z_lret C dX11_turn_43
      · replace h := (if_pos hc11).symm.trans h
        refine z_aload_n C (i := 0) (k := 0) hl dX11_turn_24 rfl rfl ?_
        refine z_getr C 0 8 27 fw_X11_73 sh_0 rfl dX11_turn_25 ?_
        obtain ⟨⟨r9, u7⟩, hc8, h⟩ := bnd h
        try dsimp only at h
        refine z_callV C (ci := 9) [] [] [.int r9] (m_X9_numerator F  _ _ _ hc8) cw_X9_numerator vw_X9_numerator ml_X11_204 sh_27 rfl rfl rfl rfl hl.1 (Nat.le_of_ble_eq_true rfl) ⟨Nat.le_of_ble_eq_true rfl, Nat.le_of_ble_eq_true rfl⟩ ⟨Nat.le_refl _, Nat.le_refl _⟩ rfl dX11_turn_28 ?_
        refine z_i2l C dX11_turn_31 ?_
        refine z_goto C 43 dX11_turn_32 (by decide) ?_
        obtain ⟨rfl, rfl⟩ := r2 h
        exact z_lret C dX11_turn_43
    · replace h := (if_neg hc12).symm.trans h
      refine z_ldc2 C (v := (-1 : Int64)) kw_X11_201 dX11_turn_9 ?_
      obtain ⟨rfl, rfl⟩ := r2 h
      exact z_lret C dX11_turn_12
def f_X11_way (F : Nat) (x1 : Int32) (u : St) : Option (Int32 × St) := (Option.bind (f_X10_renew F u) (fun u1 => (Option.bind (f_X10_wayLength F x1 u1) (fun w6 => some (w6.1, w6.2)))))
set_option maxRecDepth 20000 in
set_option maxHeartbeats 4000000 in
theorem m_X11_way (F : Nat) (x1 : Int32) (u : St) (r : Int32) (u' : St)  (h : f_X11_way F x1 u = some (r, u')) : Mt yX11_way cX11_way 2 (some .int) 4 (fun ad => [.ref (ad 0), .int x1]) u (fun _ => some (.int r)) u' := by
  refine Mt.of (by decide) (fun ad => Nat.le_of_ble_eq_true rfl) ?_
  intro p l e s m args below meth c D cA ad ls C hl
  have hl : lv_has ls 2 [(0, .ref (ad 0)), (1, .int x1)] := hl
  unfold f_X11_way at h
  refine z_aload_n C (i := 0) (k := 0) hl dX11_way_0 rfl rfl ?_
  refine z_getr C 0 3 11 fw_X11_37 sh_0 rfl dX11_way_1 ?_
  obtain ⟨u1, hc2, h⟩ := bnd h
  refine z_callV C (ci := 10) [] [] [] (m_X10_renew F  _ _ hc2) cw_X10_renew vw_X10_renew ml_X11_144 sh_11 rfl rfl rfl rfl hl.1 (Nat.le_of_ble_eq_true rfl) ⟨Nat.le_of_ble_eq_true rfl, Nat.le_of_ble_eq_true rfl⟩ ⟨Nat.le_refl _, Nat.le_refl _⟩ rfl dX11_way_4 ?_
  refine z_aload_n C (i := 0) (k := 0) hl dX11_way_7 rfl rfl ?_
  refine z_getr C 0 3 11 fw_X11_37 sh_0 rfl dX11_way_8 ?_
  refine z_iload_n C (i := 1) (k := 1) hl dX11_way_11 rfl rfl ?_
  obtain ⟨⟨r5, u3⟩, hc4, h⟩ := bnd h
  try dsimp only at h
  refine z_callV C (ci := 10) [.int x1] [] [.int r5] (m_X10_wayLength F _ _ _ _ hc4) cw_X10_wayLength vw_X10_wayLength ml_X11_162 sh_11 rfl rfl rfl rfl hl.1 (Nat.le_of_ble_eq_true rfl) ⟨Nat.le_of_ble_eq_true rfl, Nat.le_of_ble_eq_true rfl⟩ ⟨Nat.le_refl _, Nat.le_refl _⟩ rfl dX11_way_12 ?_
  obtain ⟨rfl, rfl⟩ := r2 h
  exact z_iret C dX11_way_15
def f_X12_isSignal (F : Nat) (x0 : Int32) (u : St) : Option (Int32 × St) := (if x0 < 0 then some ((0 : Int32), u) else (if (12 : Int32) ≤ x0 then some ((0 : Int32), u) else some ((1 : Int32), u)))
set_option maxRecDepth 20000 in
set_option maxHeartbeats 4000000 in
theorem m_X12_isSignal (F : Nat) (x0 : Int32) (u : St) (r : Int32) (u' : St)  (h : f_X12_isSignal F x0 u = some (r, u')) : Mt yX12_isSignal cX12_isSignal 1 (some .boolean) 0 (fun ad => [.int x0]) u (fun _ => some (.int r)) u' := by
  refine Mt.of (by decide) (fun ad => Nat.le_of_ble_eq_true rfl) ?_
  intro p l e s m args below meth c D cA ad ls C hl
  have hl : lv_has ls 1 [(0, .int x0)] := hl
  unfold f_X12_isSignal at h
  refine z_iload_n C (i := 0) (k := 0) hl dX12_isSignal_0 rfl rfl ?_
  refine z_if_lt C 14 dX12_isSignal_1 (by decide) (fun hc2 => ?_) (fun hc2 => ?_)
  · replace h := (if_pos hc2).symm.trans h
    refine z_iconst C (0 : Int32) dX12_isSignal_14 (by decide) ?_
    obtain ⟨rfl, rfl⟩ := r2 h
    exact z_zret (by decide) C dX12_isSignal_15
  · replace h := (if_neg hc2).symm.trans h
    refine z_iload_n C (i := 0) (k := 0) hl dX12_isSignal_4 rfl rfl ?_
    refine z_bipush C (12 : Int32) dX12_isSignal_5 (by decide) ?_
    refine z_icmp_ge C 14 dX12_isSignal_7 (by decide) (fun hc1 => ?_) (fun hc1 => ?_)
    · replace h := (if_pos hc1).symm.trans h
      refine z_iconst C (0 : Int32) dX12_isSignal_14 (by decide) ?_
      obtain ⟨rfl, rfl⟩ := r2 h
      exact z_zret (by decide) C dX12_isSignal_15
    · replace h := (if_neg hc1).symm.trans h
      refine z_iconst C (1 : Int32) dX12_isSignal_10 (by decide) ?_
      refine z_goto C 15 dX12_isSignal_11 (by decide) ?_
      obtain ⟨rfl, rfl⟩ := r2 h
      exact z_zret (by decide) C dX12_isSignal_15
def f_X12_arbiter (F : Nat) (x1 : Int32) (x2 : Int32) (x3 : Int32) (u : St) : Option (Int32 × St) := (Option.bind (f_X12_isSignal F x1 (wr u 50 0 (0 : Int32))) (fun w4 => (if w4.1 = 0 then some ((0 : Int32), w4.2) else (Option.bind (f_X12_isSignal F x2 w4.2) (fun w8 => (if w8.1 = 0 then some ((0 : Int32), w8.2) else (if x1 = x2 then some ((0 : Int32), w8.2) else (if (((12 : Int32) * x1) + x2) < 0 ∨ 144 ≤ (((12 : Int32) * x1) + x2).toNatClampNeg then none else (if (w8.2.1 59 (((12 : Int32) * x1) + x2).toNatClampNeg) = x3 then some ((0 : Int32), w8.2) else (if (((12 : Int32) * x1) + x2) < 0 ∨ 144 ≤ (((12 : Int32) * x1) + x2).toNatClampNeg then none else (if (((12 : Int32) * x2) + x1) < 0 ∨ 144 ≤ (((12 : Int32) * x2) + x1).toNatClampNeg then none else some ((1 : Int32), (wr (wr w8.2 59 (((12 : Int32) * x1) + x2).toNatClampNeg (vp_nar .boolean x3)) 59 (((12 : Int32) * x2) + x1).toNatClampNeg (vp_nar .boolean x3))))))))))))))
set_option maxRecDepth 20000 in
set_option maxHeartbeats 4000000 in
theorem m_X12_arbiter (F : Nat) (x1 : Int32) (x2 : Int32) (x3 : Int32) (u : St) (r : Int32) (u' : St)  (h : f_X12_arbiter F x1 x2 x3 u = some (r, u')) : Mt yX12_arbiter cX12_arbiter 4 (some .boolean) 1 (fun ad => [.ref (ad 50), .int x1, .int x2, .int x3]) u (fun _ => some (.int r)) u' := by
  refine Mt.of (by decide) (fun ad => Nat.le_of_ble_eq_true rfl) ?_
  intro p l e s m args below meth c D cA ad ls C hl
  have hl : lv_has ls 4 [(0, .ref (ad 50)), (1, .int x1), (2, .int x2), (3, .int x3)] := hl
  unfold f_X12_arbiter at h
  refine z_aload_n C (i := 0) (k := 0) hl dX12_arbiter_0 rfl rfl ?_
  refine z_iconst C (0 : Int32) dX12_arbiter_1 (by decide) ?_
  refine z_puti C 50 0 pw_X12_75 sh_50 rfl dX12_arbiter_2 ?_
  refine z_iload_n C (i := 1) (k := 1) hl dX12_arbiter_5 rfl rfl ?_
  obtain ⟨⟨r3, u1⟩, hc2, h⟩ := bnd h
  try dsimp only at h
  refine z_callS C [.int x1] [] [.int r3] (m_X12_isSignal F _ _ _ _ hc2) cw_X12_isSignal sw_X12_isSignal ml_X12_117 rfl rfl rfl hl.1 (Nat.le_of_ble_eq_true rfl) ⟨Nat.le_of_ble_eq_true rfl, Nat.le_of_ble_eq_true rfl⟩ ⟨Nat.le_refl _, Nat.le_refl _⟩ rfl dX12_arbiter_6 ?_
  refine z_if_eq C 39 dX12_arbiter_9 (by decide) (fun hc15 => ?_) (fun hc15 => ?_)
  · replace h := (if_pos hc15).symm.trans h
    refine z_iconst C (0 : Int32) dX12_arbiter_39 (by decide) ?_
    obtain ⟨rfl, rfl⟩ := r2 h
    exact z_zret (by decide) C dX12_arbiter_40
  · replace h := (if_neg hc15).symm.trans h
    refine z_iload_n C (i := 2) (k := 2) hl dX12_arbiter_12 rfl rfl ?_
    obtain ⟨⟨r7, u5⟩, hc6, h⟩ := bnd h
    try dsimp only at h
    refine z_callS C [.int x2] [] [.int r7] (m_X12_isSignal F _ _ _ _ hc6) cw_X12_isSignal sw_X12_isSignal ml_X12_117 rfl rfl rfl hl.1 (Nat.le_of_ble_eq_true rfl) ⟨Nat.le_of_ble_eq_true rfl, Nat.le_of_ble_eq_true rfl⟩ ⟨Nat.le_refl _, Nat.le_refl _⟩ rfl dX12_arbiter_13 ?_
    refine z_if_eq C 39 dX12_arbiter_16 (by decide) (fun hc14 => ?_) (fun hc14 => ?_)
    · replace h := (if_pos hc14).symm.trans h
      refine z_iconst C (0 : Int32) dX12_arbiter_39 (by decide) ?_
      obtain ⟨rfl, rfl⟩ := r2 h
      exact z_zret (by decide) C dX12_arbiter_40
    · replace h := (if_neg hc14).symm.trans h
      refine z_iload_n C (i := 1) (k := 1) hl dX12_arbiter_19 rfl rfl ?_
      refine z_iload_n C (i := 2) (k := 2) hl dX12_arbiter_20 rfl rfl ?_
      refine z_icmp_eq C 39 dX12_arbiter_21 (by decide) (fun hc13 => ?_) (fun hc13 => ?_)
      · replace h := (if_pos hc13).symm.trans h
        refine z_iconst C (0 : Int32) dX12_arbiter_39 (by decide) ?_
        obtain ⟨rfl, rfl⟩ := r2 h
        exact z_zret (by decide) C dX12_arbiter_40
      · replace h := (if_neg hc13).symm.trans h
        refine z_aload_n C (i := 0) (k := 0) hl dX12_arbiter_24 rfl rfl ?_
        refine z_getr C 50 11 59 fw_X12_36 sh_50 rfl dX12_arbiter_25 ?_
        refine z_bipush C (12 : Int32) dX12_arbiter_28 (by decide) ?_
        refine z_iload_n C (i := 1) (k := 1) hl dX12_arbiter_30 rfl rfl ?_
        refine z_imul C dX12_arbiter_31 ?_
        refine z_iload_n C (i := 2) (k := 2) hl dX12_arbiter_32 rfl rfl ?_
        refine z_iadd C dX12_arbiter_33 ?_
        obtain ⟨hi9, h⟩ := gd h
        refine z_zald C 59 144 sh_59 hi9 dX12_arbiter_34 ?_
        refine z_iload_n C (i := 3) (k := 3) hl dX12_arbiter_35 rfl rfl ?_
        refine z_icmp_ne C 41 dX12_arbiter_36 (by decide) (fun hc12 => ?_) (fun hc12 => ?_)
        · replace h := (if_neg hc12).symm.trans h
          refine z_aload_n C (i := 0) (k := 0) hl dX12_arbiter_41 rfl rfl ?_
          refine z_getr C 50 11 59 fw_X12_36 sh_50 rfl dX12_arbiter_42 ?_
          refine z_bipush C (12 : Int32) dX12_arbiter_45 (by decide) ?_
          refine z_iload_n C (i := 1) (k := 1) hl dX12_arbiter_47 rfl rfl ?_
          refine z_imul C dX12_arbiter_48 ?_
          refine z_iload_n C (i := 2) (k := 2) hl dX12_arbiter_49 rfl rfl ?_
          refine z_iadd C dX12_arbiter_50 ?_
          refine z_iload_n C (i := 3) (k := 3) hl dX12_arbiter_51 rfl rfl ?_
          obtain ⟨hi10, h⟩ := gd h
          refine z_zast C 59 144 sh_59 hi10 dX12_arbiter_52 ?_
          refine z_aload_n C (i := 0) (k := 0) hl dX12_arbiter_53 rfl rfl ?_
          refine z_getr C 50 11 59 fw_X12_36 sh_50 rfl dX12_arbiter_54 ?_
          refine z_bipush C (12 : Int32) dX12_arbiter_57 (by decide) ?_
          refine z_iload_n C (i := 2) (k := 2) hl dX12_arbiter_59 rfl rfl ?_
          refine z_imul C dX12_arbiter_60 ?_
          refine z_iload_n C (i := 1) (k := 1) hl dX12_arbiter_61 rfl rfl ?_
          refine z_iadd C dX12_arbiter_62 ?_
          refine z_iload_n C (i := 3) (k := 3) hl dX12_arbiter_63 rfl rfl ?_
          obtain ⟨hi11, h⟩ := gd h
          refine z_zast C 59 144 sh_59 hi11 dX12_arbiter_64 ?_
          refine z_iconst C (1 : Int32) dX12_arbiter_65 (by decide) ?_
          obtain ⟨rfl, rfl⟩ := r2 h
          exact z_zret (by decide) C dX12_arbiter_66
        · replace h := (if_pos hc12).symm.trans h
          refine z_iconst C (0 : Int32) dX12_arbiter_39 (by decide) ?_
          obtain ⟨rfl, rfl⟩ := r2 h
          exact z_zret (by decide) C dX12_arbiter_40
def f_X12_isIn (F : Nat) (x0 : Int32) (x1 : Int32) (x2 : Int32) (u : St) : Option (Int32 × St) := (if x0 < x1 then some ((0 : Int32), u) else (if x2 < x0 then some ((0 : Int32), u) else some ((1 : Int32), u)))
set_option maxRecDepth 20000 in
set_option maxHeartbeats 4000000 in
theorem m_X12_isIn (F : Nat) (x0 : Int32) (x1 : Int32) (x2 : Int32) (u : St) (r : Int32) (u' : St)  (h : f_X12_isIn F x0 x1 x2 u = some (r, u')) : Mt yX12_isIn cX12_isIn 3 (some .boolean) 0 (fun ad => [.int x0, .int x1, .int x2]) u (fun _ => some (.int r)) u' := by
  refine Mt.of (by decide) (fun ad => Nat.le_of_ble_eq_true rfl) ?_
  intro p l e s m args below meth c D cA ad ls C hl
  have hl : lv_has ls 3 [(0, .int x0), (1, .int x1), (2, .int x2)] := hl
  unfold f_X12_isIn at h
  refine z_iload_n C (i := 0) (k := 0) hl dX12_isIn_0 rfl rfl ?_
  refine z_iload_n C (i := 1) (k := 1) hl dX12_isIn_1 rfl rfl ?_
  refine z_icmp_lt C 14 dX12_isIn_2 (by decide) (fun hc2 => ?_) (fun hc2 => ?_)
  · replace h := (if_pos hc2).symm.trans h
    refine z_iconst C (0 : Int32) dX12_isIn_14 (by decide) ?_
    obtain ⟨rfl, rfl⟩ := r2 h
    exact z_zret (by decide) C dX12_isIn_15
  · replace h := (if_neg hc2).symm.trans h
    refine z_iload_n C (i := 0) (k := 0) hl dX12_isIn_5 rfl rfl ?_
    refine z_iload_n C (i := 2) (k := 2) hl dX12_isIn_6 rfl rfl ?_
    refine z_icmp_gt C 14 dX12_isIn_7 (by decide) (fun hc1 => ?_) (fun hc1 => ?_)
    · replace h := (if_pos hc1).symm.trans h
      refine z_iconst C (0 : Int32) dX12_isIn_14 (by decide) ?_
      obtain ⟨rfl, rfl⟩ := r2 h
      exact z_zret (by decide) C dX12_isIn_15
    · replace h := (if_neg hc1).symm.trans h
      refine z_iconst C (1 : Int32) dX12_isIn_10 (by decide) ?_
      refine z_goto C 15 dX12_isIn_11 (by decide) ?_
      obtain ⟨rfl, rfl⟩ := r2 h
      exact z_zret (by decide) C dX12_isIn_15
def f_X12_arc (F : Nat) (x1 : Int32) (x2 : Int32) (x3 : Int32) (u : St) : Option (Int32 × St) := (if ((wr u 50 0 (0 : Int32)).1 50 25) = (20 : Int32) then some ((-1 : Int32), (wr u 50 0 (0 : Int32))) else (Option.bind (f_X12_isIn F x1 (0 : Int32) (((wr u 50 0 (0 : Int32)).1 50 24) - (1 : Int32)) (wr u 50 0 (0 : Int32))) (fun w4 => (if w4.1 = 0 then some ((-1 : Int32), w4.2) else (Option.bind (f_X12_isIn F x2 (0 : Int32) ((w4.2.1 50 24) - (1 : Int32)) w4.2) (fun w8 => (if w8.1 = 0 then some ((-1 : Int32), w8.2) else (Option.bind (f_X12_isIn F x3 (0 : Int32) (9 : Int32) w8.2) (fun w12 => (if w12.1 = 0 then some ((-1 : Int32), w12.2) else (if (w12.2.1 50 25) < 0 ∨ 20 ≤ (w12.2.1 50 25).toNatClampNeg then none else (if ((wr w12.2 67 (w12.2.1 50 25).toNatClampNeg x1).1 50 25) < 0 ∨ 20 ≤ ((wr w12.2 67 (w12.2.1 50 25).toNatClampNeg x1).1 50 25).toNatClampNeg then none else (if ((wr (wr w12.2 67 (w12.2.1 50 25).toNatClampNeg x1) 68 ((wr w12.2 67 (w12.2.1 50 25).toNatClampNeg x1).1 50 25).toNatClampNeg x2).1 50 25) < 0 ∨ 20 ≤ ((wr (wr w12.2 67 (w12.2.1 50 25).toNatClampNeg x1) 68 ((wr w12.2 67 (w12.2.1 50 25).toNatClampNeg x1).1 50 25).toNatClampNeg x2).1 50 25).toNatClampNeg then none else some ((((wr (wr (wr (wr w12.2 67 (w12.2.1 50 25).toNatClampNeg x1) 68 ((wr w12.2 67 (w12.2.1 50 25).toNatClampNeg x1).1 50 25).toNatClampNeg x2) 69 ((wr (wr w12.2 67 (w12.2.1 50 25).toNatClampNeg x1) 68 ((wr w12.2 67 (w12.2.1 50 25).toNatClampNeg x1).1 50 25).toNatClampNeg x2).1 50 25).toNatClampNeg x3) 50 25 (((wr (wr (wr w12.2 67 (w12.2.1 50 25).toNatClampNeg x1) 68 ((wr w12.2 67 (w12.2.1 50 25).toNatClampNeg x1).1 50 25).toNatClampNeg x2) 69 ((wr (wr w12.2 67 (w12.2.1 50 25).toNatClampNeg x1) 68 ((wr w12.2 67 (w12.2.1 50 25).toNatClampNeg x1).1 50 25).toNatClampNeg x2).1 50 25).toNatClampNeg x3).1 50 25) + (1 : Int32))).1 50 25) - (1 : Int32)), (wr (wr (wr (wr w12.2 67 (w12.2.1 50 25).toNatClampNeg x1) 68 ((wr w12.2 67 (w12.2.1 50 25).toNatClampNeg x1).1 50 25).toNatClampNeg x2) 69 ((wr (wr w12.2 67 (w12.2.1 50 25).toNatClampNeg x1) 68 ((wr w12.2 67 (w12.2.1 50 25).toNatClampNeg x1).1 50 25).toNatClampNeg x2).1 50 25).toNatClampNeg x3) 50 25 (((wr (wr (wr w12.2 67 (w12.2.1 50 25).toNatClampNeg x1) 68 ((wr w12.2 67 (w12.2.1 50 25).toNatClampNeg x1).1 50 25).toNatClampNeg x2) 69 ((wr (wr w12.2 67 (w12.2.1 50 25).toNatClampNeg x1) 68 ((wr w12.2 67 (w12.2.1 50 25).toNatClampNeg x1).1 50 25).toNatClampNeg x2).1 50 25).toNatClampNeg x3).1 50 25) + (1 : Int32)))))))))))))))))
set_option maxRecDepth 20000 in
set_option maxHeartbeats 4000000 in
theorem m_X12_arc (F : Nat) (x1 : Int32) (x2 : Int32) (x3 : Int32) (u : St) (r : Int32) (u' : St)  (h : f_X12_arc F x1 x2 x3 u = some (r, u')) : Mt yX12_arc cX12_arc 4 (some .int) 1 (fun ad => [.ref (ad 50), .int x1, .int x2, .int x3]) u (fun _ => some (.int r)) u' := by
  refine Mt.of (by decide) (fun ad => Nat.le_of_ble_eq_true rfl) ?_
  intro p l e s m args below meth c D cA ad ls C hl
  have hl : lv_has ls 4 [(0, .ref (ad 50)), (1, .int x1), (2, .int x2), (3, .int x3)] := hl
  unfold f_X12_arc at h
  refine z_aload_n C (i := 0) (k := 0) hl dX12_arc_0 rfl rfl ?_
  refine z_iconst C (0 : Int32) dX12_arc_1 (by decide) ?_
  refine z_puti C 50 0 pw_X12_75 sh_50 rfl dX12_arc_2 ?_
  refine z_aload_n C (i := 0) (k := 0) hl dX12_arc_5 rfl rfl ?_
  refine z_geti C 50 25 fw_X12_159 sh_50 rfl dX12_arc_6 ?_
  refine z_bipush C (20 : Int32) dX12_arc_9 (by decide) ?_
  refine z_icmp_eq C 52 dX12_arc_11 (by decide) (fun hc19 => ?_) (fun hc19 => ?_)
  · replace h := (if_pos hc19).symm.trans h
    refine z_iconst C (-1 : Int32) dX12_arc_52 (by decide) ?_
    obtain ⟨rfl, rfl⟩ := r2 h
    exact z_iret C dX12_arc_53
  · replace h := (if_neg hc19).symm.trans h
    refine z_iload_n C (i := 1) (k := 1) hl dX12_arc_14 rfl rfl ?_
    refine z_iconst C (0 : Int32) dX12_arc_15 (by decide) ?_
    refine z_aload_n C (i := 0) (k := 0) hl dX12_arc_16 rfl rfl ?_
    refine z_geti C 50 24 fw_X12_156 sh_50 rfl dX12_arc_17 ?_
    refine z_iconst C (1 : Int32) dX12_arc_20 (by decide) ?_
    refine z_isub C dX12_arc_21 ?_
    obtain ⟨⟨r3, u1⟩, hc2, h⟩ := bnd h
    try dsimp only at h
    refine z_callS C [.int x1, .int (0 : Int32), .int (((wr u 50 0 (0 : Int32)).1 50 24) - (1 : Int32))] [] [.int r3] (m_X12_isIn F _ _ _ _ _ _ hc2) cw_X12_isIn sw_X12_isIn ml_X12_148 rfl rfl rfl hl.1 (Nat.le_of_ble_eq_true rfl) ⟨Nat.le_of_ble_eq_true rfl, Nat.le_of_ble_eq_true rfl⟩ ⟨Nat.le_refl _, Nat.le_refl _⟩ rfl dX12_arc_22 ?_
    refine z_if_eq C 52 dX12_arc_25 (by decide) (fun hc18 => ?_) (fun hc18 => ?_)
    · replace h := (if_pos hc18).symm.trans h
      refine z_iconst C (-1 : Int32) dX12_arc_52 (by decide) ?_
      obtain ⟨rfl, rfl⟩ := r2 h
      exact z_iret C dX12_arc_53
    · replace h := (if_neg hc18).symm.trans h
      refine z_iload_n C (i := 2) (k := 2) hl dX12_arc_28 rfl rfl ?_
      refine z_iconst C (0 : Int32) dX12_arc_29 (by decide) ?_
      refine z_aload_n C (i := 0) (k := 0) hl dX12_arc_30 rfl rfl ?_
      refine z_geti C 50 24 fw_X12_156 sh_50 rfl dX12_arc_31 ?_
      refine z_iconst C (1 : Int32) dX12_arc_34 (by decide) ?_
      refine z_isub C dX12_arc_35 ?_
      obtain ⟨⟨r7, u5⟩, hc6, h⟩ := bnd h
      try dsimp only at h
      refine z_callS C [.int x2, .int (0 : Int32), .int ((u1.1 50 24) - (1 : Int32))] [] [.int r7] (m_X12_isIn F _ _ _ _ _ _ hc6) cw_X12_isIn sw_X12_isIn ml_X12_148 rfl rfl rfl hl.1 (Nat.le_of_ble_eq_true rfl) ⟨Nat.le_of_ble_eq_true rfl, Nat.le_of_ble_eq_true rfl⟩ ⟨Nat.le_refl _, Nat.le_refl _⟩ rfl dX12_arc_36 ?_
      refine z_if_eq C 52 dX12_arc_39 (by decide) (fun hc17 => ?_) (fun hc17 => ?_)
      · replace h := (if_pos hc17).symm.trans h
        refine z_iconst C (-1 : Int32) dX12_arc_52 (by decide) ?_
        obtain ⟨rfl, rfl⟩ := r2 h
        exact z_iret C dX12_arc_53
      · replace h := (if_neg hc17).symm.trans h
        refine z_iload_n C (i := 3) (k := 3) hl dX12_arc_42 rfl rfl ?_
        refine z_iconst C (0 : Int32) dX12_arc_43 (by decide) ?_
        refine z_bipush C (9 : Int32) dX12_arc_44 (by decide) ?_
        obtain ⟨⟨r11, u9⟩, hc10, h⟩ := bnd h
        try dsimp only at h
        refine z_callS C [.int x3, .int (0 : Int32), .int (9 : Int32)] [] [.int r11] (m_X12_isIn F _ _ _ _ _ _ hc10) cw_X12_isIn sw_X12_isIn ml_X12_148 rfl rfl rfl hl.1 (Nat.le_of_ble_eq_true rfl) ⟨Nat.le_of_ble_eq_true rfl, Nat.le_of_ble_eq_true rfl⟩ ⟨Nat.le_refl _, Nat.le_refl _⟩ rfl dX12_arc_46 ?_
        refine z_if_ne C 54 dX12_arc_49 (by decide) (fun hc16 => ?_) (fun hc16 => ?_)
        · replace h := (if_neg hc16).symm.trans h
          refine z_aload_n C (i := 0) (k := 0) hl dX12_arc_54 rfl rfl ?_
          refine z_getr C 50 21 67 fw_X12_60 sh_50 rfl dX12_arc_55 ?_
          refine z_aload_n C (i := 0) (k := 0) hl dX12_arc_58 rfl rfl ?_
          refine z_geti C 50 25 fw_X12_159 sh_50 rfl dX12_arc_59 ?_
          refine z_iload_n C (i := 1) (k := 1) hl dX12_arc_62 rfl rfl ?_
          obtain ⟨hi13, h⟩ := gd h
          refine z_iast C 67 20 sh_67 hi13 dX12_arc_63 ?_
          refine z_aload_n C (i := 0) (k := 0) hl dX12_arc_64 rfl rfl ?_
          refine z_getr C 50 22 68 fw_X12_63 sh_50 rfl dX12_arc_65 ?_
          refine z_aload_n C (i := 0) (k := 0) hl dX12_arc_68 rfl rfl ?_
          refine z_geti C 50 25 fw_X12_159 sh_50 rfl dX12_arc_69 ?_
          refine z_iload_n C (i := 2) (k := 2) hl dX12_arc_72 rfl rfl ?_
          obtain ⟨hi14, h⟩ := gd h
          refine z_iast C 68 20 sh_68 hi14 dX12_arc_73 ?_
          refine z_aload_n C (i := 0) (k := 0) hl dX12_arc_74 rfl rfl ?_
          refine z_getr C 50 23 69 fw_X12_66 sh_50 rfl dX12_arc_75 ?_
          refine z_aload_n C (i := 0) (k := 0) hl dX12_arc_78 rfl rfl ?_
          refine z_geti C 50 25 fw_X12_159 sh_50 rfl dX12_arc_79 ?_
          refine z_iload_n C (i := 3) (k := 3) hl dX12_arc_82 rfl rfl ?_
          obtain ⟨hi15, h⟩ := gd h
          refine z_iast C 69 20 sh_69 hi15 dX12_arc_83 ?_
          refine z_aload_n C (i := 0) (k := 0) hl dX12_arc_84 rfl rfl ?_
          refine z_dup C dX12_arc_85 rfl ?_
          refine z_geti C 50 25 fw_X12_159 sh_50 rfl dX12_arc_86 ?_
          refine z_iconst C (1 : Int32) dX12_arc_89 (by decide) ?_
          refine z_iadd C dX12_arc_90 ?_
          refine z_puti C 50 25 pw_X12_159 sh_50 rfl dX12_arc_91 ?_
          refine z_aload_n C (i := 0) (k := 0) hl dX12_arc_94 rfl rfl ?_
          refine z_geti C 50 25 fw_X12_159 sh_50 rfl dX12_arc_95 ?_
          refine z_iconst C (1 : Int32) dX12_arc_98 (by decide) ?_
          refine z_isub C dX12_arc_99 ?_
          obtain ⟨rfl, rfl⟩ := r2 h
          exact z_iret C dX12_arc_100
        · replace h := (if_pos hc16).symm.trans h
          refine z_iconst C (-1 : Int32) dX12_arc_52 (by decide) ?_
          obtain ⟨rfl, rfl⟩ := r2 h
          exact z_iret C dX12_arc_53
