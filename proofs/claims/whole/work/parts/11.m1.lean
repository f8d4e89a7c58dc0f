def f_X11_isSignal (F : Nat) (x0 : Int32) (u : St) : Option (Int32 × St) := (if x0 < 0 then some ((0 : Int32), u) else (if (12 : Int32) ≤ x0 then some ((0 : Int32), u) else some ((1 : Int32), u)))
set_option maxRecDepth 20000 in
set_option maxHeartbeats 4000000 in
theorem m_X11_isSignal (F : Nat) (x0 : Int32) (u : St) (r : Int32) (u' : St)  (h : f_X11_isSignal F x0 u = some (r, u')) : Mt yX11_isSignal cX11_isSignal 1 (some .boolean) 0 (fun ad => [.int x0]) u (fun _ => some (.int r)) u' := by
  refine Mt.of (by decide) (fun ad => Nat.le_of_ble_eq_true rfl) ?_
  intro p l e s m args below meth c D cA ad ls C hl
  have hl : lv_has ls 1 [(0, .int x0)] := hl
  unfold f_X11_isSignal at h
  refine z_iload_n C (i := 0) (k := 0) hl dX11_isSignal_0 rfl rfl ?_
  refine z_if_lt C 14 dX11_isSignal_1 (by decide) (fun hc2 => ?_) (fun hc2 => ?_)
  · replace h := (if_pos hc2).symm.trans h
    refine z_iconst C (0 : Int32) dX11_isSignal_14 (by decide) ?_
    obtain ⟨rfl, rfl⟩ := r2 h
    exact z_zret (by decide) C dX11_isSignal_15
  · replace h := (if_neg hc2).symm.trans h
    refine z_iload_n C (i := 0) (k := 0) hl dX11_isSignal_4 rfl rfl ?_
    refine z_bipush C (12 : Int32) dX11_isSignal_5 (by decide) ?_
    refine z_icmp_ge C 14 dX11_isSignal_7 (by decide) (fun hc1 => ?_) (fun hc1 => ?_)
    · replace h := (if_pos hc1).symm.trans h
      refine z_iconst C (0 : Int32) dX11_isSignal_14 (by decide) ?_
      obtain ⟨rfl, rfl⟩ := r2 h
      exact z_zret (by decide) C dX11_isSignal_15
    · replace h := (if_neg hc1).symm.trans h
      refine z_iconst C (1 : Int32) dX11_isSignal_10 (by decide) ?_
      refine z_goto C 15 dX11_isSignal_11 (by decide) ?_
      obtain ⟨rfl, rfl⟩ := r2 h
      exact z_zret (by decide) C dX11_isSignal_15
def f_X2_forget (F : Nat)  (u : St) : Option (St) := some (wr u 16 4 (0 : Int32))
set_option maxRecDepth 20000 in
set_option maxHeartbeats 4000000 in
theorem m_X2_forget (F : Nat)  (u : St) (u' : St)  (h : f_X2_forget F  u = some u') : Mt yX2_forget cX2_forget 1 none 0 (fun ad => [.ref (ad 16)]) u (fun _ => none) u' := by
  refine Mt.of (by decide) (fun ad => Nat.le_of_ble_eq_true rfl) ?_
  intro p l e s m args below meth c D cA ad ls C hl
  have hl : lv_has ls 1 [(0, .ref (ad 16))] := hl
  unfold f_X2_forget at h
  refine z_aload_n C (i := 0) (k := 0) hl dX2_forget_0 rfl rfl ?_
  refine z_iconst C (0 : Int32) dX2_forget_1 (by decide) ?_
  refine z_putz C 16 4 pw_X2_23 (by decide) sh_16 rfl dX2_forget_2 ?_
  obtain rfl := Option.some.inj h
  exact z_vret C dX2_forget_5
def f_X11_arbiter (F : Nat) (x1 : Int32) (x2 : Int32) (x3 : Int32) (u : St) : Option (Int32 × St) := (Option.bind (f_X11_isSignal F x1 u) (fun w4 => (if w4.1 = 0 then some ((0 : Int32), w4.2) else (Option.bind (f_X11_isSignal F x2 w4.2) (fun w8 => (if w8.1 = 0 then some ((0 : Int32), w8.2) else (if x1 = x2 then some ((0 : Int32), w8.2) else (Option.bind (f_X0_isPair F x1 x2 w8.2) (fun w12 => (if w12.1 = x3 then some ((0 : Int32), w12.2) else (Option.bind (f_X0_turnPair F x1 x2 w12.2) (fun u13 => (Option.bind (f_X2_forget F u13) (fun u15 => some ((1 : Int32), u15)))))))))))))))
set_option maxRecDepth 20000 in
set_option maxHeartbeats 4000000 in
theorem m_X11_arbiter (F : Nat) (x1 : Int32) (x2 : Int32) (x3 : Int32) (u : St) (r : Int32) (u' : St)  (h : f_X11_arbiter F x1 x2 x3 u = some (r, u')) : Mt yX11_arbiter cX11_arbiter 4 (some .boolean) 2 (fun ad => [.ref (ad 0), .int x1, .int x2, .int x3]) u (fun _ => some (.int r)) u' := by
  refine Mt.of (by decide) (fun ad => Nat.le_of_ble_eq_true rfl) ?_
  intro p l e s m args below meth c D cA ad ls C hl
  have hl : lv_has ls 4 [(0, .ref (ad 0)), (1, .int x1), (2, .int x2), (3, .int x3)] := hl
  unfold f_X11_arbiter at h
  refine z_iload_n C (i := 1) (k := 1) hl dX11_arbiter_0 rfl rfl ?_
  obtain ⟨⟨r3, u1⟩, hc2, h⟩ := bnd h
  try dsimp only at h
  refine z_callS C [.int x1] [] [.int r3] (m_X11_isSignal F _ _ _ _ hc2) cw_X11_isSignal sw_X11_isSignal ml_X11_121 rfl rfl rfl hl.1 (Nat.le_of_ble_eq_true rfl) ⟨Nat.le_of_ble_eq_true rfl, Nat.le_of_ble_eq_true rfl⟩ ⟨Nat.le_refl _, Nat.le_refl _⟩ rfl dX11_arbiter_1 ?_
  refine z_if_eq C 32 dX11_arbiter_4 (by decide) (fun hc20 => ?_) (fun hc20 => ?_)
  · replace h := (if_pos hc20).symm.trans h
    refine z_iconst C (0 : Int32) dX11_arbiter_32 (by decide) ?_
    obtain ⟨rfl, rfl⟩ := r2 h
    exact z_zret (by decide) C dX11_arbiter_33
  · replace h := (if_neg hc20).symm.trans h
    refine z_iload_n C (i := 2) (k := 2) hl dX11_arbiter_7 rfl rfl ?_
    obtain ⟨⟨r7, u5⟩, hc6, h⟩ := bnd h
    try dsimp only at h
    refine z_callS C [.int x2] [] [.int r7] (m_X11_isSignal F _ _ _ _ hc6) cw_X11_isSignal sw_X11_isSignal ml_X11_121 rfl rfl rfl hl.1 (Nat.le_of_ble_eq_true rfl) ⟨Nat.le_of_ble_eq_true rfl, Nat.le_of_ble_eq_true rfl⟩ ⟨Nat.le_refl _, Nat.le_refl _⟩ rfl dX11_arbiter_8 ?_
    refine z_if_eq C 32 dX11_arbiter_11 (by decide) (fun hc19 => ?_) (fun hc19 => ?_)
    · replace h := (if_pos hc19).symm.trans h
      refine z_iconst C (0 : Int32) dX11_arbiter_32 (by decide) ?_
      obtain ⟨rfl, rfl⟩ := r2 h
      exact z_zret (by decide) C dX11_arbiter_33
    · replace h := (if_neg hc19).symm.trans h
      refine z_iload_n C (i := 1) (k := 1) hl dX11_arbiter_14 rfl rfl ?_
      refine z_iload_n C (i := 2) (k := 2) hl dX11_arbiter_15 rfl rfl ?_
      refine z_icmp_eq C 32 dX11_arbiter_16 (by decide) (fun hc18 => ?_) (fun hc18 => ?_)
      · replace h := (if_pos hc18).symm.trans h
        refine z_iconst C (0 : Int32) dX11_arbiter_32 (by decide) ?_
        obtain ⟨rfl, rfl⟩ := r2 h
        exact z_zret (by decide) C dX11_arbiter_33
      · replace h := (if_neg hc18).symm.trans h
        refine z_aload_n C (i := 0) (k := 0) hl dX11_arbiter_19 rfl rfl ?_
        refine z_getr C 0 2 4 fw_X11_28 sh_0 rfl dX11_arbiter_20 ?_
        refine z_iload_n C (i := 1) (k := 1) hl dX11_arbiter_23 rfl rfl ?_
        refine z_iload_n C (i := 2) (k := 2) hl dX11_arbiter_24 rfl rfl ?_
        obtain ⟨⟨r11, u9⟩, hc10, h⟩ := bnd h
        try dsimp only at h
        refine z_callV C (ci := 0) [.int x1, .int x2] [] [.int r11] (m_X0_isPair F _ _ _ _ _ hc10) cw_X0_isPair vw_X0_isPair ml_X11_124 sh_4 rfl rfl rfl rfl hl.1 (Nat.le_of_ble_eq_true rfl) ⟨Nat.le_of_ble_eq_true rfl, Nat.le_of_ble_eq_true rfl⟩ ⟨Nat.le_refl _, Nat.le_refl _⟩ rfl dX11_arbiter_25 ?_
        refine z_iload_n C (i := 3) (k := 3) hl dX11_arbiter_28 rfl rfl ?_
        refine z_icmp_ne C 34 dX11_arbiter_29 (by decide) (fun hc17 => ?_) (fun hc17 => ?_)
        · replace h := (if_neg hc17).symm.trans h
          refine z_aload_n C (i := 0) (k := 0) hl dX11_arbiter_34 rfl rfl ?_
          refine z_getr C 0 2 4 fw_X11_28 sh_0 rfl dX11_arbiter_35 ?_
          refine z_iload_n C (i := 1) (k := 1) hl dX11_arbiter_38 rfl rfl ?_
          refine z_iload_n C (i := 2) (k := 2) hl dX11_arbiter_39 rfl rfl ?_
          obtain ⟨u13, hc14, h⟩ := bnd h
          refine z_callV C (ci := 0) [.int x1, .int x2] [] [] (m_X0_turnPair F _ _ _ _ hc14) cw_X0_turnPair vw_X0_turnPair ml_X11_128 sh_4 rfl rfl rfl rfl hl.1 (Nat.le_of_ble_eq_true rfl) ⟨Nat.le_of_ble_eq_true rfl, Nat.le_of_ble_eq_true rfl⟩ ⟨Nat.le_refl _, Nat.le_refl _⟩ rfl dX11_arbiter_40 ?_
          refine z_aload_n C (i := 0) (k := 0) hl dX11_arbiter_43 rfl rfl ?_
          refine z_getr C 0 4 16 fw_X11_46 sh_0 rfl dX11_arbiter_44 ?_
          obtain ⟨u15, hc16, h⟩ := bnd h
          refine z_callV C (ci := 2) [] [] [] (m_X2_forget F  _ _ hc16) cw_X2_forget vw_X2_forget ml_X11_132 sh_16 rfl rfl rfl rfl hl.1 (Nat.le_of_ble_eq_true rfl) ⟨Nat.le_of_ble_eq_true rfl, Nat.le_of_ble_eq_true rfl⟩ ⟨Nat.le_refl _, Nat.le_refl _⟩ rfl dX11_arbiter_47 ?_
          refine z_iconst C (1 : Int32) dX11_arbiter_50 (by decide) ?_
          obtain ⟨rfl, rfl⟩ := r2 h
          exact z_zret (by decide) C dX11_arbiter_51
        · replace h := (if_pos hc17).symm.trans h
          refine z_iconst C (0 : Int32) dX11_arbiter_32 (by decide) ?_
          obtain ⟨rfl, rfl⟩ := r2 h
          exact z_zret (by decide) C dX11_arbiter_33
def f_X8_forget (F : Nat)  (u : St) : Option (St) := some (wr u 33 5 (0 : Int32))
set_option maxRecDepth 20000 in
set_option maxHeartbeats 4000000 in
theorem m_X8_forget (F : Nat)  (u : St) (u' : St)  (h : f_X8_forget F  u = some u') : Mt yX8_forget cX8_forget 1 none 0 (fun ad => [.ref (ad 33)]) u (fun _ => none) u' := by
  refine Mt.of (by decide) (fun ad => Nat.le_of_ble_eq_true rfl) ?_
  intro p l e s m args below meth c D cA ad ls C hl
  have hl : lv_has ls 1 [(0, .ref (ad 33))] := hl
  unfold f_X8_forget at h
  refine z_aload_n C (i := 0) (k := 0) hl dX8_forget_0 rfl rfl ?_
  refine z_iconst C (0 : Int32) dX8_forget_1 (by decide) ?_
  refine z_puti C 33 5 pw_X8_24 sh_33 rfl dX8_forget_2 ?_
  obtain rfl := Option.some.inj h
  exact z_vret C dX8_forget_5
def f_X9_forget (F : Nat)  (u : St) : Option (St) := some (wr (wr u 27 6 (0 : Int32)) 27 8 (0 : Int32))
set_option maxRecDepth 20000 in
set_option maxHeartbeats 4000000 in
theorem m_X9_forget (F : Nat)  (u : St) (u' : St)  (h : f_X9_forget F  u = some u') : Mt yX9_forget cX9_forget 1 none 0 (fun ad => [.ref (ad 27)]) u (fun _ => none) u' := by
  refine Mt.of (by decide) (fun ad => Nat.le_of_ble_eq_true rfl) ?_
  intro p l e s m args below meth c D cA ad ls C hl
  have hl : lv_has ls 1 [(0, .ref (ad 27))] := hl
  unfold f_X9_forget at h
  refine z_aload_n C (i := 0) (k := 0) hl dX9_forget_0 rfl rfl ?_
  refine z_iconst C (0 : Int32) dX9_forget_1 (by decide) ?_
  refine z_putz C 27 6 pw_X9_39 (by decide) sh_27 rfl dX9_forget_2 ?_
  refine z_aload_n C (i := 0) (k := 0) hl dX9_forget_5 rfl rfl ?_
  refine z_iconst C (0 : Int32) dX9_forget_6 (by decide) ?_
  refine z_putz C 27 8 pw_X9_43 (by decide) sh_27 rfl dX9_forget_7 ?_
  obtain rfl := Option.some.inj h
  exact z_vret C dX9_forget_10
def f_X11_forgetRings (F : Nat)  (u : St) : Option (St) := (Option.bind (f_X9_forget F u) (fun u1 => (Option.bind (f_X8_forget F u1) (fun u3 => some u3))))
set_option maxRecDepth 20000 in
set_option maxHeartbeats 4000000 in
theorem m_X11_forgetRings (F : Nat)  (u : St) (u' : St)  (h : f_X11_forgetRings F  u = some u') : Mt yX11_forgetRings cX11_forgetRings 1 none 1 (fun ad => [.ref (ad 0)]) u (fun _ => none) u' := by
  refine Mt.of (by decide) (fun ad => Nat.le_of_ble_eq_true rfl) ?_
  intro p l e s m args below meth c D cA ad ls C hl
  have hl : lv_has ls 1 [(0, .ref (ad 0))] := hl
  unfold f_X11_forgetRings at h
  refine z_aload_n C (i := 0) (k := 0) hl dX11_forgetRings_0 rfl rfl ?_
  refine z_getr C 0 8 27 fw_X11_73 sh_0 rfl dX11_forgetRings_1 ?_
  obtain ⟨u1, hc2, h⟩ := bnd h
  refine z_callV C (ci := 9) [] [] [] (m_X9_forget F  _ _ hc2) cw_X9_forget vw_X9_forget ml_X11_252 sh_27 rfl rfl rfl rfl hl.1 (Nat.le_of_ble_eq_true rfl) ⟨Nat.le_of_ble_eq_true rfl, Nat.le_of_ble_eq_true rfl⟩ ⟨Nat.le_refl _, Nat.le_refl _⟩ rfl dX11_forgetRings_4 ?_
  refine z_aload_n C (i := 0) (k := 0) hl dX11_forgetRings_7 rfl rfl ?_
  refine z_getr C 0 9 33 fw_X11_80 sh_0 rfl dX11_forgetRings_8 ?_
  obtain ⟨u3, hc4, h⟩ := bnd h
  refine z_callV C (ci := 8) [] [] [] (m_X8_forget F  _ _ hc4) cw_X8_forget vw_X8_forget ml_X11_253 sh_33 rfl rfl rfl rfl hl.1 (Nat.le_of_ble_eq_true rfl) ⟨Nat.le_of_ble_eq_true rfl, Nat.le_of_ble_eq_true rfl⟩ ⟨Nat.le_refl _, Nat.le_refl _⟩ rfl dX11_forgetRings_11 ?_
  obtain rfl := Option.some.inj h
  exact z_vret C dX11_forgetRings_14
def f_X4_isTokens (F : Nat) (x0 : Int32) (u : St) : Option (Int32 × St) := (if x0 < 0 then some ((0 : Int32), u) else (if (9 : Int32) < x0 then some ((0 : Int32), u) else some ((1 : Int32), u)))
set_option maxRecDepth 20000 in
set_option maxHeartbeats 4000000 in
theorem m_X4_isTokens (F : Nat) (x0 : Int32) (u : St) (r : Int32) (u' : St)  (h : f_X4_isTokens F x0 u = some (r, u')) : Mt yX4_isTokens cX4_isTokens 1 (some .boolean) 0 (fun ad => [.int x0]) u (fun _ => some (.int r)) u' := by
  refine Mt.of (by decide) (fun ad => Nat.le_of_ble_eq_true rfl) ?_
  intro p l e s m args below meth c D cA ad ls C hl
  have hl : lv_has ls 1 [(0, .int x0)] := hl
  unfold f_X4_isTokens at h
  refine z_iload_n C (i := 0) (k := 0) hl dX4_isTokens_0 rfl rfl ?_
  refine z_if_lt C 14 dX4_isTokens_1 (by decide) (fun hc2 => ?_) (fun hc2 => ?_)
  · replace h := (if_pos hc2).symm.trans h
    refine z_iconst C (0 : Int32) dX4_isTokens_14 (by decide) ?_
    obtain ⟨rfl, rfl⟩ := r2 h
    exact z_zret (by decide) C dX4_isTokens_15
  · replace h := (if_neg hc2).symm.trans h
    refine z_iload_n C (i := 0) (k := 0) hl dX4_isTokens_4 rfl rfl ?_
    refine z_bipush C (9 : Int32) dX4_isTokens_5 (by decide) ?_
    refine z_icmp_gt C 14 dX4_isTokens_7 (by decide) (fun hc1 => ?_) (fun hc1 => ?_)
    · replace h := (if_pos hc1).symm.trans h
      refine z_iconst C (0 : Int32) dX4_isTokens_14 (by decide) ?_
      obtain ⟨rfl, rfl⟩ := r2 h
      exact z_zret (by decide) C dX4_isTokens_15
    · replace h := (if_neg hc1).symm.trans h
      refine z_iconst C (1 : Int32) dX4_isTokens_10 (by decide) ?_
      refine z_goto C 15 dX4_isTokens_11 (by decide) ?_
      obtain ⟨rfl, rfl⟩ := r2 h
      exact z_zret (by decide) C dX4_isTokens_15
def f_X4_addArc (F : Nat) (x1 : Int32) (x2 : Int32) (x3 : Int32) (u : St) : Option (Int32 × St) := (if (20 : Int32) ≤ (u.1 22 5) then some ((-1 : Int32), u) else (Option.bind (f_X4_isNode F x1 u) (fun w4 => (if w4.1 = 0 then some ((-1 : Int32), w4.2) else (Option.bind (f_X4_isNode F x2 w4.2) (fun w8 => (if w8.1 = 0 then some ((-1 : Int32), w8.2) else (Option.bind (f_X4_isTokens F x3 w8.2) (fun w12 => (if w12.1 = 0 then some ((-1 : Int32), w12.2) else (if (w12.2.1 22 5) < 0 ∨ 20 ≤ (w12.2.1 22 5).toNatClampNeg then none else (if ((wr w12.2 24 (w12.2.1 22 5).toNatClampNeg x1).1 22 5) < 0 ∨ 20 ≤ ((wr w12.2 24 (w12.2.1 22 5).toNatClampNeg x1).1 22 5).toNatClampNeg then none else (if ((wr (wr w12.2 24 (w12.2.1 22 5).toNatClampNeg x1) 25 ((wr w12.2 24 (w12.2.1 22 5).toNatClampNeg x1).1 22 5).toNatClampNeg x2).1 22 5) < 0 ∨ 20 ≤ ((wr (wr w12.2 24 (w12.2.1 22 5).toNatClampNeg x1) 25 ((wr w12.2 24 (w12.2.1 22 5).toNatClampNeg x1).1 22 5).toNatClampNeg x2).1 22 5).toNatClampNeg then none else some ((((wr (wr (wr (wr w12.2 24 (w12.2.1 22 5).toNatClampNeg x1) 25 ((wr w12.2 24 (w12.2.1 22 5).toNatClampNeg x1).1 22 5).toNatClampNeg x2) 26 ((wr (wr w12.2 24 (w12.2.1 22 5).toNatClampNeg x1) 25 ((wr w12.2 24 (w12.2.1 22 5).toNatClampNeg x1).1 22 5).toNatClampNeg x2).1 22 5).toNatClampNeg x3) 22 5 (((wr (wr (wr w12.2 24 (w12.2.1 22 5).toNatClampNeg x1) 25 ((wr w12.2 24 (w12.2.1 22 5).toNatClampNeg x1).1 22 5).toNatClampNeg x2) 26 ((wr (wr w12.2 24 (w12.2.1 22 5).toNatClampNeg x1) 25 ((wr w12.2 24 (w12.2.1 22 5).toNatClampNeg x1).1 22 5).toNatClampNeg x2).1 22 5).toNatClampNeg x3).1 22 5) + (1 : Int32))).1 22 5) - (1 : Int32)), (wr (wr (wr (wr w12.2 24 (w12.2.1 22 5).toNatClampNeg x1) 25 ((wr w12.2 24 (w12.2.1 22 5).toNatClampNeg x1).1 22 5).toNatClampNeg x2) 26 ((wr (wr w12.2 24 (w12.2.1 22 5).toNatClampNeg x1) 25 ((wr w12.2 24 (w12.2.1 22 5).toNatClampNeg x1).1 22 5).toNatClampNeg x2).1 22 5).toNatClampNeg x3) 22 5 (((wr (wr (wr w12.2 24 (w12.2.1 22 5).toNatClampNeg x1) 25 ((wr w12.2 24 (w12.2.1 22 5).toNatClampNeg x1).1 22 5).toNatClampNeg x2) 26 ((wr (wr w12.2 24 (w12.2.1 22 5).toNatClampNeg x1) 25 ((wr w12.2 24 (w12.2.1 22 5).toNatClampNeg x1).1 22 5).toNatClampNeg x2).1 22 5).toNatClampNeg x3).1 22 5) + (1 : Int32)))))))))))))))))
set_option maxRecDepth 20000 in
set_option maxHeartbeats 4000000 in
theorem m_X4_addArc (F : Nat) (x1 : Int32) (x2 : Int32) (x3 : Int32) (u : St) (r : Int32) (u' : St)  (h : f_X4_addArc F x1 x2 x3 u = some (r, u')) : Mt yX4_addArc cX4_addArc 4 (some .int) 1 (fun ad => [.ref (ad 22), .int x1, .int x2, .int x3]) u (fun _ => some (.int r)) u' := by
  refine Mt.of (by decide) (fun ad => Nat.le_of_ble_eq_true rfl) ?_
  intro p l e s m args below meth c D cA ad ls C hl
  have hl : lv_has ls 4 [(0, .ref (ad 22)), (1, .int x1), (2, .int x2), (3, .int x3)] := hl
  unfold f_X4_addArc at h
  refine z_aload_n C (i := 0) (k := 0) hl dX4_addArc_0 rfl rfl ?_
  refine z_geti C 22 5 fw_X4_28 sh_22 rfl dX4_addArc_1 ?_
  refine z_bipush C (20 : Int32) dX4_addArc_4 (by decide) ?_
  refine z_icmp_ge C 32 dX4_addArc_6 (by decide) (fun hc19 => ?_) (fun hc19 => ?_)
  · replace h := (if_pos hc19).symm.trans h
    refine z_iconst C (-1 : Int32) dX4_addArc_32 (by decide) ?_
    obtain ⟨rfl, rfl⟩ := r2 h
    exact z_iret C dX4_addArc_33
  · replace h := (if_neg hc19).symm.trans h
    refine z_aload_n C (i := 0) (k := 0) hl dX4_addArc_9 rfl rfl ?_
    refine z_iload_n C (i := 1) (k := 1) hl dX4_addArc_10 rfl rfl ?_
    obtain ⟨⟨r3, u1⟩, hc2, h⟩ := bnd h
    try dsimp only at h
    refine z_callV C (ci := 4) [.int x1] [] [.int r3] (m_X4_isNode F _ _ _ _ hc2) cw_X4_isNode vw_X4_isNode ml_X4_31 sh_22 rfl rfl rfl rfl hl.1 (Nat.le_of_ble_eq_true rfl) ⟨Nat.le_of_ble_eq_true rfl, Nat.le_of_ble_eq_true rfl⟩ ⟨Nat.le_refl _, Nat.le_refl _⟩ rfl dX4_addArc_11 ?_
    refine z_if_eq C 32 dX4_addArc_14 (by decide) (fun hc18 => ?_) (fun hc18 => ?_)
    · replace h := (if_pos hc18).symm.trans h
      refine z_iconst C (-1 : Int32) dX4_addArc_32 (by decide) ?_
      obtain ⟨rfl, rfl⟩ := r2 h
      exact z_iret C dX4_addArc_33
    · replace h := (if_neg hc18).symm.trans h
      refine z_aload_n C (i := 0) (k := 0) hl dX4_addArc_17 rfl rfl ?_
      refine z_iload_n C (i := 2) (k := 2) hl dX4_addArc_18 rfl rfl ?_
      obtain ⟨⟨r7, u5⟩, hc6, h⟩ := bnd h
      try dsimp only at h
      refine z_callV C (ci := 4) [.int x2] [] [.int r7] (m_X4_isNode F _ _ _ _ hc6) cw_X4_isNode vw_X4_isNode ml_X4_31 sh_22 rfl rfl rfl rfl hl.1 (Nat.le_of_ble_eq_true rfl) ⟨Nat.le_of_ble_eq_true rfl, Nat.le_of_ble_eq_true rfl⟩ ⟨Nat.le_refl _, Nat.le_refl _⟩ rfl dX4_addArc_19 ?_
      refine z_if_eq C 32 dX4_addArc_22 (by decide) (fun hc17 => ?_) (fun hc17 => ?_)
      · replace h := (if_pos hc17).symm.trans h
        refine z_iconst C (-1 : Int32) dX4_addArc_32 (by decide) ?_
        obtain ⟨rfl, rfl⟩ := r2 h
        exact z_iret C dX4_addArc_33
      · replace h := (if_neg hc17).symm.trans h
        refine z_iload_n C (i := 3) (k := 3) hl dX4_addArc_25 rfl rfl ?_
        obtain ⟨⟨r11, u9⟩, hc10, h⟩ := bnd h
        try dsimp only at h
        refine z_callS C [.int x3] [] [.int r11] (m_X4_isTokens F _ _ _ _ hc10) cw_X4_isTokens sw_X4_isTokens ml_X4_35 rfl rfl rfl hl.1 (Nat.le_of_ble_eq_true rfl) ⟨Nat.le_of_ble_eq_true rfl, Nat.le_of_ble_eq_true rfl⟩ ⟨Nat.le_refl _, Nat.le_refl _⟩ rfl dX4_addArc_26 ?_
        refine z_if_ne C 34 dX4_addArc_29 (by decide) (fun hc16 => ?_) (fun hc16 => ?_)
        · replace h := (if_neg hc16).symm.trans h
          refine z_aload_n C (i := 0) (k := 0) hl dX4_addArc_34 rfl rfl ?_
          refine z_getr C 22 1 24 fw_X4_15 sh_22 rfl dX4_addArc_35 ?_
          refine z_aload_n C (i := 0) (k := 0) hl dX4_addArc_38 rfl rfl ?_
          refine z_geti C 22 5 fw_X4_28 sh_22 rfl dX4_addArc_39 ?_
          refine z_iload_n C (i := 1) (k := 1) hl dX4_addArc_42 rfl rfl ?_
          obtain ⟨hi13, h⟩ := gd h
          refine z_iast C 24 20 sh_24 hi13 dX4_addArc_43 ?_
          refine z_aload_n C (i := 0) (k := 0) hl dX4_addArc_44 rfl rfl ?_
          refine z_getr C 22 2 25 fw_X4_18 sh_22 rfl dX4_addArc_45 ?_
          refine z_aload_n C (i := 0) (k := 0) hl dX4_addArc_48 rfl rfl ?_
          refine z_geti C 22 5 fw_X4_28 sh_22 rfl dX4_addArc_49 ?_
          refine z_iload_n C (i := 2) (k := 2) hl dX4_addArc_52 rfl rfl ?_
          obtain ⟨hi14, h⟩ := gd h
          refine z_iast C 25 20 sh_25 hi14 dX4_addArc_53 ?_
          refine z_aload_n C (i := 0) (k := 0) hl dX4_addArc_54 rfl rfl ?_
          refine z_getr C 22 3 26 fw_X4_21 sh_22 rfl dX4_addArc_55 ?_
          refine z_aload_n C (i := 0) (k := 0) hl dX4_addArc_58 rfl rfl ?_
          refine z_geti C 22 5 fw_X4_28 sh_22 rfl dX4_addArc_59 ?_
          refine z_iload_n C (i := 3) (k := 3) hl dX4_addArc_62 rfl rfl ?_
          obtain ⟨hi15, h⟩ := gd h
          refine z_iast C 26 20 sh_26 hi15 dX4_addArc_63 ?_
          refine z_aload_n C (i := 0) (k := 0) hl dX4_addArc_64 rfl rfl ?_
          refine z_dup C dX4_addArc_65 rfl ?_
          refine z_geti C 22 5 fw_X4_28 sh_22 rfl dX4_addArc_66 ?_
          refine z_iconst C (1 : Int32) dX4_addArc_69 (by decide) ?_
          refine z_iadd C dX4_addArc_70 ?_
          refine z_puti C 22 5 pw_X4_28 sh_22 rfl dX4_addArc_71 ?_
          refine z_aload_n C (i := 0) (k := 0) hl dX4_addArc_74 rfl rfl ?_
          refine z_geti C 22 5 fw_X4_28 sh_22 rfl dX4_addArc_75 ?_
          refine z_iconst C (1 : Int32) dX4_addArc_78 (by decide) ?_
          refine z_isub C dX4_addArc_79 ?_
          obtain ⟨rfl, rfl⟩ := r2 h
          exact z_iret C dX4_addArc_80
        · replace h := (if_pos hc16).symm.trans h
          refine z_iconst C (-1 : Int32) dX4_addArc_32 (by decide) ?_
          obtain ⟨rfl, rfl⟩ := r2 h
          exact z_iret C dX4_addArc_33
def f_X11_arc (F : Nat) (x1 : Int32) (x2 : Int32) (x3 : Int32) (u : St) : Option (Int32 × St) := (Option.bind (f_X4_addArc F x1 x2 x3 u) (fun w4 => (Option.bind (f_X11_forgetRings F w4.2) (fun u5 => some (w4.1, u5)))))
set_option maxRecDepth 20000 in
set_option maxHeartbeats 4000000 in
theorem m_X11_arc (F : Nat) (x1 : Int32) (x2 : Int32) (x3 : Int32) (u : St) (r : Int32) (u' : St)  (h : f_X11_arc F x1 x2 x3 u = some (r, u')) : Mt yX11_arc cX11_arc 5 (some .int) 2 (fun ad => [.ref (ad 0), .int x1, .int x2, .int x3]) u (fun _ => some (.int r)) u' := by
  refine Mt.of (by decide) (fun ad => Nat.le_of_ble_eq_true rfl) ?_
  intro p l e s m args below meth c D cA ad ls C hl
  have hl : lv_has ls 5 [(0, .ref (ad 0)), (1, .int x1), (2, .int x2), (3, .int x3)] := hl
  unfold f_X11_arc at h
  refine z_aload_n C (i := 0) (k := 0) hl dX11_arc_0 rfl rfl ?_
  refine z_getr C 0 7 22 fw_X11_64 sh_0 rfl dX11_arc_1 ?_
  refine z_iload_n C (i := 1) (k := 1) hl dX11_arc_4 rfl rfl ?_
  refine z_iload_n C (i := 2) (k := 2) hl dX11_arc_5 rfl rfl ?_
  refine z_iload_n C (i := 3) (k := 3) hl dX11_arc_6 rfl rfl ?_
  obtain ⟨⟨r3, u1⟩, hc2, h⟩ := bnd h
  try dsimp only at h
  refine z_callV C (ci := 4) [.int x1, .int x2, .int x3] [] [.int r3] (m_X4_addArc F _ _ _ _ _ _ hc2) cw_X4_addArc vw_X4_addArc ml_X11_187 sh_22 rfl rfl rfl rfl hl.1 (Nat.le_of_ble_eq_true rfl) ⟨Nat.le_of_ble_eq_true rfl, Nat.le_of_ble_eq_true rfl⟩ ⟨Nat.le_refl _, Nat.le_refl _⟩ rfl dX11_arc_7 ?_
  refine z_istore C (i := 4) [(4, .int r3), (0, .ref (ad 0)), (1, .int x1), (2, .int x2), (3, .int x3)] hl dX11_arc_10 (by decide) rfl (fun ls hl => ?_)
  refine z_aload_n C (i := 0) (k := 1) hl dX11_arc_12 rfl rfl ?_
  obtain ⟨u5, hc6, h⟩ := bnd h
  refine z_callV C (ci := 11) [] [] [] (m_X11_forgetRings F  _ _ hc6) cw_X11_forgetRings vw_X11_forgetRings ml_X11_184 sh_0 rfl rfl rfl rfl hl.1 (Nat.le_of_ble_eq_true rfl) ⟨Nat.le_of_ble_eq_true rfl, Nat.le_of_ble_eq_true rfl⟩ ⟨Nat.le_refl _, Nat.le_refl _⟩ rfl dX11_arc_13 ?_
  refine z_iload C (i := 4) (k := 0) hl dX11_arc_16 rfl ?_
  obtain ⟨rfl, rfl⟩ := r2 h
  exact z_iret C dX11_arc_18
def f_X1_signals (F : Nat) (q0 : Nat) (u : St) : Option (Int32 × St) := some ((u.1 q0 4), u)
set_option maxRecDepth 20000 in
set_option maxHeartbeats 4000000 in
theorem m_X1_signals (F : Nat) (q0 : Nat) (u : St) (r : Int32) (u' : St) (hQ0 : IsE q0) (h : f_X1_signals F q0 u = some (r, u')) : Mt yX1_signals cX1_signals 1 (some .int) 0 (fun ad => [.ref (ad q0)]) u (fun _ => some (.int r)) u' := by
  refine Mt.of (by decide) (fun ad => Nat.le_of_ble_eq_true rfl) ?_
  intro p l e s m args below meth c D cA ad ls C hl
  have hl : lv_has ls 1 [(0, .ref (ad q0))] := hl
  unfold f_X1_signals at h
  refine z_aload_n C (i := 0) (k := 0) hl dX1_signals_0 rfl rfl ?_
  refine z_geti C q0 4 fw_X1_25 (shE hQ0) rfl dX1_signals_1 ?_
  obtain ⟨rfl, rfl⟩ := r2 h
  exact z_iret C dX1_signals_4
def b_X1_valuesIn_4 (F : Nat) (q0 : Nat) (x1 : Int32) (rec : Int32 → Int32 → St → Option (Int32 × Int32 × St)) (x2 : Int32) (x3 : Int32) (u : St) : Option (Int32 × Int32 × St) := (if (u.1 q0 3) ≤ x3 then some (x2, x3, u) else (if (144 : Int32) ≤ x3 then some (x2, x3, u) else (if x3 < 0 ∨ 144 ≤ x3.toNatClampNeg then none else (if x3 < 0 ∨ 144 ≤ x3.toNatClampNeg then none else (if (x1 &&& (u.1 (q0 + 2) x3.toNatClampNeg)) = (u.1 (q0 + 2) x3.toNatClampNeg) then (if x3 < 0 ∨ 144 ≤ x3.toNatClampNeg then none else (if (x1 &&& (u.1 (q0 + 3) x3.toNatClampNeg)) = 0 then (if x3 < 0 ∨ 144 ≤ x3.toNatClampNeg then none else rec ((x2 ||| ((1 : Int32) <<< ((u.1 (q0 + 1) x3.toNatClampNeg) &&& 31)))) ((x3 + (1 : Int32))) u) else rec x2 ((x3 + (1 : Int32))) u)) else rec x2 ((x3 + (1 : Int32))) u)))))
def l_X1_valuesIn_4 (F : Nat) (q0 : Nat) (x1 : Int32) : Nat → Int32 → Int32 → St → Option (Int32 × Int32 × St)
  | 0, _, _, _ => none
  | k + 1, x2, x3, u => b_X1_valuesIn_4 F q0 x1 (l_X1_valuesIn_4 F q0 x1 k) x2 x3 u
def f_X1_valuesIn (F : Nat) (q0 : Nat) (x1 : Int32) (u : St) : Option (Int32 × St) := (Option.bind (l_X1_valuesIn_4 F q0 x1 F (0 : Int32) (0 : Int32) u) (fun w9 => some (w9.1, w9.2.2)))
set_option maxRecDepth 20000 in
set_option maxHeartbeats 4000000 in
theorem zl_X1_valuesIn_4 {p : Program} {l : Launch} {e : Env} {s : State} {m : MethodId} {args : Array Value} {below : List Frame} {meth : Method} {c : Code} {D : va_G} {cA : Nat → ClassId} {ad : Nat → Nat} {Q : State → Prop} (C : Cx SH p s m args meth c cX1_valuesIn 4 (some .int) RX1 D cA ad (inAd ad)) (F : Nat) (q0 : Nat) (x1 : Int32) (hQ0 : IsE q0) {out : Int32 × Int32 × St}  (K : ∀ ls : Array Slot, lv_has ls 4 [(0, .ref (ad q0)), (1, .int x1), (2, .int out.1), (3, .int out.2.1)] → Z SH p l e (rmD 0) s m args below meth c D cA ad (inAd ad) 0 0 Q out.2.2 66 ls []) : ∀ (k : Nat) (x2 : Int32) (x3 : Int32) (u : St), l_X1_valuesIn_4 F q0 x1 k x2 x3 u = some out → ∀ ls : Array Slot, lv_has ls 4 [(0, .ref (ad q0)), (1, .int x1), (2, .int x2), (3, .int x3)] → Z SH p l e (rmD 0) s m args below meth c D cA ad (inAd ad) 0 0 Q u 4 ls [] := by
  intro k
  induction k with
  | zero => intro x2 x3 u h; cases h
  | succ k ih =>
    intro x2 x3 u h ls hl
    replace h : b_X1_valuesIn_4 F q0 x1 (l_X1_valuesIn_4 F q0 x1 k) x2 x3 u = some out := h
    unfold b_X1_valuesIn_4 at h
    refine z_iload_n C (i := 3) (k := 3) hl dX1_valuesIn_4 rfl rfl ?_
    refine z_aload_n C (i := 0) (k := 0) hl dX1_valuesIn_5 rfl rfl ?_
    refine z_geti C q0 3 fw_X1_21 (shE hQ0) rfl dX1_valuesIn_6 ?_
    refine z_icmp_ge C 66 dX1_valuesIn_9 (by decide) (fun hc8 => ?_) (fun hc8 => ?_)
    · replace h := (if_pos hc8).symm.trans h
      obtain rfl := Option.some.inj h
      exact K _ (lv_sub hl [0, 1, 2, 3] rfl)
    · replace h := (if_neg hc8).symm.trans h
      refine z_iload_n C (i := 3) (k := 3) hl dX1_valuesIn_12 rfl rfl ?_
      refine z_aload_n C (i := 0) (k := 0) hl dX1_valuesIn_13 rfl rfl ?_
      refine z_getr C q0 0 (q0 + 1) fw_X1_9 (shE hQ0) rfl dX1_valuesIn_14 ?_
      refine z_alen C (q0 + 1) 144 (144 : Int32) (shE1 hQ0) (by decide) dX1_valuesIn_17 ?_
      refine z_icmp_ge C 66 dX1_valuesIn_18 (by decide) (fun hc7 => ?_) (fun hc7 => ?_)
      · replace h := (if_pos hc7).symm.trans h
        obtain rfl := Option.some.inj h
        exact K _ (lv_sub hl [0, 1, 2, 3] rfl)
      · replace h := (if_neg hc7).symm.trans h
        refine z_iload_n C (i := 1) (k := 1) hl dX1_valuesIn_21 rfl rfl ?_
        refine z_aload_n C (i := 0) (k := 0) hl dX1_valuesIn_22 rfl rfl ?_
        refine z_getr C q0 1 (q0 + 2) fw_X1_15 (shE hQ0) rfl dX1_valuesIn_23 ?_
        refine z_iload_n C (i := 3) (k := 3) hl dX1_valuesIn_26 rfl rfl ?_
        obtain ⟨hi1, h⟩ := gd h
        refine z_iald C (q0 + 2) 144 (shE2 hQ0) hi1 dX1_valuesIn_27 ?_
        refine z_iand C dX1_valuesIn_28 ?_
        refine z_aload_n C (i := 0) (k := 0) hl dX1_valuesIn_29 rfl rfl ?_
        refine z_getr C q0 1 (q0 + 2) fw_X1_15 (shE hQ0) rfl dX1_valuesIn_30 ?_
        refine z_iload_n C (i := 3) (k := 3) hl dX1_valuesIn_33 rfl rfl ?_
        obtain ⟨hi2, h⟩ := gd h
        refine z_iald C (q0 + 2) 144 (shE2 hQ0) hi2 dX1_valuesIn_34 ?_
        refine z_icmp_ne C 60 dX1_valuesIn_35 (by decide) (fun hc6 => ?_) (fun hc6 => ?_)
        · replace h := (if_neg hc6).symm.trans h
          refine z_iinc C (i := 3) (k := 3) (x3 + (1 : Int32)) [(3, .int (x3 + (1 : Int32))), (0, .ref (ad q0)), (1, .int x1), (2, .int x2)] hl dX1_valuesIn_60 rfl rfl (by decide) rfl (fun ls hl => ?_)
          refine z_goto C 4 dX1_valuesIn_63 (by decide) ?_
          exact ih _ _ _ h _ (lv_sub hl [1, 2, 3, 0] rfl)
        · replace h := (if_pos hc6).symm.trans h
          refine z_iload_n C (i := 1) (k := 1) hl dX1_valuesIn_38 rfl rfl ?_
          refine z_aload_n C (i := 0) (k := 0) hl dX1_valuesIn_39 rfl rfl ?_
          refine z_getr C q0 2 (q0 + 3) fw_X1_18 (shE hQ0) rfl dX1_valuesIn_40 ?_
          refine z_iload_n C (i := 3) (k := 3) hl dX1_valuesIn_43 rfl rfl ?_
          obtain ⟨hi3, h⟩ := gd h
          refine z_iald C (q0 + 3) 144 (shE3 hQ0) hi3 dX1_valuesIn_44 ?_
          refine z_iand C dX1_valuesIn_45 ?_
          refine z_if_ne C 60 dX1_valuesIn_46 (by decide) (fun hc5 => ?_) (fun hc5 => ?_)
          · replace h := (if_neg hc5).symm.trans h
            refine z_iinc C (i := 3) (k := 3) (x3 + (1 : Int32)) [(3, .int (x3 + (1 : Int32))), (0, .ref (ad q0)), (1, .int x1), (2, .int x2)] hl dX1_valuesIn_60 rfl rfl (by decide) rfl (fun ls hl => ?_)
            refine z_goto C 4 dX1_valuesIn_63 (by decide) ?_
            exact ih _ _ _ h _ (lv_sub hl [1, 2, 3, 0] rfl)
          · replace h := (if_pos hc5).symm.trans h
            refine z_iload_n C (i := 2) (k := 2) hl dX1_valuesIn_49 rfl rfl ?_
            refine z_iconst C (1 : Int32) dX1_valuesIn_50 (by decide) ?_
            refine z_aload_n C (i := 0) (k := 0) hl dX1_valuesIn_51 rfl rfl ?_
            refine z_getr C q0 0 (q0 + 1) fw_X1_9 (shE hQ0) rfl dX1_valuesIn_52 ?_
            refine z_iload_n C (i := 3) (k := 3) hl dX1_valuesIn_55 rfl rfl ?_
            obtain ⟨hi4, h⟩ := gd h
            refine z_iald C (q0 + 1) 144 (shE1 hQ0) hi4 dX1_valuesIn_56 ?_
            refine z_ishl C dX1_valuesIn_57 ?_
            refine z_ior C dX1_valuesIn_58 ?_
            refine z_istore_n C (i := 2) [(2, .int (x2 ||| ((1 : Int32) <<< ((u.1 (q0 + 1) x3.toNatClampNeg) &&& 31)))), (0, .ref (ad q0)), (1, .int x1), (3, .int x3)] hl dX1_valuesIn_59 rfl (by decide) rfl (fun ls hl => ?_)
            refine z_iinc C (i := 3) (k := 3) (x3 + (1 : Int32)) [(3, .int (x3 + (1 : Int32))), (2, .int (x2 ||| ((1 : Int32) <<< ((u.1 (q0 + 1) x3.toNatClampNeg) &&& 31)))), (0, .ref (ad q0)), (1, .int x1)] hl dX1_valuesIn_60 rfl rfl (by decide) rfl (fun ls hl => ?_)
            refine z_goto C 4 dX1_valuesIn_63 (by decide) ?_
            exact ih _ _ _ h _ (lv_sub hl [2, 3, 1, 0] rfl)
set_option maxRecDepth 20000 in
set_option maxHeartbeats 4000000 in
theorem m_X1_valuesIn (F : Nat) (q0 : Nat) (x1 : Int32) (u : St) (r : Int32) (u' : St) (hQ0 : IsE q0) (h : f_X1_valuesIn F q0 x1 u = some (r, u')) : Mt yX1_valuesIn cX1_valuesIn 4 (some .int) 0 (fun ad => [.ref (ad q0), .int x1]) u (fun _ => some (.int r)) u' := by
  refine Mt.of (by decide) (fun ad => Nat.le_of_ble_eq_true rfl) ?_
  intro p l e s m args below meth c D cA ad ls C hl
  have hl : lv_has ls 4 [(0, .ref (ad q0)), (1, .int x1)] := hl
  unfold f_X1_valuesIn at h
  refine z_iconst C (0 : Int32) dX1_valuesIn_0 (by decide) ?_
  refine z_istore_n C (i := 2) [(2, .int (0 : Int32)), (0, .ref (ad q0)), (1, .int x1)] hl dX1_valuesIn_1 rfl (by decide) rfl (fun ls hl => ?_)
  refine z_iconst C (0 : Int32) dX1_valuesIn_2 (by decide) ?_
  refine z_istore_n C (i := 3) [(3, .int (0 : Int32)), (2, .int (0 : Int32)), (0, .ref (ad q0)), (1, .int x1)] hl dX1_valuesIn_3 rfl (by decide) rfl (fun ls hl => ?_)
  obtain ⟨w9, hw10, h⟩ := bnd h
  refine zl_X1_valuesIn_4 C F q0 x1 hQ0 (out := w9) (fun ls hl => ?_) F _ _ _ hw10 _ (lv_sub hl [2, 3, 1, 0] rfl)
  refine z_iload_n C (i := 2) (k := 2) hl dX1_valuesIn_66 rfl rfl ?_
  obtain ⟨rfl, rfl⟩ := r2 h
  exact z_iret C dX1_valuesIn_67
def f_X0_askedIn (F : Nat) (x1 : Int32) (u : St) : Option (Int32 × St) := (if x1 < 0 ∨ 4096 ≤ x1.toNatClampNeg then none else (if (u.1 5 x1.toNatClampNeg) = (-1 : Int32) then (if ((u.1 4 2).toNatClampNeg) = 7 ∨ ((u.1 4 2).toNatClampNeg) = 46 then (Option.bind (f_X1_valuesIn F ((u.1 4 2).toNatClampNeg) x1 u) (fun w12 => (if x1 < 0 ∨ 4096 ≤ x1.toNatClampNeg then none else (if x1 < 0 ∨ 4096 ≤ x1.toNatClampNeg then none else (if (((wr w12.2 5 x1.toNatClampNeg w12.1).1 4 2).toNatClampNeg) = 7 ∨ (((wr w12.2 5 x1.toNatClampNeg w12.1).1 4 2).toNatClampNeg) = 46 then (Option.bind (f_X1_signals F (((wr w12.2 5 x1.toNatClampNeg w12.1).1 4 2).toNatClampNeg) (wr w12.2 5 x1.toNatClampNeg w12.1)) (fun w19 => some ((((((wr w12.2 5 x1.toNatClampNeg w12.1).1 5 x1.toNatClampNeg) ^^^ x1) &&& w19.1) &&& ((w19.2.1 4 4) ^^^ (-1 : Int32))), w19.2))) else none))))) else none) else (if x1 < 0 ∨ 4096 ≤ x1.toNatClampNeg then none else (if ((u.1 4 2).toNatClampNeg) = 7 ∨ ((u.1 4 2).toNatClampNeg) = 46 then (Option.bind (f_X1_signals F ((u.1 4 2).toNatClampNeg) u) (fun w7 => some (((((u.1 5 x1.toNatClampNeg) ^^^ x1) &&& w7.1) &&& ((w7.2.1 4 4) ^^^ (-1 : Int32))), w7.2))) else none))))
set_option maxRecDepth 20000 in
set_option maxHeartbeats 4000000 in
theorem m_X0_askedIn (F : Nat) (x1 : Int32) (u : St) (r : Int32) (u' : St)  (h : f_X0_askedIn F x1 u = some (r, u')) : Mt yX0_askedIn cX0_askedIn 2 (some .int) 1 (fun ad => [.ref (ad 4), .int x1]) u (fun _ => some (.int r)) u' := by
  refine Mt.of (by decide) (fun ad => Nat.le_of_ble_eq_true rfl) ?_
  intro p l e s m args below meth c D cA ad ls C hl
  have hl : lv_has ls 2 [(0, .ref (ad 4)), (1, .int x1)] := hl
  unfold f_X0_askedIn at h
  refine z_aload_n C (i := 0) (k := 0) hl dX0_askedIn_0 rfl rfl ?_
  refine z_getr C 4 0 5 fw_X0_9 sh_4 rfl dX0_askedIn_1 ?_
  refine z_iload_n C (i := 1) (k := 1) hl dX0_askedIn_4 rfl rfl ?_
  obtain ⟨hi1, h⟩ := gd h
  refine z_iald C 5 4096 sh_5 hi1 dX0_askedIn_5 ?_
  refine z_iconst C (-1 : Int32) dX0_askedIn_6 (by decide) ?_
  refine z_icmp_ne C 24 dX0_askedIn_7 (by decide) (fun hc20 => ?_) (fun hc20 => ?_)
  · replace h := (if_neg hc20).symm.trans h
    refine z_aload_n C (i := 0) (k := 0) hl dX0_askedIn_24 rfl rfl ?_
    refine z_getr C 4 0 5 fw_X0_9 sh_4 rfl dX0_askedIn_25 ?_
    refine z_iload_n C (i := 1) (k := 1) hl dX0_askedIn_28 rfl rfl ?_
    obtain ⟨hi2, h⟩ := gd h
    refine z_iald C 5 4096 sh_5 hi2 dX0_askedIn_29 ?_
    refine z_iload_n C (i := 1) (k := 1) hl dX0_askedIn_30 rfl rfl ?_
    refine z_ixor C dX0_askedIn_31 ?_
    refine z_aload_n C (i := 0) (k := 0) hl dX0_askedIn_32 rfl rfl ?_
    obtain ⟨hq3, h⟩ := gp h
    refine z_getd C 4 2 fw_X0_21 sh_4 rfl dX0_askedIn_33 ?_
    obtain ⟨⟨r6, u4⟩, hc5, h⟩ := bnd h
    try dsimp only at h
    refine z_callV C (ci := 1) [] [.int ((u.1 5 x1.toNatClampNeg) ^^^ x1)] [.int r6, .int ((u.1 5 x1.toNatClampNeg) ^^^ x1)] (m_X1_signals F _ _ _ _ hq3 hc5) cw_X1_signals vw_X1_signals ml_X0_38 (shE hq3) rfl rfl rfl rfl hl.1 (Nat.le_of_ble_eq_true rfl) ⟨Nat.le_of_ble_eq_true rfl, Nat.le_of_ble_eq_true rfl⟩ ⟨Nat.le_refl _, Nat.le_refl _⟩ rfl dX0_askedIn_36 ?_
    refine z_iand C dX0_askedIn_39 ?_
    refine z_aload_n C (i := 0) (k := 0) hl dX0_askedIn_40 rfl rfl ?_
    refine z_geti C 4 4 fw_X0_35 sh_4 rfl dX0_askedIn_41 ?_
    refine z_iconst C (-1 : Int32) dX0_askedIn_44 (by decide) ?_
    refine z_ixor C dX0_askedIn_45 ?_
    refine z_iand C dX0_askedIn_46 ?_
    obtain ⟨rfl, rfl⟩ := r2 h
    exact z_iret C dX0_askedIn_47
  · replace h := (if_pos hc20).symm.trans h
    refine z_aload_n C (i := 0) (k := 0) hl dX0_askedIn_10 rfl rfl ?_
    refine z_getr C 4 0 5 fw_X0_9 sh_4 rfl dX0_askedIn_11 ?_
    refine z_iload_n C (i := 1) (k := 1) hl dX0_askedIn_14 rfl rfl ?_
    refine z_aload_n C (i := 0) (k := 0) hl dX0_askedIn_15 rfl rfl ?_
    obtain ⟨hq8, h⟩ := gp h
    refine z_getd C 4 2 fw_X0_21 sh_4 rfl dX0_askedIn_16 ?_
    refine z_iload_n C (i := 1) (k := 1) hl dX0_askedIn_19 rfl rfl ?_
    obtain ⟨⟨r11, u9⟩, hc10, h⟩ := bnd h
    try dsimp only at h
    refine z_callV C (ci := 1) [.int x1] [.int x1, .ref (ad 5)] [.int r11, .int x1, .ref (ad 5)] (m_X1_valuesIn F _ _ _ _ _ hq8 hc10) cw_X1_valuesIn vw_X1_valuesIn ml_X0_55 (shE hq8) rfl rfl rfl rfl hl.1 (Nat.le_of_ble_eq_true rfl) ⟨Nat.le_of_ble_eq_true rfl, Nat.le_of_ble_eq_true rfl⟩ ⟨Nat.le_refl _, Nat.le_refl _⟩ rfl dX0_askedIn_20 ?_
    obtain ⟨hi13, h⟩ := gd h
    refine z_iast C 5 4096 sh_5 hi13 dX0_askedIn_23 ?_
    refine z_aload_n C (i := 0) (k := 0) hl dX0_askedIn_24 rfl rfl ?_
    refine z_getr C 4 0 5 fw_X0_9 sh_4 rfl dX0_askedIn_25 ?_
    refine z_iload_n C (i := 1) (k := 1) hl dX0_askedIn_28 rfl rfl ?_
    obtain ⟨hi14, h⟩ := gd h
    refine z_iald C 5 4096 sh_5 hi14 dX0_askedIn_29 ?_
    refine z_iload_n C (i := 1) (k := 1) hl dX0_askedIn_30 rfl rfl ?_
    refine z_ixor C dX0_askedIn_31 ?_
    refine z_aload_n C (i := 0) (k := 0) hl dX0_askedIn_32 rfl rfl ?_
    obtain ⟨hq15, h⟩ := gp h
    refine z_getd C 4 2 fw_X0_21 sh_4 rfl dX0_askedIn_33 ?_
    obtain ⟨⟨r18, u16⟩, hc17, h⟩ := bnd h
    try dsimp only at h
    refine z_callV C (ci := 1) [] [.int (((wr u9 5 x1.toNatClampNeg r11).1 5 x1.toNatClampNeg) ^^^ x1)] [.int r18, .int (((wr u9 5 x1.toNatClampNeg r11).1 5 x1.toNatClampNeg) ^^^ x1)] (m_X1_signals F _ _ _ _ hq15 hc17) cw_X1_signals vw_X1_signals ml_X0_38 (shE hq15) rfl rfl rfl rfl hl.1 (Nat.le_of_ble_eq_true rfl) ⟨Nat.le_of_ble_eq_true rfl, Nat.le_of_ble_eq_true rfl⟩ ⟨Nat.le_refl _, Nat.le_refl _⟩ rfl dX0_askedIn_36 ?_
    refine z_iand C dX0_askedIn_39 ?_
    refine z_aload_n C (i := 0) (k := 0) hl dX0_askedIn_40 rfl rfl ?_
    refine z_geti C 4 4 fw_X0_35 sh_4 rfl dX0_askedIn_41 ?_
    refine z_iconst C (-1 : Int32) dX0_askedIn_44 (by decide) ?_
    refine z_ixor C dX0_askedIn_45 ?_
    refine z_iand C dX0_askedIn_46 ?_
    obtain ⟨rfl, rfl⟩ := r2 h
    exact z_iret C dX0_askedIn_47
def f_X11_isState (F : Nat) (x0 : Int32) (u : St) : Option (Int32 × St) := (if x0 < 0 then some ((0 : Int32), u) else (if (4096 : Int32) ≤ x0 then some ((0 : Int32), u) else some ((1 : Int32), u)))
set_option maxRecDepth 20000 in
set_option maxHeartbeats 4000000 in
theorem m_X11_isState (F : Nat) (x0 : Int32) (u : St) (r : Int32) (u' : St)  (h : f_X11_isState F x0 u = some (r, u')) : Mt yX11_isState cX11_isState 1 (some .boolean) 0 (fun ad => [.int x0]) u (fun _ => some (.int r)) u' := by
  refine Mt.of (by decide) (fun ad => Nat.le_of_ble_eq_true rfl) ?_
  intro p l e s m args below meth c D cA ad ls C hl
  have hl : lv_has ls 1 [(0, .int x0)] := hl
  unfold f_X11_isState at h
  refine z_iload_n C (i := 0) (k := 0) hl dX11_isState_0 rfl rfl ?_
  refine z_if_lt C 15 dX11_isState_1 (by decide) (fun hc2 => ?_) (fun hc2 => ?_)
  · replace h := (if_pos hc2).symm.trans h
    refine z_iconst C (0 : Int32) dX11_isState_15 (by decide) ?_
    obtain ⟨rfl, rfl⟩ := r2 h
    exact z_zret (by decide) C dX11_isState_16
  · replace h := (if_neg hc2).symm.trans h
    refine z_iload_n C (i := 0) (k := 0) hl dX11_isState_4 rfl rfl ?_
    refine z_sipush C (4096 : Int32) dX11_isState_5 (by decide) ?_
    refine z_icmp_ge C 15 dX11_isState_8 (by decide) (fun hc1 => ?_) (fun hc1 => ?_)
    · replace h := (if_pos hc1).symm.trans h
      refine z_iconst C (0 : Int32) dX11_isState_15 (by decide) ?_
      obtain ⟨rfl, rfl⟩ := r2 h
      exact z_zret (by decide) C dX11_isState_16
    · replace h := (if_neg hc1).symm.trans h
      refine z_iconst C (1 : Int32) dX11_isState_11 (by decide) ?_
      refine z_goto C 16 dX11_isState_12 (by decide) ?_
      obtain ⟨rfl, rfl⟩ := r2 h
      exact z_zret (by decide) C dX11_isState_16
def f_X11_asked (F : Nat) (x1 : Int32) (u : St) : Option (Int32 × St) := (Option.bind (f_X11_isState F x1 u) (fun w4 => (if w4.1 = 0 then some ((-1 : Int32), w4.2) else (Option.bind (f_X0_askedIn F x1 w4.2) (fun w8 => some (w8.1, w8.2))))))
set_option maxRecDepth 20000 in
set_option maxHeartbeats 4000000 in
theorem m_X11_asked (F : Nat) (x1 : Int32) (u : St) (r : Int32) (u' : St)  (h : f_X11_asked F x1 u = some (r, u')) : Mt yX11_asked cX11_asked 2 (some .int) 2 (fun ad => [.ref (ad 0), .int x1]) u (fun _ => some (.int r)) u' := by
  refine Mt.of (by decide) (fun ad => Nat.le_of_ble_eq_true rfl) ?_
  intro p l e s m args below meth c D cA ad ls C hl
  have hl : lv_has ls 2 [(0, .ref (ad 0)), (1, .int x1)] := hl
  unfold f_X11_asked at h
  refine z_iload_n C (i := 1) (k := 1) hl dX11_asked_0 rfl rfl ?_
  obtain ⟨⟨r3, u1⟩, hc2, h⟩ := bnd h
  try dsimp only at h
  refine z_callS C [.int x1] [] [.int r3] (m_X11_isState F _ _ _ _ hc2) cw_X11_isState sw_X11_isState ml_X11_110 rfl rfl rfl hl.1 (Nat.le_of_ble_eq_true rfl) ⟨Nat.le_of_ble_eq_true rfl, Nat.le_of_ble_eq_true rfl⟩ ⟨Nat.le_refl _, Nat.le_refl _⟩ rfl dX11_asked_1 ?_
  refine z_if_eq C 18 dX11_asked_4 (by decide) (fun hc9 => ?_) (fun hc9 => ?_)
  · replace h := (if_pos hc9).symm.trans h
    refine z_iconst C (-1 : Int32) dX11_asked_18 (by decide) ?_
    obtain ⟨rfl, rfl⟩ := r2 h
    exact z_iret C dX11_asked_19
  · replace h := (if_neg hc9).symm.trans h
    refine z_aload_n C (i := 0) (k := 0) hl dX11_asked_7 rfl rfl ?_
    refine z_getr C 0 2 4 fw_X11_28 sh_0 rfl dX11_asked_8 ?_
    refine z_iload_n C (i := 1) (k := 1) hl dX11_asked_11 rfl rfl ?_
    obtain ⟨⟨r7, u5⟩, hc6, h⟩ := bnd h
    try dsimp only at h
    refine z_callV C (ci := 0) [.int x1] [] [.int r7] (m_X0_askedIn F _ _ _ _ hc6) cw_X0_askedIn vw_X0_askedIn ml_X11_141 sh_4 rfl rfl rfl rfl hl.1 (Nat.le_of_ble_eq_true rfl) ⟨Nat.le_of_ble_eq_true rfl, Nat.le_of_ble_eq_true rfl⟩ ⟨Nat.le_refl _, Nat.le_refl _⟩ rfl dX11_asked_12 ?_
    refine z_goto C 19 dX11_asked_15 (by decide) ?_
    obtain ⟨rfl, rfl⟩ := r2 h
    exact z_iret C dX11_asked_19
def b_X10_firstWithAll_2 (F : Nat) (x1 : Int32) (rec : Int32 → St → Option ((Int32 × St) ⊕ (Int32 × St))) (x2 : Int32) (u : St) : Option ((Int32 × St) ⊕ (Int32 × St)) := (if (u.1 11 5) ≤ x2 then some (Sum.inr (x2, u)) else (if x2 < 0 ∨ 4096 ≤ x2.toNatClampNeg then none else (if ((u.1 12 x2.toNatClampNeg) &&& x1) = x1 then (if x2 < 0 ∨ 4096 ≤ x2.toNatClampNeg then none else some (Sum.inl ((u.1 12 x2.toNatClampNeg), u))) else rec ((x2 + (1 : Int32))) u)))
def l_X10_firstWithAll_2 (F : Nat) (x1 : Int32) : Nat → Int32 → St → Option ((Int32 × St) ⊕ (Int32 × St))
  | 0, _, _ => none
  | k + 1, x2, u => b_X10_firstWithAll_2 F x1 (l_X10_firstWithAll_2 F x1 k) x2 u
def f_X10_firstWithAll (F : Nat) (x1 : Int32) (u : St) : Option (Int32 × St) := (Option.bind (l_X10_firstWithAll_2 F x1 F (0 : Int32) u) (fun w5 => Sum.elim (fun r => some r) (fun v7 => some ((-1 : Int32), v7.2)) w5))
set_option maxRecDepth 20000 in
set_option maxHeartbeats 4000000 in
theorem zl_X10_firstWithAll_2 {p : Program} {l : Launch} {e : Env} {s : State} {m : MethodId} {args : Array Value} {below : List Frame} {meth : Method} {c : Code} {D : va_G} {cA : Nat → ClassId} {ad : Nat → Nat} {Q : State → Prop} (C : Cx SH p s m args meth c cX10_firstWithAll 3 (some .int) RX10 D cA ad (inAd ad)) (F : Nat) (x1 : Int32)  {out : (Int32 × St) ⊕ (Int32 × St)} (K1 : ∀ (r : Int32) (u' : St), out = .inl (r, u') → ∀ (pc : Nat) (ls : Array Slot), decode cX10_firstWithAll pc = .ok (.ireturn, 1) → Z SH p l e (rmD 0) s m args below meth c D cA ad (inAd ad) 0 0 Q u' pc ls [.int r]) (K : ∀ (v : Int32 × St), out = .inr v → ∀ ls : Array Slot, lv_has ls 3 [(0, .ref (ad 11)), (1, .int x1), (2, .int v.1)] → Z SH p l e (rmD 0) s m args below meth c D cA ad (inAd ad) 0 0 Q v.2 35 ls []) : ∀ (k : Nat) (x2 : Int32) (u : St), l_X10_firstWithAll_2 F x1 k x2 u = some out → ∀ ls : Array Slot, lv_has ls 3 [(0, .ref (ad 11)), (1, .int x1), (2, .int x2)] → Z SH p l e (rmD 0) s m args below meth c D cA ad (inAd ad) 0 0 Q u 2 ls [] := by
  intro k
  induction k with
  | zero => intro x2 u h; cases h
  | succ k ih =>
    intro x2 u h ls hl
    replace h : b_X10_firstWithAll_2 F x1 (l_X10_firstWithAll_2 F x1 k) x2 u = some out := h
    unfold b_X10_firstWithAll_2 at h
    refine z_iload_n C (i := 2) (k := 2) hl dX10_firstWithAll_2 rfl rfl ?_
    refine z_aload_n C (i := 0) (k := 0) hl dX10_firstWithAll_3 rfl rfl ?_
    refine z_geti C 11 5 fw_X10_38 sh_11 rfl dX10_firstWithAll_4 ?_
    refine z_icmp_ge C 35 dX10_firstWithAll_7 (by decide) (fun hc4 => ?_) (fun hc4 => ?_)
    · replace h := (if_pos hc4).symm.trans h
      exact K _ (Option.some.inj h).symm _ (lv_sub hl [0, 1, 2] rfl)
    · replace h := (if_neg hc4).symm.trans h
      refine z_aload_n C (i := 0) (k := 0) hl dX10_firstWithAll_10 rfl rfl ?_
      refine z_getr C 11 1 12 fw_X10_9 sh_11 rfl dX10_firstWithAll_11 ?_
      refine z_iload_n C (i := 2) (k := 2) hl dX10_firstWithAll_14 rfl rfl ?_
      obtain ⟨hi1, h⟩ := gd h
      refine z_iald C 12 4096 sh_12 hi1 dX10_firstWithAll_15 ?_
      refine z_iload_n C (i := 1) (k := 1) hl dX10_firstWithAll_16 rfl rfl ?_
      refine z_iand C dX10_firstWithAll_17 ?_
      refine z_iload_n C (i := 1) (k := 1) hl dX10_firstWithAll_18 rfl rfl ?_
      refine z_icmp_ne C 29 dX10_firstWithAll_19 (by decide) (fun hc3 => ?_) (fun hc3 => ?_)
      · replace h := (if_neg hc3).symm.trans h
        refine z_iinc C (i := 2) (k := 2) (x2 + (1 : Int32)) [(2, .int (x2 + (1 : Int32))), (0, .ref (ad 11)), (1, .int x1)] hl dX10_firstWithAll_29 rfl rfl (by decide) rfl (fun ls hl => ?_)
        refine z_goto C 2 dX10_firstWithAll_32 (by decide) ?_
        exact ih _ _ h _ (lv_sub hl [1, 2, 0] rfl)
      · replace h := (if_pos hc3).symm.trans h
        refine z_aload_n C (i := 0) (k := 0) hl dX10_firstWithAll_22 rfl rfl ?_
        refine z_getr C 11 1 12 fw_X10_9 sh_11 rfl dX10_firstWithAll_23 ?_
        refine z_iload_n C (i := 2) (k := 2) hl dX10_firstWithAll_26 rfl rfl ?_
        obtain ⟨hi2, h⟩ := gd h
        refine z_iald C 12 4096 sh_12 hi2 dX10_firstWithAll_27 ?_
        exact K1 _ _ (Option.some.inj h).symm _ _ dX10_firstWithAll_28
set_option maxRecDepth 20000 in
set_option maxHeartbeats 4000000 in
theorem m_X10_firstWithAll (F : Nat) (x1 : Int32) (u : St) (r : Int32) (u' : St)  (h : f_X10_firstWithAll F x1 u = some (r, u')) : Mt yX10_firstWithAll cX10_firstWithAll 3 (some .int) 0 (fun ad => [.ref (ad 11), .int x1]) u (fun _ => some (.int r)) u' := by
  refine Mt.of (by decide) (fun ad => Nat.le_of_ble_eq_true rfl) ?_
  intro p l e s m args below meth c D cA ad ls C hl
  have hl : lv_has ls 3 [(0, .ref (ad 11)), (1, .int x1)] := hl
  unfold f_X10_firstWithAll at h
  refine z_iconst C (0 : Int32) dX10_firstWithAll_0 (by decide) ?_
  refine z_istore_n C (i := 2) [(2, .int (0 : Int32)), (0, .ref (ad 11)), (1, .int x1)] hl dX10_firstWithAll_1 rfl (by decide) rfl (fun ls hl => ?_)
  obtain ⟨w5, hw6, h⟩ := bnd h
  refine zl_X10_firstWithAll_2 C F x1 (out := w5) (fun r8 u8 e8 pc ls hd => ?_) (fun v7 e8 ls hl => ?_) F _ _ hw6 _ (lv_sub hl [1, 2, 0] rfl)
  · subst e8
    obtain ⟨rfl, rfl⟩ := r2 h
    exact z_iret C hd
  · subst e8
    try dsimp only [Sum.elim] at h
    refine z_iconst C (-1 : Int32) dX10_firstWithAll_35 (by decide) ?_
    obtain ⟨rfl, rfl⟩ := r2 h
    exact z_iret C dX10_firstWithAll_36
def f_X0_resetState (F : Nat)  (u : St) : Option (Int32 × St) := some ((u.1 4 3), u)
set_option maxRecDepth 20000 in
set_option maxHeartbeats 4000000 in
theorem m_X0_resetState (F : Nat)  (u : St) (r : Int32) (u' : St)  (h : f_X0_resetState F  u = some (r, u')) : Mt yX0_resetState cX0_resetState 1 (some .int) 0 (fun ad => [.ref (ad 4)]) u (fun _ => some (.int r)) u' := by
  refine Mt.of (by decide) (fun ad => Nat.le_of_ble_eq_true rfl) ?_
  intro p l e s m args below meth c D cA ad ls C hl
  have hl : lv_has ls 1 [(0, .ref (ad 4))] := hl
  unfold f_X0_resetState at h
  refine z_aload_n C (i := 0) (k := 0) hl dX0_resetState_0 rfl rfl ?_
  refine z_geti C 4 3 fw_X0_31 sh_4 rfl dX0_resetState_1 ?_
  obtain ⟨rfl, rfl⟩ := r2 h
  exact z_iret C dX0_resetState_4
def f_X10_enter (F : Nat) (x1 : Int32) (x2 : Int32) (u : St) : Option (St) := (if x1 < 0 ∨ 4096 ≤ x1.toNatClampNeg then none else (if (u.1 13 x1.toNatClampNeg) = (-1 : Int32) then (if (4096 : Int32) ≤ (u.1 11 5) then some u else (if x1 < 0 ∨ 4096 ≤ x1.toNatClampNeg then none else (if x1 < 0 ∨ 4096 ≤ x1.toNatClampNeg then none else (if ((wr (wr u 13 x1.toNatClampNeg (u.1 11 5)) 14 x1.toNatClampNeg x2).1 11 5) < 0 ∨ 4096 ≤ ((wr (wr u 13 x1.toNatClampNeg (u.1 11 5)) 14 x1.toNatClampNeg x2).1 11 5).toNatClampNeg then none else some (wr (wr (wr (wr u 13 x1.toNatClampNeg (u.1 11 5)) 14 x1.toNatClampNeg x2) 12 ((wr (wr u 13 x1.toNatClampNeg (u.1 11 5)) 14 x1.toNatClampNeg x2).1 11 5).toNatClampNeg x1) 11 5 (((wr (wr (wr u 13 x1.toNatClampNeg (u.1 11 5)) 14 x1.toNatClampNeg x2) 12 ((wr (wr u 13 x1.toNatClampNeg (u.1 11 5)) 14 x1.toNatClampNeg x2).1 11 5).toNatClampNeg x1).1 11 5) + (1 : Int32))))))) else some u))
set_option maxRecDepth 20000 in
set_option maxHeartbeats 4000000 in
theorem m_X10_enter (F : Nat) (x1 : Int32) (x2 : Int32) (u : St) (u' : St)  (h : f_X10_enter F x1 x2 u = some u') : Mt yX10_enter cX10_enter 3 none 0 (fun ad => [.ref (ad 11), .int x1, .int x2]) u (fun _ => none) u' := by
  refine Mt.of (by decide) (fun ad => Nat.le_of_ble_eq_true rfl) ?_
  intro p l e s m args below meth c D cA ad ls C hl
  have hl : lv_has ls 3 [(0, .ref (ad 11)), (1, .int x1), (2, .int x2)] := hl
  unfold f_X10_enter at h
  refine z_aload_n C (i := 0) (k := 0) hl dX10_enter_0 rfl rfl ?_
  refine z_getr C 11 2 13 fw_X10_15 sh_11 rfl dX10_enter_1 ?_
  refine z_iload_n C (i := 1) (k := 1) hl dX10_enter_4 rfl rfl ?_
  obtain ⟨hi1, h⟩ := gd h
  refine z_iald C 13 4096 sh_13 hi1 dX10_enter_5 ?_
  refine z_iconst C (-1 : Int32) dX10_enter_6 (by decide) ?_
  refine z_icmp_ne C 57 dX10_enter_7 (by decide) (fun hc6 => ?_) (fun hc6 => ?_)
  · replace h := (if_neg hc6).symm.trans h
    obtain rfl := Option.some.inj h
    exact z_vret C dX10_enter_57
  · replace h := (if_pos hc6).symm.trans h
    refine z_aload_n C (i := 0) (k := 0) hl dX10_enter_10 rfl rfl ?_
    refine z_geti C 11 5 fw_X10_38 sh_11 rfl dX10_enter_11 ?_
    refine z_sipush C (4096 : Int32) dX10_enter_14 (by decide) ?_
    refine z_icmp_ge C 57 dX10_enter_17 (by decide) (fun hc5 => ?_) (fun hc5 => ?_)
    · replace h := (if_pos hc5).symm.trans h
      obtain rfl := Option.some.inj h
      exact z_vret C dX10_enter_57
    · replace h := (if_neg hc5).symm.trans h
      refine z_aload_n C (i := 0) (k := 0) hl dX10_enter_20 rfl rfl ?_
      refine z_getr C 11 2 13 fw_X10_15 sh_11 rfl dX10_enter_21 ?_
      refine z_iload_n C (i := 1) (k := 1) hl dX10_enter_24 rfl rfl ?_
      refine z_aload_n C (i := 0) (k := 0) hl dX10_enter_25 rfl rfl ?_
      refine z_geti C 11 5 fw_X10_38 sh_11 rfl dX10_enter_26 ?_
      obtain ⟨hi2, h⟩ := gd h
      refine z_iast C 13 4096 sh_13 hi2 dX10_enter_29 ?_
      refine z_aload_n C (i := 0) (k := 0) hl dX10_enter_30 rfl rfl ?_
      refine z_getr C 11 3 14 fw_X10_18 sh_11 rfl dX10_enter_31 ?_
      refine z_iload_n C (i := 1) (k := 1) hl dX10_enter_34 rfl rfl ?_
      refine z_iload_n C (i := 2) (k := 2) hl dX10_enter_35 rfl rfl ?_
      obtain ⟨hi3, h⟩ := gd h
      refine z_iast C 14 4096 sh_14 hi3 dX10_enter_36 ?_
      refine z_aload_n C (i := 0) (k := 0) hl dX10_enter_37 rfl rfl ?_
      refine z_getr C 11 1 12 fw_X10_9 sh_11 rfl dX10_enter_38 ?_
      refine z_aload_n C (i := 0) (k := 0) hl dX10_enter_41 rfl rfl ?_
      refine z_geti C 11 5 fw_X10_38 sh_11 rfl dX10_enter_42 ?_
      refine z_iload_n C (i := 1) (k := 1) hl dX10_enter_45 rfl rfl ?_
      obtain ⟨hi4, h⟩ := gd h
      refine z_iast C 12 4096 sh_12 hi4 dX10_enter_46 ?_
      refine z_aload_n C (i := 0) (k := 0) hl dX10_enter_47 rfl rfl ?_
      refine z_dup C dX10_enter_48 rfl ?_
      refine z_geti C 11 5 fw_X10_38 sh_11 rfl dX10_enter_49 ?_
      refine z_iconst C (1 : Int32) dX10_enter_52 (by decide) ?_
      refine z_iadd C dX10_enter_53 ?_
      refine z_puti C 11 5 pw_X10_38 sh_11 rfl dX10_enter_54 ?_
      obtain rfl := Option.some.inj h
      exact z_vret C dX10_enter_57
def b_X10_goOnFrom_45 (F : Nat) (x1 : Int32) (x2 : Int32) (rec : Int32 → St → Option (Int32 × St)) (x3 : Int32) (u : St) : Option (Int32 × St) := (if (12 : Int32) ≤ x3 then some (x3, u) else (Option.bind (f_X11_isIn F x2 x3 u) (fun w8 => (if w8.1 = 0 then rec ((x3 + (1 : Int32))) w8.2 else (Option.bind (f_X10_enter F (x1 ^^^ ((1 : Int32) <<< (x3 &&& 31))) x3 w8.2) (fun u9 => rec ((x3 + (1 : Int32))) u9))))))
def l_X10_goOnFrom_45 (F : Nat) (x1 : Int32) (x2 : Int32) : Nat → Int32 → St → Option (Int32 × St)
  | 0, _, _ => none
  | k + 1, x3, u => b_X10_goOnFrom_45 F x1 x2 (l_X10_goOnFrom_45 F x1 x2 k) x3 u
def f_X10_goOnFrom (F : Nat) (x1 : Int32) (u : St) : Option (St) := (Option.bind (f_X0_askedIn F x1 u) (fun w4 => (if w4.1 = 0 then (if (4096 : Int32) ≤ (w4.2.1 11 6) then (Option.bind (l_X10_goOnFrom_45 F x1 w4.1 F (0 : Int32) w4.2) (fun w15 => some w15.2)) else (if (w4.2.1 11 6) < 0 ∨ 4096 ≤ (w4.2.1 11 6).toNatClampNeg then none else (Option.bind (l_X10_goOnFrom_45 F x1 w4.1 F (0 : Int32) (wr (wr w4.2 15 (w4.2.1 11 6).toNatClampNeg x1) 11 6 (((wr w4.2 15 (w4.2.1 11 6).toNatClampNeg x1).1 11 6) + (1 : Int32)))) (fun w18 => some w18.2)))) else (Option.bind (l_X10_goOnFrom_45 F x1 w4.1 F (0 : Int32) w4.2) (fun w13 => some w13.2)))))
set_option maxRecDepth 20000 in
set_option maxHeartbeats 4000000 in
theorem zl_X10_goOnFrom_45 {p : Program} {l : Launch} {e : Env} {s : State} {m : MethodId} {args : Array Value} {below : List Frame} {meth : Method} {c : Code} {D : va_G} {cA : Nat → ClassId} {ad : Nat → Nat} {Q : State → Prop} (C : Cx SH p s m args meth c cX10_goOnFrom 4 none RX10 D cA ad (inAd ad)) (F : Nat) (x1 : Int32) (x2 : Int32)  {out : Int32 × St}  (K : ∀ ls : Array Slot, lv_has ls 4 [(0, .ref (ad 11)), (1, .int x1), (2, .int x2), (3, .int out.1)] → Z SH p l e (rmD 2) s m args below meth c D cA ad (inAd ad) 0 0 Q out.2 75 ls []) : ∀ (k : Nat) (x3 : Int32) (u : St), l_X10_goOnFrom_45 F x1 x2 k x3 u = some out → ∀ ls : Array Slot, lv_has ls 4 [(0, .ref (ad 11)), (1, .int x1), (2, .int x2), (3, .int x3)] → Z SH p l e (rmD 2) s m args below meth c D cA ad (inAd ad) 0 0 Q u 45 ls [] := by
  intro k
  induction k with
  | zero => intro x3 u h; cases h
  | succ k ih =>
    intro x3 u h ls hl
    replace h : b_X10_goOnFrom_45 F x1 x2 (l_X10_goOnFrom_45 F x1 x2 k) x3 u = some out := h
    unfold b_X10_goOnFrom_45 at h
    refine z_iload_n C (i := 3) (k := 3) hl dX10_goOnFrom_45 rfl rfl ?_
    refine z_bipush C (12 : Int32) dX10_goOnFrom_46 (by decide) ?_
    refine z_icmp_ge C 75 dX10_goOnFrom_48 (by decide) (fun hc12 => ?_) (fun hc12 => ?_)
    · replace h := (if_pos hc12).symm.trans h
      obtain rfl := Option.some.inj h
      exact K _ (lv_sub hl [0, 1, 2, 3] rfl)
    · replace h := (if_neg hc12).symm.trans h
      refine z_iload_n C (i := 2) (k := 2) hl dX10_goOnFrom_51 rfl rfl ?_
      refine z_iload_n C (i := 3) (k := 3) hl dX10_goOnFrom_52 rfl rfl ?_
      obtain ⟨⟨r7, u5⟩, hc6, h⟩ := bnd h
      try dsimp only at h
      refine z_callSN C [.int x2, .int x3] [] [.int r7] (m_X11_isIn F _ _ _ _ _ hc6) cw_X11_isIn sw_X11_isIn mn_X10_63 rfl rfl rfl hl.1 (Nat.le_of_ble_eq_true rfl) ⟨Nat.le_of_ble_eq_true rfl, Nat.le_of_ble_eq_true rfl⟩ ⟨Nat.le_refl _, Nat.le_refl _⟩ rfl dX10_goOnFrom_53 ?_
      refine z_if_eq C 69 dX10_goOnFrom_56 (by decide) (fun hc11 => ?_) (fun hc11 => ?_)
      · replace h := (if_pos hc11).symm.trans h
        refine z_iinc C (i := 3) (k := 3) (x3 + (1 : Int32)) [(3, .int (x3 + (1 : Int32))), (0, .ref (ad 11)), (1, .int x1), (2, .int x2)] hl dX10_goOnFrom_69 rfl rfl (by decide) rfl (fun ls hl => ?_)
        refine z_goto C 45 dX10_goOnFrom_72 (by decide) ?_
        exact ih _ _ h _ (lv_sub hl [1, 2, 3, 0] rfl)
      · replace h := (if_neg hc11).symm.trans h
        refine z_aload_n C (i := 0) (k := 0) hl dX10_goOnFrom_59 rfl rfl ?_
        refine z_iload_n C (i := 1) (k := 1) hl dX10_goOnFrom_60 rfl rfl ?_
        refine z_iconst C (1 : Int32) dX10_goOnFrom_61 (by decide) ?_
        refine z_iload_n C (i := 3) (k := 3) hl dX10_goOnFrom_62 rfl rfl ?_
        refine z_ishl C dX10_goOnFrom_63 ?_
        refine z_ixor C dX10_goOnFrom_64 ?_
        refine z_iload_n C (i := 3) (k := 3) hl dX10_goOnFrom_65 rfl rfl ?_
        obtain ⟨u9, hc10, h⟩ := bnd h
        refine z_callV C (ci := 10) [.int (x1 ^^^ ((1 : Int32) <<< (x3 &&& 31))), .int x3] [] [] (m_X10_enter F _ _ _ _ hc10) cw_X10_enter vw_X10_enter ml_X10_51 sh_11 rfl rfl rfl rfl hl.1 (Nat.le_of_ble_eq_true rfl) ⟨Nat.le_of_ble_eq_true rfl, Nat.le_of_ble_eq_true rfl⟩ ⟨Nat.le_refl _, Nat.le_refl _⟩ rfl dX10_goOnFrom_66 ?_
        refine z_iinc C (i := 3) (k := 3) (x3 + (1 : Int32)) [(3, .int (x3 + (1 : Int32))), (0, .ref (ad 11)), (1, .int x1), (2, .int x2)] hl dX10_goOnFrom_69 rfl rfl (by decide) rfl (fun ls hl => ?_)
        refine z_goto C 45 dX10_goOnFrom_72 (by decide) ?_
        exact ih _ _ h _ (lv_sub hl [1, 2, 3, 0] rfl)
set_option maxRecDepth 20000 in
set_option maxHeartbeats 4000000 in
theorem m_X10_goOnFrom (F : Nat) (x1 : Int32) (u : St) (u' : St)  (h : f_X10_goOnFrom F x1 u = some u') : Mt yX10_goOnFrom cX10_goOnFrom 4 none 2 (fun ad => [.ref (ad 11), .int x1]) u (fun _ => none) u' := by
  refine Mt.of (by decide) (fun ad => Nat.le_of_ble_eq_true rfl) ?_
  intro p l e s m args below meth c D cA ad ls C hl
  have hl : lv_has ls 4 [(0, .ref (ad 11)), (1, .int x1)] := hl
  unfold f_X10_goOnFrom at h
  refine z_aload_n C (i := 0) (k := 0) hl dX10_goOnFrom_0 rfl rfl ?_
  refine z_getr C 11 0 4 fw_X10_24 sh_11 rfl dX10_goOnFrom_1 ?_
  refine z_iload_n C (i := 1) (k := 1) hl dX10_goOnFrom_4 rfl rfl ?_
  obtain ⟨⟨r3, u1⟩, hc2, h⟩ := bnd h
  try dsimp only at h
  refine z_callV C (ci := 0) [.int x1] [] [.int r3] (m_X0_askedIn F _ _ _ _ hc2) cw_X0_askedIn vw_X0_askedIn ml_X10_59 sh_4 rfl rfl rfl rfl hl.1 (Nat.le_of_ble_eq_true rfl) ⟨Nat.le_of_ble_eq_true rfl, Nat.le_of_ble_eq_true rfl⟩ ⟨Nat.le_refl _, Nat.le_refl _⟩ rfl dX10_goOnFrom_5 ?_
  refine z_istore_n C (i := 2) [(2, .int r3), (0, .ref (ad 11)), (1, .int x1)] hl dX10_goOnFrom_8 rfl (by decide) rfl (fun ls hl => ?_)
  refine z_iload_n C (i := 2) (k := 0) hl dX10_goOnFrom_9 rfl rfl ?_
  refine z_if_ne C 43 dX10_goOnFrom_10 (by decide) (fun hc21 => ?_) (fun hc21 => ?_)
  · replace h := (if_neg hc21).symm.trans h
    refine z_iconst C (0 : Int32) dX10_goOnFrom_43 (by decide) ?_
    refine z_istore_n C (i := 3) [(3, .int (0 : Int32)), (2, .int r3), (0, .ref (ad 11)), (1, .int x1)] hl dX10_goOnFrom_44 rfl (by decide) rfl (fun ls hl => ?_)
    obtain ⟨w13, hw14, h⟩ := bnd h
    refine zl_X10_goOnFrom_45 C F x1 r3 (out := w13) (fun ls hl => ?_) F _ _ hw14 _ (lv_sub hl [2, 3, 1, 0] rfl)
    obtain rfl := Option.some.inj h
    exact z_vret C dX10_goOnFrom_75
  · replace h := (if_pos hc21).symm.trans h
    refine z_aload_n C (i := 0) (k := 1) hl dX10_goOnFrom_13 rfl rfl ?_
    refine z_geti C 11 6 fw_X10_42 sh_11 rfl dX10_goOnFrom_14 ?_
    refine z_sipush C (4096 : Int32) dX10_goOnFrom_17 (by decide) ?_
    refine z_icmp_ge C 43 dX10_goOnFrom_20 (by decide) (fun hc20 => ?_) (fun hc20 => ?_)
    · replace h := (if_pos hc20).symm.trans h
      refine z_iconst C (0 : Int32) dX10_goOnFrom_43 (by decide) ?_
      refine z_istore_n C (i := 3) [(3, .int (0 : Int32)), (2, .int r3), (0, .ref (ad 11)), (1, .int x1)] hl dX10_goOnFrom_44 rfl (by decide) rfl (fun ls hl => ?_)
      obtain ⟨w15, hw16, h⟩ := bnd h
      refine zl_X10_goOnFrom_45 C F x1 r3 (out := w15) (fun ls hl => ?_) F _ _ hw16 _ (lv_sub hl [2, 3, 1, 0] rfl)
      obtain rfl := Option.some.inj h
      exact z_vret C dX10_goOnFrom_75
    · replace h := (if_neg hc20).symm.trans h
      refine z_aload_n C (i := 0) (k := 1) hl dX10_goOnFrom_23 rfl rfl ?_
      refine z_getr C 11 4 15 fw_X10_21 sh_11 rfl dX10_goOnFrom_24 ?_
      refine z_aload_n C (i := 0) (k := 1) hl dX10_goOnFrom_27 rfl rfl ?_
      refine z_geti C 11 6 fw_X10_42 sh_11 rfl dX10_goOnFrom_28 ?_
      refine z_iload_n C (i := 1) (k := 2) hl dX10_goOnFrom_31 rfl rfl ?_
      obtain ⟨hi17, h⟩ := gd h
      refine z_iast C 15 4096 sh_15 hi17 dX10_goOnFrom_32 ?_
      refine z_aload_n C (i := 0) (k := 1) hl dX10_goOnFrom_33 rfl rfl ?_
      refine z_dup C dX10_goOnFrom_34 rfl ?_
      refine z_geti C 11 6 fw_X10_42 sh_11 rfl dX10_goOnFrom_35 ?_
      refine z_iconst C (1 : Int32) dX10_goOnFrom_38 (by decide) ?_
      refine z_iadd C dX10_goOnFrom_39 ?_
      refine z_puti C 11 6 pw_X10_42 sh_11 rfl dX10_goOnFrom_40 ?_
      refine z_iconst C (0 : Int32) dX10_goOnFrom_43 (by decide) ?_
      refine z_istore_n C (i := 3) [(3, .int (0 : Int32)), (2, .int r3), (0, .ref (ad 11)), (1, .int x1)] hl dX10_goOnFrom_44 rfl (by decide) rfl (fun ls hl => ?_)
      obtain ⟨w18, hw19, h⟩ := bnd h
      refine zl_X10_goOnFrom_45 C F x1 r3 (out := w18) (fun ls hl => ?_) F _ _ hw19 _ (lv_sub hl [2, 3, 1, 0] rfl)
      obtain rfl := Option.some.inj h
      exact z_vret C dX10_goOnFrom_75
def b_X10_renew_40 (F : Nat)  (rec : Int32 → St → Option (Int32 × St)) (x1 : Int32) (u : St) : Option (Int32 × St) := (if (u.1 11 5) ≤ x1 then some (x1, u) else (if (4096 : Int32) ≤ x1 then some (x1, u) else (if x1 < 0 ∨ 4096 ≤ x1.toNatClampNeg then none else (Option.bind (f_X10_goOnFrom F (u.1 12 x1.toNatClampNeg) u) (fun u8 => rec ((x1 + (1 : Int32))) u8)))))
def l_X10_renew_40 (F : Nat)  : Nat → Int32 → St → Option (Int32 × St)
  | 0, _, _ => none
  | k + 1, x1, u => b_X10_renew_40 F  (l_X10_renew_40 F  k) x1 u
def f_X10_renew (F : Nat)  (u : St) : Option (St) := (if (u.1 11 7) = 0 then (Option.bind (f_X0_resetState F (wr (wr (fil u 13 4096 (-1 : Int32)) 11 5 (0 : Int32)) 11 6 (0 : Int32))) (fun w4 => (Option.bind (f_X10_enter F w4.1 (-1 : Int32) w4.2) (fun u5 => (Option.bind (l_X10_renew_40 F  F (0 : Int32) u5) (fun w12 => some (wr w12.2 11 7 (1 : Int32)))))))) else some u)
set_option maxRecDepth 20000 in
set_option maxHeartbeats 4000000 in
theorem zl_X10_renew_40 {p : Program} {l : Launch} {e : Env} {s : State} {m : MethodId} {args : Array Value} {below : List Frame} {meth : Method} {c : Code} {D : va_G} {cA : Nat → ClassId} {ad : Nat → Nat} {Q : State → Prop} (C : Cx SH p s m args meth c cX10_renew 2 none RX10 D cA ad (inAd ad)) (F : Nat)   {out : Int32 × St}  (K : ∀ ls : Array Slot, lv_has ls 2 [(0, .ref (ad 11)), (1, .int out.1)] → Z SH p l e (rmD 3) s m args below meth c D cA ad (inAd ad) 0 0 Q out.2 71 ls []) : ∀ (k : Nat) (x1 : Int32) (u : St), l_X10_renew_40 F  k x1 u = some out → ∀ ls : Array Slot, lv_has ls 2 [(0, .ref (ad 11)), (1, .int x1)] → Z SH p l e (rmD 3) s m args below meth c D cA ad (inAd ad) 0 0 Q u 40 ls [] := by
  intro k
  induction k with
  | zero => intro x1 u h; cases h
  | succ k ih =>
    intro x1 u h ls hl
    replace h : b_X10_renew_40 F  (l_X10_renew_40 F  k) x1 u = some out := h
    unfold b_X10_renew_40 at h
    refine z_iload_n C (i := 1) (k := 1) hl dX10_renew_40 rfl rfl ?_
    refine z_aload_n C (i := 0) (k := 0) hl dX10_renew_41 rfl rfl ?_
    refine z_geti C 11 5 fw_X10_38 sh_11 rfl dX10_renew_42 ?_
    refine z_icmp_ge C 71 dX10_renew_45 (by decide) (fun hc11 => ?_) (fun hc11 => ?_)
    · replace h := (if_pos hc11).symm.trans h
      obtain rfl := Option.some.inj h
      exact K _ (lv_sub hl [0, 1] rfl)
    · replace h := (if_neg hc11).symm.trans h
      refine z_iload_n C (i := 1) (k := 1) hl dX10_renew_48 rfl rfl ?_
      refine z_sipush C (4096 : Int32) dX10_renew_49 (by decide) ?_
      refine z_icmp_ge C 71 dX10_renew_52 (by decide) (fun hc10 => ?_) (fun hc10 => ?_)
      · replace h := (if_pos hc10).symm.trans h
        obtain rfl := Option.some.inj h
        exact K _ (lv_sub hl [0, 1] rfl)
      · replace h := (if_neg hc10).symm.trans h
        refine z_aload_n C (i := 0) (k := 0) hl dX10_renew_55 rfl rfl ?_
        refine z_aload_n C (i := 0) (k := 0) hl dX10_renew_56 rfl rfl ?_
        refine z_getr C 11 1 12 fw_X10_9 sh_11 rfl dX10_renew_57 ?_
        refine z_iload_n C (i := 1) (k := 1) hl dX10_renew_60 rfl rfl ?_
        obtain ⟨hi7, h⟩ := gd h
        refine z_iald C 12 4096 sh_12 hi7 dX10_renew_61 ?_
        obtain ⟨u8, hc9, h⟩ := bnd h
        refine z_callV C (ci := 10) [.int (u.1 12 x1.toNatClampNeg)] [] [] (m_X10_goOnFrom F _ _ _ hc9) cw_X10_goOnFrom vw_X10_goOnFrom ml_X10_55 sh_11 rfl rfl rfl rfl hl.1 (Nat.le_of_ble_eq_true rfl) ⟨Nat.le_of_ble_eq_true rfl, Nat.le_of_ble_eq_true rfl⟩ ⟨Nat.le_refl _, Nat.le_refl _⟩ rfl dX10_renew_62 ?_
        refine z_iinc C (i := 1) (k := 1) (x1 + (1 : Int32)) [(1, .int (x1 + (1 : Int32))), (0, .ref (ad 11))] hl dX10_renew_65 rfl rfl (by decide) rfl (fun ls hl => ?_)
        refine z_goto C 40 dX10_renew_68 (by decide) ?_
        exact ih _ _ h _ (lv_sub hl [1, 0] rfl)
set_option maxRecDepth 20000 in
set_option maxHeartbeats 4000000 in
theorem m_X10_renew (F : Nat)  (u : St) (u' : St)  (h : f_X10_renew F  u = some u') : Mt yX10_renew cX10_renew 2 none 3 (fun ad => [.ref (ad 11)]) u (fun _ => none) u' := by
  refine Mt.of (by decide) (fun ad => Nat.le_of_ble_eq_true rfl) ?_
  intro p l e s m args below meth c D cA ad ls C hl
  have hl : lv_has ls 2 [(0, .ref (ad 11))] := hl
  unfold f_X10_renew at h
  refine z_aload_n C (i := 0) (k := 0) hl dX10_renew_0 rfl rfl ?_
  refine z_geti C 11 7 fw_X10_28 sh_11 rfl dX10_renew_1 ?_
  refine z_if_eq C 8 dX10_renew_4 (by decide) (fun hc14 => ?_) (fun hc14 => ?_)
  · replace h := (if_pos hc14).symm.trans h
    refine z_aload_n C (i := 0) (k := 0) hl dX10_renew_8 rfl rfl ?_
    refine z_getr C 11 2 13 fw_X10_15 sh_11 rfl dX10_renew_9 ?_
    refine z_iconst C (-1 : Int32) dX10_renew_12 (by decide) ?_
    refine z_callS C [.ref (ad 13), .int (-1 : Int32)] [] [] (m_fill 13 4096 (-1 : Int32) u (by decide) sh_13) cw_J7_fill_53178 sw_J7_fill_53178 ml_X10_32 rfl rfl rfl hl.1 (Nat.le_of_ble_eq_true rfl) ⟨Nat.le_of_ble_eq_true rfl, Nat.le_of_ble_eq_true rfl⟩ ⟨Nat.le_refl _, Nat.le_refl _⟩ rfl dX10_renew_13 ?_
    refine z_aload_n C (i := 0) (k := 0) hl dX10_renew_16 rfl rfl ?_
    refine z_iconst C (0 : Int32) dX10_renew_17 (by decide) ?_
    refine z_puti C 11 5 pw_X10_38 sh_11 rfl dX10_renew_18 ?_
    refine z_aload_n C (i := 0) (k := 0) hl dX10_renew_21 rfl rfl ?_
    refine z_iconst C (0 : Int32) dX10_renew_22 (by decide) ?_
    refine z_puti C 11 6 pw_X10_42 sh_11 rfl dX10_renew_23 ?_
    refine z_aload_n C (i := 0) (k := 0) hl dX10_renew_26 rfl rfl ?_
    refine z_aload_n C (i := 0) (k := 0) hl dX10_renew_27 rfl rfl ?_
    refine z_getr C 11 0 4 fw_X10_24 sh_11 rfl dX10_renew_28 ?_
    obtain ⟨⟨r3, u1⟩, hc2, h⟩ := bnd h
    try dsimp only at h
    refine z_callV C (ci := 0) [] [.ref (ad 11)] [.int r3, .ref (ad 11)] (m_X0_resetState F  _ _ _ hc2) cw_X0_resetState vw_X0_resetState ml_X10_45 sh_4 rfl rfl rfl rfl hl.1 (Nat.le_of_ble_eq_true rfl) ⟨Nat.le_of_ble_eq_true rfl, Nat.le_of_ble_eq_true rfl⟩ ⟨Nat.le_refl _, Nat.le_refl _⟩ rfl dX10_renew_31 ?_
    refine z_iconst C (-1 : Int32) dX10_renew_34 (by decide) ?_
    obtain ⟨u5, hc6, h⟩ := bnd h
    refine z_callV C (ci := 10) [.int r3, .int (-1 : Int32)] [] [] (m_X10_enter F _ _ _ _ hc6) cw_X10_enter vw_X10_enter ml_X10_51 sh_11 rfl rfl rfl rfl hl.1 (Nat.le_of_ble_eq_true rfl) ⟨Nat.le_of_ble_eq_true rfl, Nat.le_of_ble_eq_true rfl⟩ ⟨Nat.le_refl _, Nat.le_refl _⟩ rfl dX10_renew_35 ?_
    refine z_iconst C (0 : Int32) dX10_renew_38 (by decide) ?_
    refine z_istore_n C (i := 1) [(1, .int (0 : Int32)), (0, .ref (ad 11))] hl dX10_renew_39 rfl (by decide) rfl (fun ls hl => ?_)
    obtain ⟨w12, hw13, h⟩ := bnd h
    refine zl_X10_renew_40 C F (out := w12) (fun ls hl => ?_) F _ _ hw13 _ (lv_sub hl [1, 0] rfl)
    refine z_aload_n C (i := 0) (k := 0) hl dX10_renew_71 rfl rfl ?_
    refine z_iconst C (1 : Int32) dX10_renew_72 (by decide) ?_
    refine z_putz C 11 7 pw_X10_28 (by decide) sh_11 rfl dX10_renew_73 ?_
    obtain rfl := Option.some.inj h
    exact z_vret C dX10_renew_76
  · replace h := (if_neg hc14).symm.trans h
    obtain rfl := Option.some.inj h
    exact z_vret C dX10_renew_7
def f_X11_both (F : Nat) (x1 : Int32) (u : St) : Option (Int32 × St) := (Option.bind (f_X11_isState F x1 u) (fun w4 => (if w4.1 = 0 then some ((-1 : Int32), w4.2) else (Option.bind (f_X10_renew F w4.2) (fun u5 => (Option.bind (f_X10_firstWithAll F x1 u5) (fun w10 => some (w10.1, w10.2))))))))
set_option maxRecDepth 20000 in
set_option maxHeartbeats 4000000 in
theorem m_X11_both (F : Nat) (x1 : Int32) (u : St) (r : Int32) (u' : St)  (h : f_X11_both F x1 u = some (r, u')) : Mt yX11_both cX11_both 2 (some .int) 4 (fun ad => [.ref (ad 0), .int x1]) u (fun _ => some (.int r)) u' := by
  refine Mt.of (by decide) (fun ad => Nat.le_of_ble_eq_true rfl) ?_
  intro p l e s m args below meth c D cA ad ls C hl
  have hl : lv_has ls 2 [(0, .ref (ad 0)), (1, .int x1)] := hl
  unfold f_X11_both at h
  refine z_iload_n C (i := 1) (k := 1) hl dX11_both_0 rfl rfl ?_
  obtain ⟨⟨r3, u1⟩, hc2, h⟩ := bnd h
  try dsimp only at h
  refine z_callS C [.int x1] [] [.int r3] (m_X11_isState F _ _ _ _ hc2) cw_X11_isState sw_X11_isState ml_X11_110 rfl rfl rfl hl.1 (Nat.le_of_ble_eq_true rfl) ⟨Nat.le_of_ble_eq_true rfl, Nat.le_of_ble_eq_true rfl⟩ ⟨Nat.le_refl _, Nat.le_refl _⟩ rfl dX11_both_1 ?_
  refine z_if_ne C 9 dX11_both_4 (by decide) (fun hc11 => ?_) (fun hc11 => ?_)
  · replace h := (if_neg hc11).symm.trans h
    refine z_aload_n C (i := 0) (k := 0) hl dX11_both_9 rfl rfl ?_
    refine z_getr C 0 3 11 fw_X11_37 sh_0 rfl dX11_both_10 ?_
    obtain ⟨u5, hc6, h⟩ := bnd h
    refine z_callV C (ci := 10) [] [] [] (m_X10_renew F  _ _ hc6) cw_X10_renew vw_X10_renew ml_X11_144 sh_11 rfl rfl rfl rfl hl.1 (Nat.le_of_ble_eq_true rfl) ⟨Nat.le_of_ble_eq_true rfl, Nat.le_of_ble_eq_true rfl⟩ ⟨Nat.le_refl _, Nat.le_refl _⟩ rfl dX11_both_13 ?_
    refine z_aload_n C (i := 0) (k := 0) hl dX11_both_16 rfl rfl ?_
    refine z_getr C 0 3 11 fw_X11_37 sh_0 rfl dX11_both_17 ?_
    refine z_iload_n C (i := 1) (k := 1) hl dX11_both_20 rfl rfl ?_
    obtain ⟨⟨r9, u7⟩, hc8, h⟩ := bnd h
    try dsimp only at h
    refine z_callV C (ci := 10) [.int x1] [] [.int r9] (m_X10_firstWithAll F _ _ _ _ hc8) cw_X10_firstWithAll vw_X10_firstWithAll ml_X11_171 sh_11 rfl rfl rfl rfl hl.1 (Nat.le_of_ble_eq_true rfl) ⟨Nat.le_of_ble_eq_true rfl, Nat.le_of_ble_eq_true rfl⟩ ⟨Nat.le_refl _, Nat.le_refl _⟩ rfl dX11_both_21 ?_
    obtain ⟨rfl, rfl⟩ := r2 h
    exact z_iret C dX11_both_24
  · replace h := (if_pos hc11).symm.trans h
    refine z_iconst C (-1 : Int32) dX11_both_7 (by decide) ?_
    obtain ⟨rfl, rfl⟩ := r2 h
    exact z_iret C dX11_both_8
