def f_X12_node (F : Nat) (x1 : Int32) (u : St) : Option (Int32 × St) := (if ((wr u 50 0 (0 : Int32)).1 50 24) = (10 : Int32) then some ((-1 : Int32), (wr u 50 0 (0 : Int32))) else (Option.bind (f_X12_isIn F x1 (0 : Int32) (100 : Int32) (wr u 50 0 (0 : Int32))) (fun w4 => (if w4.1 = 0 then some ((-1 : Int32), w4.2) else (if (w4.2.1 50 24) < 0 ∨ 10 ≤ (w4.2.1 50 24).toNatClampNeg then none else some ((((wr (wr w4.2 66 (w4.2.1 50 24).toNatClampNeg x1) 50 24 (((wr w4.2 66 (w4.2.1 50 24).toNatClampNeg x1).1 50 24) + (1 : Int32))).1 50 24) - (1 : Int32)), (wr (wr w4.2 66 (w4.2.1 50 24).toNatClampNeg x1) 50 24 (((wr w4.2 66 (w4.2.1 50 24).toNatClampNeg x1).1 50 24) + (1 : Int32)))))))))
set_option maxRecDepth 20000 in
set_option maxHeartbeats 4000000 in
theorem m_X12_node (F : Nat) (x1 : Int32) (u : St) (r : Int32) (u' : St)  (h : f_X12_node F x1 u = some (r, u')) : Mt yX12_node cX12_node 2 (some .int) 1 (fun ad => [.ref (ad 50), .int x1]) u (fun _ => some (.int r)) u' := by
  refine Mt.of (by decide) (fun ad => Nat.le_of_ble_eq_true rfl) ?_
  intro p l e s m args below meth c D cA ad ls C hl
  have hl : lv_has ls 2 [(0, .ref (ad 50)), (1, .int x1)] := hl
  unfold f_X12_node at h
  refine z_aload_n C (i := 0) (k := 0) hl dX12_node_0 rfl rfl ?_
  refine z_iconst C (0 : Int32) dX12_node_1 (by decide) ?_
  refine z_puti C 50 0 pw_X12_75 sh_50 rfl dX12_node_2 ?_
  refine z_aload_n C (i := 0) (k := 0) hl dX12_node_5 rfl rfl ?_
  refine z_geti C 50 24 fw_X12_156 sh_50 rfl dX12_node_6 ?_
  refine z_bipush C (10 : Int32) dX12_node_9 (by decide) ?_
  refine z_icmp_eq C 24 dX12_node_11 (by decide) (fun hc7 => ?_) (fun hc7 => ?_)
  · replace h := (if_pos hc7).symm.trans h
    refine z_iconst C (-1 : Int32) dX12_node_24 (by decide) ?_
    obtain ⟨rfl, rfl⟩ := r2 h
    exact z_iret C dX12_node_25
  · replace h := (if_neg hc7).symm.trans h
    refine z_iload_n C (i := 1) (k := 1) hl dX12_node_14 rfl rfl ?_
    refine z_iconst C (0 : Int32) dX12_node_15 (by decide) ?_
    refine z_bipush C (100 : Int32) dX12_node_16 (by decide) ?_
    obtain ⟨⟨r3, u1⟩, hc2, h⟩ := bnd h
    try dsimp only at h
    refine z_callS C [.int x1, .int (0 : Int32), .int (100 : Int32)] [] [.int r3] (m_X12_isIn F _ _ _ _ _ _ hc2) cw_X12_isIn sw_X12_isIn ml_X12_148 rfl rfl rfl hl.1 (Nat.le_of_ble_eq_true rfl) ⟨Nat.le_of_ble_eq_true rfl, Nat.le_of_ble_eq_true rfl⟩ ⟨Nat.le_refl _, Nat.le_refl _⟩ rfl dX12_node_18 ?_
    refine z_if_ne C 26 dX12_node_21 (by decide) (fun hc6 => ?_) (fun hc6 => ?_)
    · replace h := (if_neg hc6).symm.trans h
      refine z_aload_n C (i := 0) (k := 0) hl dX12_node_26 rfl rfl ?_
      refine z_getr C 50 20 66 fw_X12_57 sh_50 rfl dX12_node_27 ?_
      refine z_aload_n C (i := 0) (k := 0) hl dX12_node_30 rfl rfl ?_
      refine z_geti C 50 24 fw_X12_156 sh_50 rfl dX12_node_31 ?_
      refine z_iload_n C (i := 1) (k := 1) hl dX12_node_34 rfl rfl ?_
      obtain ⟨hi5, h⟩ := gd h
      refine z_iast C 66 10 sh_66 hi5 dX12_node_35 ?_
      refine z_aload_n C (i := 0) (k := 0) hl dX12_node_36 rfl rfl ?_
      refine z_dup C dX12_node_37 rfl ?_
      refine z_geti C 50 24 fw_X12_156 sh_50 rfl dX12_node_38 ?_
      refine z_iconst C (1 : Int32) dX12_node_41 (by decide) ?_
      refine z_iadd C dX12_node_42 ?_
      refine z_puti C 50 24 pw_X12_156 sh_50 rfl dX12_node_43 ?_
      refine z_aload_n C (i := 0) (k := 0) hl dX12_node_46 rfl rfl ?_
      refine z_geti C 50 24 fw_X12_156 sh_50 rfl dX12_node_47 ?_
      refine z_iconst C (1 : Int32) dX12_node_50 (by decide) ?_
      refine z_isub C dX12_node_51 ?_
      obtain ⟨rfl, rfl⟩ := r2 h
      exact z_iret C dX12_node_52
    · replace h := (if_pos hc6).symm.trans h
      refine z_iconst C (-1 : Int32) dX12_node_24 (by decide) ?_
      obtain ⟨rfl, rfl⟩ := r2 h
      exact z_iret C dX12_node_25
def f_X12_place (F : Nat) (x1 : Int32) (u : St) : Option (Int32 × St) := (Option.bind (f_X12_walks F u) (fun u1 => (Option.bind (f_X12_isState F x1 u1) (fun w6 => (if w6.1 = 0 then some ((-1 : Int32), w6.2) else (if x1 < 0 ∨ 4096 ≤ x1.toNatClampNeg then none else some ((w6.2.1 61 x1.toNatClampNeg), w6.2)))))))
set_option maxRecDepth 20000 in
set_option maxHeartbeats 4000000 in
theorem m_X12_place (F : Nat) (x1 : Int32) (u : St) (r : Int32) (u' : St)  (h : f_X12_place F x1 u = some (r, u')) : Mt yX12_place cX12_place 2 (some .int) 2 (fun ad => [.ref (ad 50), .int x1]) u (fun _ => some (.int r)) u' := by
  refine Mt.of (by decide) (fun ad => Nat.le_of_ble_eq_true rfl) ?_
  intro p l e s m args below meth c D cA ad ls C hl
  have hl : lv_has ls 2 [(0, .ref (ad 50)), (1, .int x1)] := hl
  unfold f_X12_place at h
  refine z_aload_n C (i := 0) (k := 0) hl dX12_place_0 rfl rfl ?_
  obtain ⟨u1, hc2, h⟩ := bnd h
  refine z_callV C (ci := 12) [] [] [] (m_X12_walks F  _ _ hc2) cw_X12_walks vw_X12_walks ml_X12_126 sh_50 rfl rfl rfl rfl hl.1 (Nat.le_of_ble_eq_true rfl) ⟨Nat.le_of_ble_eq_true rfl, Nat.le_of_ble_eq_true rfl⟩ ⟨Nat.le_refl _, Nat.le_refl _⟩ rfl dX12_place_1 ?_
  refine z_iload_n C (i := 1) (k := 1) hl dX12_place_4 rfl rfl ?_
  obtain ⟨⟨r5, u3⟩, hc4, h⟩ := bnd h
  try dsimp only at h
  refine z_callS C [.int x1] [] [.int r5] (m_X12_isState F _ _ _ _ hc4) cw_X12_isState sw_X12_isState ml_X12_111 rfl rfl rfl hl.1 (Nat.le_of_ble_eq_true rfl) ⟨Nat.le_of_ble_eq_true rfl, Nat.le_of_ble_eq_true rfl⟩ ⟨Nat.le_refl _, Nat.le_refl _⟩ rfl dX12_place_5 ?_
  refine z_if_eq C 20 dX12_place_8 (by decide) (fun hc8 => ?_) (fun hc8 => ?_)
  · replace h := (if_pos hc8).symm.trans h
    refine z_iconst C (-1 : Int32) dX12_place_20 (by decide) ?_
    obtain ⟨rfl, rfl⟩ := r2 h
    exact z_iret C dX12_place_21
  · replace h := (if_neg hc8).symm.trans h
    refine z_aload_n C (i := 0) (k := 0) hl dX12_place_11 rfl rfl ?_
    refine z_getr C 50 14 61 fw_X12_42 sh_50 rfl dX12_place_12 ?_
    refine z_iload_n C (i := 1) (k := 1) hl dX12_place_15 rfl rfl ?_
    obtain ⟨hi7, h⟩ := gd h
    refine z_iald C 61 4096 sh_61 hi7 dX12_place_16 ?_
    refine z_goto C 21 dX12_place_17 (by decide) ?_
    obtain ⟨rfl, rfl⟩ := r2 h
    exact z_iret C dX12_place_21
def f_X12_run (F : Nat) (x1 : Int32) (x2 : Int64) (u : St) : Option (Int32 × St) := (Option.bind (f_X12_isIn F x1 (0 : Int32) (2000 : Int32) (wr u 50 0 (0 : Int32))) (fun w4 => (if w4.1 = 0 then some ((-1 : Int32), w4.2) else (Option.bind (f_X12_runs F x1 x2 w4.2) (fun w8 => some (w8.1, w8.2))))))
set_option maxRecDepth 20000 in
set_option maxHeartbeats 4000000 in
theorem m_X12_run (F : Nat) (x1 : Int32) (x2 : Int64) (u : St) (r : Int32) (u' : St)  (h : f_X12_run F x1 x2 u = some (r, u')) : Mt yX12_run cX12_run 4 (some .int) 2 (fun ad => [.ref (ad 50), .int x1, .long x2]) u (fun _ => some (.int r)) u' := by
  refine Mt.of (by decide) (fun ad => Nat.le_of_ble_eq_true rfl) ?_
  intro p l e s m args below meth c D cA ad ls C hl
  have hl : lv_has ls 4 [(0, .ref (ad 50)), (1, .int x1), (2, .long x2)] := hl
  unfold f_X12_run at h
  refine z_aload_n C (i := 0) (k := 0) hl dX12_run_0 rfl rfl ?_
  refine z_iconst C (0 : Int32) dX12_run_1 (by decide) ?_
  refine z_puti C 50 0 pw_X12_75 sh_50 rfl dX12_run_2 ?_
  refine z_iload_n C (i := 1) (k := 1) hl dX12_run_5 rfl rfl ?_
  refine z_iconst C (0 : Int32) dX12_run_6 (by decide) ?_
  refine z_sipush C (2000 : Int32) dX12_run_7 (by decide) ?_
  obtain ⟨⟨r3, u1⟩, hc2, h⟩ := bnd h
  try dsimp only at h
  refine z_callS C [.int x1, .int (0 : Int32), .int (2000 : Int32)] [] [.int r3] (m_X12_isIn F _ _ _ _ _ _ hc2) cw_X12_isIn sw_X12_isIn ml_X12_148 rfl rfl rfl hl.1 (Nat.le_of_ble_eq_true rfl) ⟨Nat.le_of_ble_eq_true rfl, Nat.le_of_ble_eq_true rfl⟩ ⟨Nat.le_refl _, Nat.le_refl _⟩ rfl dX12_run_10 ?_
  refine z_if_eq C 25 dX12_run_13 (by decide) (fun hc9 => ?_) (fun hc9 => ?_)
  · replace h := (if_pos hc9).symm.trans h
    refine z_iconst C (-1 : Int32) dX12_run_25 (by decide) ?_
    obtain ⟨rfl, rfl⟩ := r2 h
    exact z_iret C dX12_run_26
  · replace h := (if_neg hc9).symm.trans h
    refine z_aload_n C (i := 0) (k := 0) hl dX12_run_16 rfl rfl ?_
    refine z_iload_n C (i := 1) (k := 1) hl dX12_run_17 rfl rfl ?_
    refine z_lload_n C (i := 2) (k := 2) hl dX12_run_18 rfl rfl ?_
    obtain ⟨⟨r7, u5⟩, hc6, h⟩ := bnd h
    try dsimp only at h
    refine z_callV C (ci := 12) [.int x1, .long x2] [] [.int r7] (m_X12_runs F _ _ _ _ _ hc6) cw_X12_runs vw_X12_runs ml_X12_152 sh_50 rfl rfl rfl rfl hl.1 (Nat.le_of_ble_eq_true rfl) ⟨Nat.le_of_ble_eq_true rfl, Nat.le_of_ble_eq_true rfl⟩ ⟨Nat.le_refl _, Nat.le_refl _⟩ rfl dX12_run_19 ?_
    refine z_goto C 26 dX12_run_22 (by decide) ?_
    obtain ⟨rfl, rfl⟩ := r2 h
    exact z_iret C dX12_run_26
def f_X12_state (F : Nat) (x1 : Int32) (u : St) : Option (Int32 × St) := (Option.bind (f_X12_walks F u) (fun u1 => (if x1 < 0 then some ((-1 : Int32), u1) else (if (u1.1 50 17) ≤ x1 then some ((-1 : Int32), u1) else (if x1 < 0 ∨ 4096 ≤ x1.toNatClampNeg then none else some ((u1.1 60 x1.toNatClampNeg), u1))))))
set_option maxRecDepth 20000 in
set_option maxHeartbeats 4000000 in
theorem m_X12_state (F : Nat) (x1 : Int32) (u : St) (r : Int32) (u' : St)  (h : f_X12_state F x1 u = some (r, u')) : Mt yX12_state cX12_state 2 (some .int) 2 (fun ad => [.ref (ad 50), .int x1]) u (fun _ => some (.int r)) u' := by
  refine Mt.of (by decide) (fun ad => Nat.le_of_ble_eq_true rfl) ?_
  intro p l e s m args below meth c D cA ad ls C hl
  have hl : lv_has ls 2 [(0, .ref (ad 50)), (1, .int x1)] := hl
  unfold f_X12_state at h
  refine z_aload_n C (i := 0) (k := 0) hl dX12_state_0 rfl rfl ?_
  obtain ⟨u1, hc2, h⟩ := bnd h
  refine z_callV C (ci := 12) [] [] [] (m_X12_walks F  _ _ hc2) cw_X12_walks vw_X12_walks ml_X12_126 sh_50 rfl rfl rfl rfl hl.1 (Nat.le_of_ble_eq_true rfl) ⟨Nat.le_of_ble_eq_true rfl, Nat.le_of_ble_eq_true rfl⟩ ⟨Nat.le_refl _, Nat.le_refl _⟩ rfl dX12_state_1 ?_
  refine z_iload_n C (i := 1) (k := 1) hl dX12_state_4 rfl rfl ?_
  refine z_if_lt C 25 dX12_state_5 (by decide) (fun hc5 => ?_) (fun hc5 => ?_)
  · replace h := (if_pos hc5).symm.trans h
    refine z_iconst C (-1 : Int32) dX12_state_25 (by decide) ?_
    obtain ⟨rfl, rfl⟩ := r2 h
    exact z_iret C dX12_state_26
  · replace h := (if_neg hc5).symm.trans h
    refine z_iload_n C (i := 1) (k := 1) hl dX12_state_8 rfl rfl ?_
    refine z_aload_n C (i := 0) (k := 0) hl dX12_state_9 rfl rfl ?_
    refine z_geti C 50 17 fw_X12_123 sh_50 rfl dX12_state_10 ?_
    refine z_icmp_ge C 25 dX12_state_13 (by decide) (fun hc4 => ?_) (fun hc4 => ?_)
    · replace h := (if_pos hc4).symm.trans h
      refine z_iconst C (-1 : Int32) dX12_state_25 (by decide) ?_
      obtain ⟨rfl, rfl⟩ := r2 h
      exact z_iret C dX12_state_26
    · replace h := (if_neg hc4).symm.trans h
      refine z_aload_n C (i := 0) (k := 0) hl dX12_state_16 rfl rfl ?_
      refine z_getr C 50 13 60 fw_X12_39 sh_50 rfl dX12_state_17 ?_
      refine z_iload_n C (i := 1) (k := 1) hl dX12_state_20 rfl rfl ?_
      obtain ⟨hi3, h⟩ := gd h
      refine z_iald C 60 4096 sh_60 hi3 dX12_state_21 ?_
      refine z_goto C 26 dX12_state_22 (by decide) ?_
      obtain ⟨rfl, rfl⟩ := r2 h
      exact z_iret C dX12_state_26
def f_X12_states (F : Nat)  (u : St) : Option (Int32 × St) := (Option.bind (f_X12_walks F u) (fun u1 => some ((u1.1 50 17), u1)))
set_option maxRecDepth 20000 in
set_option maxHeartbeats 4000000 in
theorem m_X12_states (F : Nat)  (u : St) (r : Int32) (u' : St)  (h : f_X12_states F  u = some (r, u')) : Mt yX12_states cX12_states 1 (some .int) 2 (fun ad => [.ref (ad 50)]) u (fun _ => some (.int r)) u' := by
  refine Mt.of (by decide) (fun ad => Nat.le_of_ble_eq_true rfl) ?_
  intro p l e s m args below meth c D cA ad ls C hl
  have hl : lv_has ls 1 [(0, .ref (ad 50))] := hl
  unfold f_X12_states at h
  refine z_aload_n C (i := 0) (k := 0) hl dX12_states_0 rfl rfl ?_
  obtain ⟨u1, hc2, h⟩ := bnd h
  refine z_callV C (ci := 12) [] [] [] (m_X12_walks F  _ _ hc2) cw_X12_walks vw_X12_walks ml_X12_126 sh_50 rfl rfl rfl rfl hl.1 (Nat.le_of_ble_eq_true rfl) ⟨Nat.le_of_ble_eq_true rfl, Nat.le_of_ble_eq_true rfl⟩ ⟨Nat.le_refl _, Nat.le_refl _⟩ rfl dX12_states_1 ?_
  refine z_aload_n C (i := 0) (k := 0) hl dX12_states_4 rfl rfl ?_
  refine z_geti C 50 17 fw_X12_123 sh_50 rfl dX12_states_5 ?_
  obtain ⟨rfl, rfl⟩ := r2 h
  exact z_iret C dX12_states_8
def f_X12_stop (F : Nat) (x1 : Int32) (u : St) : Option (Int32 × St) := (if 0 ≤ x1 then (Option.bind (f_X12_stopOf F x1 (wr u 50 0 (0 : Int32))) (fun w4 => some (w4.1, w4.2))) else some ((-1 : Int32), (wr u 50 0 (0 : Int32))))
set_option maxRecDepth 20000 in
set_option maxHeartbeats 4000000 in
theorem m_X12_stop (F : Nat) (x1 : Int32) (u : St) (r : Int32) (u' : St)  (h : f_X12_stop F x1 u = some (r, u')) : Mt yX12_stop cX12_stop 2 (some .int) 3 (fun ad => [.ref (ad 50), .int x1]) u (fun _ => some (.int r)) u' := by
  refine Mt.of (by decide) (fun ad => Nat.le_of_ble_eq_true rfl) ?_
  intro p l e s m args below meth c D cA ad ls C hl
  have hl : lv_has ls 2 [(0, .ref (ad 50)), (1, .int x1)] := hl
  unfold f_X12_stop at h
  refine z_aload_n C (i := 0) (k := 0) hl dX12_stop_0 rfl rfl ?_
  refine z_iconst C (0 : Int32) dX12_stop_1 (by decide) ?_
  refine z_puti C 50 0 pw_X12_75 sh_50 rfl dX12_stop_2 ?_
  refine z_iload_n C (i := 1) (k := 1) hl dX12_stop_5 rfl rfl ?_
  refine z_if_ge C 13 dX12_stop_6 (by decide) (fun hc5 => ?_) (fun hc5 => ?_)
  · replace h := (if_pos hc5).symm.trans h
    refine z_aload_n C (i := 0) (k := 0) hl dX12_stop_13 rfl rfl ?_
    refine z_iload_n C (i := 1) (k := 1) hl dX12_stop_14 rfl rfl ?_
    obtain ⟨⟨r3, u1⟩, hc2, h⟩ := bnd h
    try dsimp only at h
    refine z_callV C (ci := 12) [.int x1] [] [.int r3] (m_X12_stopOf F _ _ _ _ hc2) cw_X12_stopOf vw_X12_stopOf ml_X12_133 sh_50 rfl rfl rfl rfl hl.1 (Nat.le_of_ble_eq_true rfl) ⟨Nat.le_of_ble_eq_true rfl, Nat.le_of_ble_eq_true rfl⟩ ⟨Nat.le_refl _, Nat.le_refl _⟩ rfl dX12_stop_15 ?_
    obtain ⟨rfl, rfl⟩ := r2 h
    exact z_iret C dX12_stop_18
  · replace h := (if_neg hc5).symm.trans h
    refine z_iconst C (-1 : Int32) dX12_stop_9 (by decide) ?_
    refine z_goto C 18 dX12_stop_10 (by decide) ?_
    obtain ⟨rfl, rfl⟩ := r2 h
    exact z_iret C dX12_stop_18
def f_X12_stuck (F : Nat) (x1 : Int32) (x2 : Int32) (u : St) : Option (Int32 × St) := (Option.bind (f_X12_isSignal F x1 (wr u 50 0 (0 : Int32))) (fun w4 => (if w4.1 = 0 then some ((0 : Int32), w4.2) else (if x1 < 0 ∨ 12 ≤ x1.toNatClampNeg then none else (if (w4.2.1 58 x1.toNatClampNeg) = x2 then some ((0 : Int32), w4.2) else (if x1 < 0 ∨ 12 ≤ x1.toNatClampNeg then none else some ((1 : Int32), (wr w4.2 58 x1.toNatClampNeg (vp_nar .boolean x2)))))))))
set_option maxRecDepth 20000 in
set_option maxHeartbeats 4000000 in
theorem m_X12_stuck (F : Nat) (x1 : Int32) (x2 : Int32) (u : St) (r : Int32) (u' : St)  (h : f_X12_stuck F x1 x2 u = some (r, u')) : Mt yX12_stuck cX12_stuck 3 (some .boolean) 1 (fun ad => [.ref (ad 50), .int x1, .int x2]) u (fun _ => some (.int r)) u' := by
  refine Mt.of (by decide) (fun ad => Nat.le_of_ble_eq_true rfl) ?_
  intro p l e s m args below meth c D cA ad ls C hl
  have hl : lv_has ls 3 [(0, .ref (ad 50)), (1, .int x1), (2, .int x2)] := hl
  unfold f_X12_stuck at h
  refine z_aload_n C (i := 0) (k := 0) hl dX12_stuck_0 rfl rfl ?_
  refine z_iconst C (0 : Int32) dX12_stuck_1 (by decide) ?_
  refine z_puti C 50 0 pw_X12_75 sh_50 rfl dX12_stuck_2 ?_
  refine z_iload_n C (i := 1) (k := 1) hl dX12_stuck_5 rfl rfl ?_
  obtain ⟨⟨r3, u1⟩, hc2, h⟩ := bnd h
  try dsimp only at h
  refine z_callS C [.int x1] [] [.int r3] (m_X12_isSignal F _ _ _ _ hc2) cw_X12_isSignal sw_X12_isSignal ml_X12_117 rfl rfl rfl hl.1 (Nat.le_of_ble_eq_true rfl) ⟨Nat.le_of_ble_eq_true rfl, Nat.le_of_ble_eq_true rfl⟩ ⟨Nat.le_refl _, Nat.le_refl _⟩ rfl dX12_stuck_6 ?_
  refine z_if_eq C 22 dX12_stuck_9 (by decide) (fun hc8 => ?_) (fun hc8 => ?_)
  · replace h := (if_pos hc8).symm.trans h
    refine z_iconst C (0 : Int32) dX12_stuck_22 (by decide) ?_
    obtain ⟨rfl, rfl⟩ := r2 h
    exact z_zret (by decide) C dX12_stuck_23
  · replace h := (if_neg hc8).symm.trans h
    refine z_aload_n C (i := 0) (k := 0) hl dX12_stuck_12 rfl rfl ?_
    refine z_getr C 50 10 58 fw_X12_32 sh_50 rfl dX12_stuck_13 ?_
    refine z_iload_n C (i := 1) (k := 1) hl dX12_stuck_16 rfl rfl ?_
    obtain ⟨hi5, h⟩ := gd h
    refine z_zald C 58 12 sh_58 hi5 dX12_stuck_17 ?_
    refine z_iload_n C (i := 2) (k := 2) hl dX12_stuck_18 rfl rfl ?_
    refine z_icmp_ne C 24 dX12_stuck_19 (by decide) (fun hc7 => ?_) (fun hc7 => ?_)
    · replace h := (if_neg hc7).symm.trans h
      refine z_aload_n C (i := 0) (k := 0) hl dX12_stuck_24 rfl rfl ?_
      refine z_getr C 50 10 58 fw_X12_32 sh_50 rfl dX12_stuck_25 ?_
      refine z_iload_n C (i := 1) (k := 1) hl dX12_stuck_28 rfl rfl ?_
      refine z_iload_n C (i := 2) (k := 2) hl dX12_stuck_29 rfl rfl ?_
      obtain ⟨hi6, h⟩ := gd h
      refine z_zast C 58 12 sh_58 hi6 dX12_stuck_30 ?_
      refine z_iconst C (1 : Int32) dX12_stuck_31 (by decide) ?_
      obtain ⟨rfl, rfl⟩ := r2 h
      exact z_zret (by decide) C dX12_stuck_32
    · replace h := (if_pos hc7).symm.trans h
      refine z_iconst C (0 : Int32) dX12_stuck_22 (by decide) ?_
      obtain ⟨rfl, rfl⟩ := r2 h
      exact z_zret (by decide) C dX12_stuck_23
def f_X12_thrown (F : Nat)  (u : St) : Option (Int32 × St) := some ((u.1 50 0), u)
set_option maxRecDepth 20000 in
set_option maxHeartbeats 4000000 in
theorem m_X12_thrown (F : Nat)  (u : St) (r : Int32) (u' : St)  (h : f_X12_thrown F  u = some (r, u')) : Mt yX12_thrown cX12_thrown 1 (some .int) 0 (fun ad => [.ref (ad 50)]) u (fun _ => some (.int r)) u' := by
  refine Mt.of (by decide) (fun ad => Nat.le_of_ble_eq_true rfl) ?_
  intro p l e s m args below meth c D cA ad ls C hl
  have hl : lv_has ls 1 [(0, .ref (ad 50))] := hl
  unfold f_X12_thrown at h
  refine z_aload_n C (i := 0) (k := 0) hl dX12_thrown_0 rfl rfl ?_
  refine z_geti C 50 0 fw_X12_75 sh_50 rfl dX12_thrown_1 ?_
  obtain ⟨rfl, rfl⟩ := r2 h
  exact z_iret C dX12_thrown_4
def b_X12_times_2 (F : Nat) (x1 : Int32) (rec : Int32 → St → Option (Int32 × St)) (x2 : Int32) (u : St) : Option (Int32 × St) := (if (10 : Int32) ≤ x2 then some (x2, u) else (if x2 < 0 ∨ 10 ≤ x2.toNatClampNeg then none else rec ((x2 + (1 : Int32))) (wr u 71 x2.toNatClampNeg (0 : Int32))))
def l_X12_times_2 (F : Nat) (x1 : Int32) : Nat → Int32 → St → Option (Int32 × St)
  | 0, _, _ => none
  | k + 1, x2, u => b_X12_times_2 F x1 (l_X12_times_2 F x1 k) x2 u
def b_X12_times_74 (F : Nat) (x1 : Int32) (x2 : Int32) (x3 : Int32) (x4 : Int32) (rec : Int32 → Int32 → Int32 → Int32 → St → Option (Int32 × Int32 × Int32 × Int32 × St)) (x5 : Int32) (x6 : Int32) (x7 : Int32) (x8 : Int32) (u : St) : Option (Int32 × Int32 × Int32 × Int32 × St) := (if (u.1 50 25) ≤ x8 then some (x5, x6, x7, x8, u) else (if x8 < 0 ∨ 20 ≤ x8.toNatClampNeg then none else (if x8 < 0 ∨ 20 ≤ x8.toNatClampNeg then none else (if (u.1 68 x8.toNatClampNeg) = x4 then (if (1 : Int32) ≤ (x2 - (u.1 69 x8.toNatClampNeg)) then (if (x2 - (u.1 69 x8.toNatClampNeg)) = x2 then (if x8 < 0 ∨ 20 ≤ x8.toNatClampNeg then none else (if (u.1 67 x8.toNatClampNeg) < 0 ∨ 10 ≤ (u.1 67 x8.toNatClampNeg).toNatClampNeg then none else (if (u.1 71 (u.1 67 x8.toNatClampNeg).toNatClampNeg) = x2 then (if x8 < 0 ∨ 20 ≤ x8.toNatClampNeg then none else (if (((201 : Int32) * (u.1 67 x8.toNatClampNeg)) + (x2 - (u.1 69 x8.toNatClampNeg))) < 0 ∨ 2010 ≤ (((201 : Int32) * (u.1 67 x8.toNatClampNeg)) + (x2 - (u.1 69 x8.toNatClampNeg))).toNatClampNeg then none else (if x7 = 0 then (if (u.1 70 (((201 : Int32) * (u.1 67 x8.toNatClampNeg)) + (x2 - (u.1 69 x8.toNatClampNeg))).toNatClampNeg) = (-1 : Int32) then rec ((if x5 < (u.1 70 (((201 : Int32) * (u.1 67 x8.toNatClampNeg)) + (x2 - (u.1 69 x8.toNatClampNeg))).toNatClampNeg) then (u.1 70 (((201 : Int32) * (u.1 67 x8.toNatClampNeg)) + (x2 - (u.1 69 x8.toNatClampNeg))).toNatClampNeg) else x5)) x6 ((1 : Int32)) ((x8 + (1 : Int32))) u else rec ((if x5 < (u.1 70 (((201 : Int32) * (u.1 67 x8.toNatClampNeg)) + (x2 - (u.1 69 x8.toNatClampNeg))).toNatClampNeg) then (u.1 70 (((201 : Int32) * (u.1 67 x8.toNatClampNeg)) + (x2 - (u.1 69 x8.toNatClampNeg))).toNatClampNeg) else x5)) x6 ((0 : Int32)) ((x8 + (1 : Int32))) u) else rec ((if x5 < (u.1 70 (((201 : Int32) * (u.1 67 x8.toNatClampNeg)) + (x2 - (u.1 69 x8.toNatClampNeg))).toNatClampNeg) then (u.1 70 (((201 : Int32) * (u.1 67 x8.toNatClampNeg)) + (x2 - (u.1 69 x8.toNatClampNeg))).toNatClampNeg) else x5)) x6 ((1 : Int32)) ((x8 + (1 : Int32))) u))) else rec x5 ((0 : Int32)) x7 ((x8 + (1 : Int32))) u))) else (if x8 < 0 ∨ 20 ≤ x8.toNatClampNeg then none else (if (((201 : Int32) * (u.1 67 x8.toNatClampNeg)) + (x2 - (u.1 69 x8.toNatClampNeg))) < 0 ∨ 2010 ≤ (((201 : Int32) * (u.1 67 x8.toNatClampNeg)) + (x2 - (u.1 69 x8.toNatClampNeg))).toNatClampNeg then none else (if x7 = 0 then (if (u.1 70 (((201 : Int32) * (u.1 67 x8.toNatClampNeg)) + (x2 - (u.1 69 x8.toNatClampNeg))).toNatClampNeg) = (-1 : Int32) then rec ((if x5 < (u.1 70 (((201 : Int32) * (u.1 67 x8.toNatClampNeg)) + (x2 - (u.1 69 x8.toNatClampNeg))).toNatClampNeg) then (u.1 70 (((201 : Int32) * (u.1 67 x8.toNatClampNeg)) + (x2 - (u.1 69 x8.toNatClampNeg))).toNatClampNeg) else x5)) x6 ((1 : Int32)) ((x8 + (1 : Int32))) u else rec ((if x5 < (u.1 70 (((201 : Int32) * (u.1 67 x8.toNatClampNeg)) + (x2 - (u.1 69 x8.toNatClampNeg))).toNatClampNeg) then (u.1 70 (((201 : Int32) * (u.1 67 x8.toNatClampNeg)) + (x2 - (u.1 69 x8.toNatClampNeg))).toNatClampNeg) else x5)) x6 ((0 : Int32)) ((x8 + (1 : Int32))) u) else rec ((if x5 < (u.1 70 (((201 : Int32) * (u.1 67 x8.toNatClampNeg)) + (x2 - (u.1 69 x8.toNatClampNeg))).toNatClampNeg) then (u.1 70 (((201 : Int32) * (u.1 67 x8.toNatClampNeg)) + (x2 - (u.1 69 x8.toNatClampNeg))).toNatClampNeg) else x5)) x6 ((1 : Int32)) ((x8 + (1 : Int32))) u)))) else rec x5 x6 x7 ((x8 + (1 : Int32))) u) else rec x5 x6 x7 ((x8 + (1 : Int32))) u))))
def l_X12_times_74 (F : Nat) (x1 : Int32) (x2 : Int32) (x3 : Int32) (x4 : Int32) : Nat → Int32 → Int32 → Int32 → Int32 → St → Option (Int32 × Int32 × Int32 × Int32 × St)
  | 0, _, _, _, _, _ => none
  | k + 1, x5, x6, x7, x8, u => b_X12_times_74 F x1 x2 x3 x4 (l_X12_times_74 F x1 x2 x3 x4 k) x5 x6 x7 x8 u
def b_X12_times_39 (F : Nat) (x1 : Int32) (x2 : Int32) (rec : Int32 → Int32 → St → Option (Int32 × Int32 × St)) (x3 : Int32) (x4 : Int32) (u : St) : Option (Int32 × Int32 × St) := (if (u.1 50 24) ≤ x4 then some (x3, x4, u) else (if x4 < 0 ∨ 10 ≤ x4.toNatClampNeg then none else (if (u.1 71 x4.toNatClampNeg) = x2 then rec x3 ((x4 + (1 : Int32))) u else (Option.bind (l_X12_times_74 F x1 x2 x3 x4 F (0 : Int32) (1 : Int32) (0 : Int32) (0 : Int32) u) (fun w23 => (if w23.2.1 = 0 then rec x3 ((x4 + (1 : Int32))) w23.2.2.2.2 else (if w23.2.2.1 = 0 then (if x4 < 0 ∨ 10 ≤ x4.toNatClampNeg then none else (if (((201 : Int32) * x4) + x2) < 0 ∨ 2010 ≤ (((201 : Int32) * x4) + x2).toNatClampNeg then none else (if x4 < 0 ∨ 10 ≤ x4.toNatClampNeg then none else rec ((1 : Int32)) ((x4 + (1 : Int32))) (wr (wr w23.2.2.2.2 70 (((201 : Int32) * x4) + x2).toNatClampNeg (w23.1 + (w23.2.2.2.2.1 66 x4.toNatClampNeg))) 71 x4.toNatClampNeg x2)))) else (if (((201 : Int32) * x4) + x2) < 0 ∨ 2010 ≤ (((201 : Int32) * x4) + x2).toNatClampNeg then none else (if x4 < 0 ∨ 10 ≤ x4.toNatClampNeg then none else rec ((1 : Int32)) ((x4 + (1 : Int32))) (wr (wr w23.2.2.2.2 70 (((201 : Int32) * x4) + x2).toNatClampNeg (-1 : Int32)) 71 x4.toNatClampNeg x2))))))))))
def l_X12_times_39 (F : Nat) (x1 : Int32) (x2 : Int32) : Nat → Int32 → Int32 → St → Option (Int32 × Int32 × St)
  | 0, _, _, _ => none
  | k + 1, x3, x4, u => b_X12_times_39 F x1 x2 (l_X12_times_39 F x1 x2 k) x3 x4 u
def b_X12_times_30 (F : Nat) (x1 : Int32) (x2 : Int32) (rec : Int32 → St → Option (Int32 × St)) (x3 : Int32) (u : St) : Option (Int32 × St) := (if x3 = 0 then some (x3, u) else (Option.bind (l_X12_times_39 F x1 x2 F (0 : Int32) (0 : Int32) u) (fun w34 => rec w34.1 w34.2.2)))
def l_X12_times_30 (F : Nat) (x1 : Int32) (x2 : Int32) : Nat → Int32 → St → Option (Int32 × St)
  | 0, _, _ => none
  | k + 1, x3, u => b_X12_times_30 F x1 x2 (l_X12_times_30 F x1 x2 k) x3 u
def b_X12_times_259 (F : Nat) (x1 : Int32) (x2 : Int32) (rec : Int32 → St → Option (Int32 × St)) (x4 : Int32) (u : St) : Option (Int32 × St) := (if (u.1 50 24) ≤ x4 then some (x4, u) else (if x4 < 0 ∨ 10 ≤ x4.toNatClampNeg then none else (if (u.1 71 x4.toNatClampNeg) = x2 then rec ((x4 + (1 : Int32))) u else (if (((201 : Int32) * x4) + x2) < 0 ∨ 2010 ≤ (((201 : Int32) * x4) + x2).toNatClampNeg then none else rec ((x4 + (1 : Int32))) (wr u 70 (((201 : Int32) * x4) + x2).toNatClampNeg (-1 : Int32))))))
def l_X12_times_259 (F : Nat) (x1 : Int32) (x2 : Int32) : Nat → Int32 → St → Option (Int32 × St)
  | 0, _, _ => none
  | k + 1, x4, u => b_X12_times_259 F x1 x2 (l_X12_times_259 F x1 x2 k) x4 u
def b_X12_times_23 (F : Nat) (x1 : Int32) (rec : Int32 → St → Option (Int32 × St)) (x2 : Int32) (u : St) : Option (Int32 × St) := (if x1 < x2 then some (x2, u) else (Option.bind (l_X12_times_30 F x1 x2 F (1 : Int32) u) (fun w37 => (Option.bind (l_X12_times_259 F x1 x2 F (0 : Int32) w37.2) (fun w43 => rec ((x2 + (1 : Int32))) w43.2)))))
def l_X12_times_23 (F : Nat) (x1 : Int32) : Nat → Int32 → St → Option (Int32 × St)
  | 0, _, _ => none
  | k + 1, x2, u => b_X12_times_23 F x1 (l_X12_times_23 F x1 k) x2 u
def f_X12_times (F : Nat) (x1 : Int32) (u : St) : Option (St) := (Option.bind (l_X12_times_2 F x1 F (0 : Int32) u) (fun w3 => (Option.bind (l_X12_times_23 F x1 F (1 : Int32) w3.2) (fun w46 => some w46.2))))
set_option maxRecDepth 20000 in
set_option maxHeartbeats 4000000 in
theorem zl_X12_times_2 {p : Program} {l : Launch} {e : Env} {s : State} {m : MethodId} {args : Array Value} {below : List Frame} {meth : Method} {c : Code} {D : va_G} {cA : Nat → ClassId} {ad : Nat → Nat} {Q : State → Prop} (C : Cx SH p s m args meth c cX12_times 11 none RX12 D cA ad (inAd ad)) (F : Nat) (x1 : Int32)  {out : Int32 × St}  (K : ∀ ls : Array Slot, lv_has ls 11 [(0, .ref (ad 50)), (1, .int x1), (2, .int out.1)] → Z SH p l e (rmD 1) s m args below meth c D cA ad (inAd ad) 0 0 Q out.2 21 ls []) : ∀ (k : Nat) (x2 : Int32) (u : St), l_X12_times_2 F x1 k x2 u = some out → ∀ ls : Array Slot, lv_has ls 11 [(0, .ref (ad 50)), (1, .int x1), (2, .int x2)] → Z SH p l e (rmD 1) s m args below meth c D cA ad (inAd ad) 0 0 Q u 2 ls [] := by
  intro k
  induction k with
  | zero => intro x2 u h; cases h
  | succ k ih =>
    intro x2 u h ls hl
    replace h : b_X12_times_2 F x1 (l_X12_times_2 F x1 k) x2 u = some out := h
    unfold b_X12_times_2 at h
    refine z_iload_n C (i := 2) (k := 2) hl dX12_times_2 rfl rfl ?_
    refine z_bipush C (10 : Int32) dX12_times_3 (by decide) ?_
    refine z_icmp_ge C 21 dX12_times_5 (by decide) (fun hc2 => ?_) (fun hc2 => ?_)
    · replace h := (if_pos hc2).symm.trans h
      obtain rfl := Option.some.inj h
      exact K _ (lv_sub hl [0, 1, 2] rfl)
    · replace h := (if_neg hc2).symm.trans h
      refine z_aload_n C (i := 0) (k := 0) hl dX12_times_8 rfl rfl ?_
      refine z_getr C 50 31 71 fw_X12_72 sh_50 rfl dX12_times_9 ?_
      refine z_iload_n C (i := 2) (k := 2) hl dX12_times_12 rfl rfl ?_
      refine z_iconst C (0 : Int32) dX12_times_13 (by decide) ?_
      obtain ⟨hi1, h⟩ := gd h
      refine z_iast C 71 10 sh_71 hi1 dX12_times_14 ?_
      refine z_iinc C (i := 2) (k := 2) (x2 + (1 : Int32)) [(2, .int (x2 + (1 : Int32))), (0, .ref (ad 50)), (1, .int x1)] hl dX12_times_15 rfl rfl (by decide) rfl (fun ls hl => ?_)
      refine z_goto C 2 dX12_times_18 (by decide) ?_
      exact ih _ _ h _ (lv_sub hl [1, 2, 0] rfl)
set_option maxRecDepth 20000 in
set_option maxHeartbeats 4000000 in
theorem zl_X12_times_74 {p : Program} {l : Launch} {e : Env} {s : State} {m : MethodId} {args : Array Value} {below : List Frame} {meth : Method} {c : Code} {D : va_G} {cA : Nat → ClassId} {ad : Nat → Nat} {Q : State → Prop} (C : Cx SH p s m args meth c cX12_times 11 none RX12 D cA ad (inAd ad)) (F : Nat) (x1 : Int32) (x2 : Int32) (x3 : Int32) (x4 : Int32)  {out : Int32 × Int32 × Int32 × Int32 × St}  (K : ∀ ls : Array Slot, lv_has ls 11 [(0, .ref (ad 50)), (1, .int x1), (2, .int x2), (3, .int x3), (4, .int x4), (5, .int out.1), (6, .int out.2.1), (7, .int out.2.2.1), (8, .int out.2.2.2.1)] → Z SH p l e (rmD 1) s m args below meth c D cA ad (inAd ad) 0 0 Q out.2.2.2.2 197 ls []) : ∀ (k : Nat) (x5 : Int32) (x6 : Int32) (x7 : Int32) (x8 : Int32) (u : St), l_X12_times_74 F x1 x2 x3 x4 k x5 x6 x7 x8 u = some out → ∀ ls : Array Slot, lv_has ls 11 [(0, .ref (ad 50)), (1, .int x1), (2, .int x2), (3, .int x3), (4, .int x4), (5, .int x5), (6, .int x6), (7, .int x7), (8, .int x8)] → Z SH p l e (rmD 1) s m args below meth c D cA ad (inAd ad) 0 0 Q u 74 ls [] := by
  intro k
  induction k with
  | zero => intro x5 x6 x7 x8 u h; cases h
  | succ k ih =>
    intro x5 x6 x7 x8 u h ls hl
    replace h : b_X12_times_74 F x1 x2 x3 x4 (l_X12_times_74 F x1 x2 x3 x4 k) x5 x6 x7 x8 u = some out := h
    unfold b_X12_times_74 at h
    refine z_iload C (i := 8) (k := 8) hl dX12_times_74 rfl ?_
    refine z_aload_n C (i := 0) (k := 0) hl dX12_times_76 rfl rfl ?_
    refine z_geti C 50 25 fw_X12_159 sh_50 rfl dX12_times_77 ?_
    refine z_icmp_ge C 197 dX12_times_80 (by decide) (fun hc22 => ?_) (fun hc22 => ?_)
    · replace h := (if_pos hc22).symm.trans h
      obtain rfl := Option.some.inj h
      exact K _ (lv_sub hl [0, 1, 2, 3, 4, 5, 6, 7, 8] rfl)
    · replace h := (if_neg hc22).symm.trans h
      refine z_iload_n C (i := 2) (k := 2) hl dX12_times_83 rfl rfl ?_
      refine z_aload_n C (i := 0) (k := 0) hl dX12_times_84 rfl rfl ?_
      refine z_getr C 50 23 69 fw_X12_66 sh_50 rfl dX12_times_85 ?_
      refine z_iload C (i := 8) (k := 8) hl dX12_times_88 rfl ?_
      obtain ⟨hi6, h⟩ := gd h
      refine z_iald C 69 20 sh_69 hi6 dX12_times_90 ?_
      refine z_isub C dX12_times_91 ?_
      refine z_istore C (i := 9) [(9, .int (x2 - (u.1 69 x8.toNatClampNeg))), (0, .ref (ad 50)), (1, .int x1), (2, .int x2), (3, .int x3), (4, .int x4), (5, .int x5), (6, .int x6), (7, .int x7), (8, .int x8)] hl dX12_times_92 (by decide) rfl (fun ls hl => ?_)
      refine z_aload_n C (i := 0) (k := 1) hl dX12_times_94 rfl rfl ?_
      refine z_getr C 50 22 68 fw_X12_63 sh_50 rfl dX12_times_95 ?_
      refine z_iload C (i := 8) (k := 9) hl dX12_times_98 rfl ?_
      obtain ⟨hi7, h⟩ := gd h
      refine z_iald C 68 20 sh_68 hi7 dX12_times_100 ?_
      refine z_iload C (i := 4) (k := 5) hl dX12_times_101 rfl ?_
      refine z_icmp_ne C 191 dX12_times_103 (by decide) (fun hc21 => ?_) (fun hc21 => ?_)
      · replace h := (if_neg hc21).symm.trans h
        refine z_iinc C (i := 8) (k := 9) (x8 + (1 : Int32)) [(8, .int (x8 + (1 : Int32))), (9, .int (x2 - (u.1 69 x8.toNatClampNeg))), (0, .ref (ad 50)), (1, .int x1), (2, .int x2), (3, .int x3), (4, .int x4), (5, .int x5), (6, .int x6), (7, .int x7)] hl dX12_times_191 rfl rfl (by decide) rfl (fun ls hl => ?_)
        refine z_goto C 74 dX12_times_194 (by decide) ?_
        exact ih _ _ _ _ _ h _ (lv_sub hl [2, 3, 4, 5, 6, 7, 8, 9, 0] rfl)
      · replace h := (if_pos hc21).symm.trans h
        refine z_iload C (i := 9) (k := 0) hl dX12_times_106 rfl ?_
        refine z_iconst C (1 : Int32) dX12_times_108 (by decide) ?_
        refine z_icmp_ge C 115 dX12_times_109 (by decide) (fun hc20 => ?_) (fun hc20 => ?_)
        · replace h := (if_pos hc20).symm.trans h
          refine z_iload C (i := 9) (k := 0) hl dX12_times_115 rfl ?_
          refine z_iload_n C (i := 2) (k := 3) hl dX12_times_117 rfl rfl ?_
          refine z_icmp_ne C 143 dX12_times_118 (by decide) (fun hc19 => ?_) (fun hc19 => ?_)
          · replace h := (if_neg hc19).symm.trans h
            refine z_aload_n C (i := 0) (k := 1) hl dX12_times_143 rfl rfl ?_
            refine z_getr C 50 30 70 fw_X12_69 sh_50 rfl dX12_times_144 ?_
            refine z_sipush C (201 : Int32) dX12_times_147 (by decide) ?_
            refine z_aload_n C (i := 0) (k := 1) hl dX12_times_150 rfl rfl ?_
            refine z_getr C 50 21 67 fw_X12_60 sh_50 rfl dX12_times_151 ?_
            refine z_iload C (i := 8) (k := 9) hl dX12_times_154 rfl ?_
            obtain ⟨hi8, h⟩ := gd h
            refine z_iald C 67 20 sh_67 hi8 dX12_times_156 ?_
            refine z_imul C dX12_times_157 ?_
            refine z_iload C (i := 9) (k := 0) hl dX12_times_158 rfl ?_
            refine z_iadd C dX12_times_160 ?_
            obtain ⟨hi9, h⟩ := gd h
            refine z_iald C 70 2010 sh_70 hi9 dX12_times_161 ?_
            refine z_istore C (i := 10) [(10, .int (u.1 70 (((201 : Int32) * (u.1 67 x8.toNatClampNeg)) + (x2 - (u.1 69 x8.toNatClampNeg))).toNatClampNeg)), (9, .int (x2 - (u.1 69 x8.toNatClampNeg))), (0, .ref (ad 50)), (1, .int x1), (2, .int x2), (3, .int x3), (4, .int x4), (5, .int x5), (6, .int x6), (7, .int x7), (8, .int x8)] hl dX12_times_162 (by decide) rfl (fun ls hl => ?_)
            refine z_iload C (i := 7) (k := 9) hl dX12_times_164 rfl ?_
            refine z_if_ne C 175 dX12_times_166 (by decide) (fun hc11 => ?_) (fun hc11 => ?_)
            · replace h := (if_neg hc11).symm.trans h
              refine z_iconst C (1 : Int32) dX12_times_175 (by decide) ?_
              refine z_goto C 180 dX12_times_176 (by decide) ?_
              refine z_istore C (i := 7) [(7, .int (1 : Int32)), (10, .int (u.1 70 (((201 : Int32) * (u.1 67 x8.toNatClampNeg)) + (x2 - (u.1 69 x8.toNatClampNeg))).toNatClampNeg)), (9, .int (x2 - (u.1 69 x8.toNatClampNeg))), (0, .ref (ad 50)), (1, .int x1), (2, .int x2), (3, .int x3), (4, .int x4), (5, .int x5), (6, .int x6), (8, .int x8)] hl dX12_times_180 (by decide) rfl (fun ls hl => ?_)
              refine z_iload C (i := 5) (k := 8) hl dX12_times_182 rfl ?_
              refine z_iload C (i := 10) (k := 1) hl dX12_times_184 rfl ?_
              refine z_max C ml_X12_189 hl.1 ⟨Nat.le_of_ble_eq_true rfl, Nat.le_of_ble_eq_true rfl⟩ ⟨Nat.le_refl _, Nat.le_refl _⟩ dX12_times_186 ?_
              refine z_istore C (i := 5) [(5, .int (if x5 < (u.1 70 (((201 : Int32) * (u.1 67 x8.toNatClampNeg)) + (x2 - (u.1 69 x8.toNatClampNeg))).toNatClampNeg) then (u.1 70 (((201 : Int32) * (u.1 67 x8.toNatClampNeg)) + (x2 - (u.1 69 x8.toNatClampNeg))).toNatClampNeg) else x5)), (7, .int (1 : Int32)), (10, .int (u.1 70 (((201 : Int32) * (u.1 67 x8.toNatClampNeg)) + (x2 - (u.1 69 x8.toNatClampNeg))).toNatClampNeg)), (9, .int (x2 - (u.1 69 x8.toNatClampNeg))), (0, .ref (ad 50)), (1, .int x1), (2, .int x2), (3, .int x3), (4, .int x4), (6, .int x6), (8, .int x8)] hl dX12_times_189 (by decide) rfl (fun ls hl => ?_)
              refine z_iinc C (i := 8) (k := 10) (x8 + (1 : Int32)) [(8, .int (x8 + (1 : Int32))), (5, .int (if x5 < (u.1 70 (((201 : Int32) * (u.1 67 x8.toNatClampNeg)) + (x2 - (u.1 69 x8.toNatClampNeg))).toNatClampNeg) then (u.1 70 (((201 : Int32) * (u.1 67 x8.toNatClampNeg)) + (x2 - (u.1 69 x8.toNatClampNeg))).toNatClampNeg) else x5)), (7, .int (1 : Int32)), (10, .int (u.1 70 (((201 : Int32) * (u.1 67 x8.toNatClampNeg)) + (x2 - (u.1 69 x8.toNatClampNeg))).toNatClampNeg)), (9, .int (x2 - (u.1 69 x8.toNatClampNeg))), (0, .ref (ad 50)), (1, .int x1), (2, .int x2), (3, .int x3), (4, .int x4), (6, .int x6)] hl dX12_times_191 rfl rfl (by decide) rfl (fun ls hl => ?_)
              refine z_goto C 74 dX12_times_194 (by decide) ?_
              exact ih _ _ _ _ _ h _ (lv_sub hl [5, 6, 7, 8, 9, 1, 10, 2, 0] rfl)
            · replace h := (if_pos hc11).symm.trans h
              refine z_iload C (i := 10) (k := 0) hl dX12_times_169 rfl ?_
              refine z_iconst C (-1 : Int32) dX12_times_171 (by decide) ?_
              refine z_icmp_ne C 179 dX12_times_172 (by decide) (fun hc10 => ?_) (fun hc10 => ?_)
              · replace h := (if_neg hc10).symm.trans h
                refine z_iconst C (0 : Int32) dX12_times_179 (by decide) ?_
                refine z_istore C (i := 7) [(7, .int (0 : Int32)), (10, .int (u.1 70 (((201 : Int32) * (u.1 67 x8.toNatClampNeg)) + (x2 - (u.1 69 x8.toNatClampNeg))).toNatClampNeg)), (9, .int (x2 - (u.1 69 x8.toNatClampNeg))), (0, .ref (ad 50)), (1, .int x1), (2, .int x2), (3, .int x3), (4, .int x4), (5, .int x5), (6, .int x6), (8, .int x8)] hl dX12_times_180 (by decide) rfl (fun ls hl => ?_)
                refine z_iload C (i := 5) (k := 8) hl dX12_times_182 rfl ?_
                refine z_iload C (i := 10) (k := 1) hl dX12_times_184 rfl ?_
                refine z_max C ml_X12_189 hl.1 ⟨Nat.le_of_ble_eq_true rfl, Nat.le_of_ble_eq_true rfl⟩ ⟨Nat.le_refl _, Nat.le_refl _⟩ dX12_times_186 ?_
                refine z_istore C (i := 5) [(5, .int (if x5 < (u.1 70 (((201 : Int32) * (u.1 67 x8.toNatClampNeg)) + (x2 - (u.1 69 x8.toNatClampNeg))).toNatClampNeg) then (u.1 70 (((201 : Int32) * (u.1 67 x8.toNatClampNeg)) + (x2 - (u.1 69 x8.toNatClampNeg))).toNatClampNeg) else x5)), (7, .int (0 : Int32)), (10, .int (u.1 70 (((201 : Int32) * (u.1 67 x8.toNatClampNeg)) + (x2 - (u.1 69 x8.toNatClampNeg))).toNatClampNeg)), (9, .int (x2 - (u.1 69 x8.toNatClampNeg))), (0, .ref (ad 50)), (1, .int x1), (2, .int x2), (3, .int x3), (4, .int x4), (6, .int x6), (8, .int x8)] hl dX12_times_189 (by decide) rfl (fun ls hl => ?_)
                refine z_iinc C (i := 8) (k := 10) (x8 + (1 : Int32)) [(8, .int (x8 + (1 : Int32))), (5, .int (if x5 < (u.1 70 (((201 : Int32) * (u.1 67 x8.toNatClampNeg)) + (x2 - (u.1 69 x8.toNatClampNeg))).toNatClampNeg) then (u.1 70 (((201 : Int32) * (u.1 67 x8.toNatClampNeg)) + (x2 - (u.1 69 x8.toNatClampNeg))).toNatClampNeg) else x5)), (7, .int (0 : Int32)), (10, .int (u.1 70 (((201 : Int32) * (u.1 67 x8.toNatClampNeg)) + (x2 - (u.1 69 x8.toNatClampNeg))).toNatClampNeg)), (9, .int (x2 - (u.1 69 x8.toNatClampNeg))), (0, .ref (ad 50)), (1, .int x1), (2, .int x2), (3, .int x3), (4, .int x4), (6, .int x6)] hl dX12_times_191 rfl rfl (by decide) rfl (fun ls hl => ?_)
                refine z_goto C 74 dX12_times_194 (by decide) ?_
                exact ih _ _ _ _ _ h _ (lv_sub hl [5, 6, 7, 8, 9, 1, 10, 2, 0] rfl)
              · replace h := (if_pos hc10).symm.trans h
                refine z_iconst C (1 : Int32) dX12_times_175 (by decide) ?_
                refine z_goto C 180 dX12_times_176 (by decide) ?_
                refine z_istore C (i := 7) [(7, .int (1 : Int32)), (10, .int (u.1 70 (((201 : Int32) * (u.1 67 x8.toNatClampNeg)) + (x2 - (u.1 69 x8.toNatClampNeg))).toNatClampNeg)), (9, .int (x2 - (u.1 69 x8.toNatClampNeg))), (0, .ref (ad 50)), (1, .int x1), (2, .int x2), (3, .int x3), (4, .int x4), (5, .int x5), (6, .int x6), (8, .int x8)] hl dX12_times_180 (by decide) rfl (fun ls hl => ?_)
                refine z_iload C (i := 5) (k := 8) hl dX12_times_182 rfl ?_
                refine z_iload C (i := 10) (k := 1) hl dX12_times_184 rfl ?_
                refine z_max C ml_X12_189 hl.1 ⟨Nat.le_of_ble_eq_true rfl, Nat.le_of_ble_eq_true rfl⟩ ⟨Nat.le_refl _, Nat.le_refl _⟩ dX12_times_186 ?_
                refine z_istore C (i := 5) [(5, .int (if x5 < (u.1 70 (((201 : Int32) * (u.1 67 x8.toNatClampNeg)) + (x2 - (u.1 69 x8.toNatClampNeg))).toNatClampNeg) then (u.1 70 (((201 : Int32) * (u.1 67 x8.toNatClampNeg)) + (x2 - (u.1 69 x8.toNatClampNeg))).toNatClampNeg) else x5)), (7, .int (1 : Int32)), (10, .int (u.1 70 (((201 : Int32) * (u.1 67 x8.toNatClampNeg)) + (x2 - (u.1 69 x8.toNatClampNeg))).toNatClampNeg)), (9, .int (x2 - (u.1 69 x8.toNatClampNeg))), (0, .ref (ad 50)), (1, .int x1), (2, .int x2), (3, .int x3), (4, .int x4), (6, .int x6), (8, .int x8)] hl dX12_times_189 (by decide) rfl (fun ls hl => ?_)
                refine z_iinc C (i := 8) (k := 10) (x8 + (1 : Int32)) [(8, .int (x8 + (1 : Int32))), (5, .int (if x5 < (u.1 70 (((201 : Int32) * (u.1 67 x8.toNatClampNeg)) + (x2 - (u.1 69 x8.toNatClampNeg))).toNatClampNeg) then (u.1 70 (((201 : Int32) * (u.1 67 x8.toNatClampNeg)) + (x2 - (u.1 69 x8.toNatClampNeg))).toNatClampNeg) else x5)), (7, .int (1 : Int32)), (10, .int (u.1 70 (((201 : Int32) * (u.1 67 x8.toNatClampNeg)) + (x2 - (u.1 69 x8.toNatClampNeg))).toNatClampNeg)), (9, .int (x2 - (u.1 69 x8.toNatClampNeg))), (0, .ref (ad 50)), (1, .int x1), (2, .int x2), (3, .int x3), (4, .int x4), (6, .int x6)] hl dX12_times_191 rfl rfl (by decide) rfl (fun ls hl => ?_)
                refine z_goto C 74 dX12_times_194 (by decide) ?_
                exact ih _ _ _ _ _ h _ (lv_sub hl [5, 6, 7, 8, 9, 1, 10, 2, 0] rfl)
          · replace h := (if_pos hc19).symm.trans h
            refine z_aload_n C (i := 0) (k := 1) hl dX12_times_121 rfl rfl ?_
            refine z_getr C 50 31 71 fw_X12_72 sh_50 rfl dX12_times_122 ?_
            refine z_aload_n C (i := 0) (k := 1) hl dX12_times_125 rfl rfl ?_
            refine z_getr C 50 21 67 fw_X12_60 sh_50 rfl dX12_times_126 ?_
            refine z_iload C (i := 8) (k := 9) hl dX12_times_129 rfl ?_
            obtain ⟨hi12, h⟩ := gd h
            refine z_iald C 67 20 sh_67 hi12 dX12_times_131 ?_
            obtain ⟨hi13, h⟩ := gd h
            refine z_iald C 71 10 sh_71 hi13 dX12_times_132 ?_
            refine z_iload_n C (i := 2) (k := 3) hl dX12_times_133 rfl rfl ?_
            refine z_icmp_eq C 143 dX12_times_134 (by decide) (fun hc18 => ?_) (fun hc18 => ?_)
            · replace h := (if_pos hc18).symm.trans h
              refine z_aload_n C (i := 0) (k := 1) hl dX12_times_143 rfl rfl ?_
              refine z_getr C 50 30 70 fw_X12_69 sh_50 rfl dX12_times_144 ?_
              refine z_sipush C (201 : Int32) dX12_times_147 (by decide) ?_
              refine z_aload_n C (i := 0) (k := 1) hl dX12_times_150 rfl rfl ?_
              refine z_getr C 50 21 67 fw_X12_60 sh_50 rfl dX12_times_151 ?_
              refine z_iload C (i := 8) (k := 9) hl dX12_times_154 rfl ?_
              obtain ⟨hi14, h⟩ := gd h
              refine z_iald C 67 20 sh_67 hi14 dX12_times_156 ?_
              refine z_imul C dX12_times_157 ?_
              refine z_iload C (i := 9) (k := 0) hl dX12_times_158 rfl ?_
              refine z_iadd C dX12_times_160 ?_
              obtain ⟨hi15, h⟩ := gd h
              refine z_iald C 70 2010 sh_70 hi15 dX12_times_161 ?_
              refine z_istore C (i := 10) [(10, .int (u.1 70 (((201 : Int32) * (u.1 67 x8.toNatClampNeg)) + (x2 - (u.1 69 x8.toNatClampNeg))).toNatClampNeg)), (9, .int (x2 - (u.1 69 x8.toNatClampNeg))), (0, .ref (ad 50)), (1, .int x1), (2, .int x2), (3, .int x3), (4, .int x4), (5, .int x5), (6, .int x6), (7, .int x7), (8, .int x8)] hl dX12_times_162 (by decide) rfl (fun ls hl => ?_)
              refine z_iload C (i := 7) (k := 9) hl dX12_times_164 rfl ?_
              refine z_if_ne C 175 dX12_times_166 (by decide) (fun hc17 => ?_) (fun hc17 => ?_)
              · replace h := (if_neg hc17).symm.trans h
                refine z_iconst C (1 : Int32) dX12_times_175 (by decide) ?_
                refine z_goto C 180 dX12_times_176 (by decide) ?_
                refine z_istore C (i := 7) [(7, .int (1 : Int32)), (10, .int (u.1 70 (((201 : Int32) * (u.1 67 x8.toNatClampNeg)) + (x2 - (u.1 69 x8.toNatClampNeg))).toNatClampNeg)), (9, .int (x2 - (u.1 69 x8.toNatClampNeg))), (0, .ref (ad 50)), (1, .int x1), (2, .int x2), (3, .int x3), (4, .int x4), (5, .int x5), (6, .int x6), (8, .int x8)] hl dX12_times_180 (by decide) rfl (fun ls hl => ?_)
                refine z_iload C (i := 5) (k := 8) hl dX12_times_182 rfl ?_
                refine z_iload C (i := 10) (k := 1) hl dX12_times_184 rfl ?_
                refine z_max C ml_X12_189 hl.1 ⟨Nat.le_of_ble_eq_true rfl, Nat.le_of_ble_eq_true rfl⟩ ⟨Nat.le_refl _, Nat.le_refl _⟩ dX12_times_186 ?_
                refine z_istore C (i := 5) [(5, .int (if x5 < (u.1 70 (((201 : Int32) * (u.1 67 x8.toNatClampNeg)) + (x2 - (u.1 69 x8.toNatClampNeg))).toNatClampNeg) then (u.1 70 (((201 : Int32) * (u.1 67 x8.toNatClampNeg)) + (x2 - (u.1 69 x8.toNatClampNeg))).toNatClampNeg) else x5)), (7, .int (1 : Int32)), (10, .int (u.1 70 (((201 : Int32) * (u.1 67 x8.toNatClampNeg)) + (x2 - (u.1 69 x8.toNatClampNeg))).toNatClampNeg)), (9, .int (x2 - (u.1 69 x8.toNatClampNeg))), (0, .ref (ad 50)), (1, .int x1), (2, .int x2), (3, .int x3), (4, .int x4), (6, .int x6), (8, .int x8)] hl dX12_times_189 (by decide) rfl (fun ls hl => ?_)
                refine z_iinc C (i := 8) (k := 10) (x8 + (1 : Int32)) [(8, .int (x8 + (1 : Int32))), (5, .int (if x5 < (u.1 70 (((201 : Int32) * (u.1 67 x8.toNatClampNeg)) + (x2 - (u.1 69 x8.toNatClampNeg))).toNatClampNeg) then (u.1 70 (((201 : Int32) * (u.1 67 x8.toNatClampNeg)) + (x2 - (u.1 69 x8.toNatClampNeg))).toNatClampNeg) else x5)), (7, .int (1 : Int32)), (10, .int (u.1 70 (((201 : Int32) * (u.1 67 x8.toNatClampNeg)) + (x2 - (u.1 69 x8.toNatClampNeg))).toNatClampNeg)), (9, .int (x2 - (u.1 69 x8.toNatClampNeg))), (0, .ref (ad 50)), (1, .int x1), (2, .int x2), (3, .int x3), (4, .int x4), (6, .int x6)] hl dX12_times_191 rfl rfl (by decide) rfl (fun ls hl => ?_)
                refine z_goto C 74 dX12_times_194 (by decide) ?_
                exact ih _ _ _ _ _ h _ (lv_sub hl [5, 6, 7, 8, 9, 1, 10, 2, 0] rfl)
              · replace h := (if_pos hc17).symm.trans h
                refine z_iload C (i := 10) (k := 0) hl dX12_times_169 rfl ?_
                refine z_iconst C (-1 : Int32) dX12_times_171 (by decide) ?_
                refine z_icmp_ne C 179 dX12_times_172 (by decide) (fun hc16 => ?_) (fun hc16 => ?_)
                · replace h := (if_neg hc16).symm.trans h
                  refine z_iconst C (0 : Int32) dX12_times_179 (by decide) ?_
                  refine z_istore C (i := 7) [(7, .int (0 : Int32)), (10, .int (u.1 70 (((201 : Int32) * (u.1 67 x8.toNatClampNeg)) + (x2 - (u.1 69 x8.toNatClampNeg))).toNatClampNeg)), (9, .int (x2 - (u.1 69 x8.toNatClampNeg))), (0, .ref (ad 50)), (1, .int x1), (2, .int x2), (3, .int x3), (4, .int x4), (5, .int x5), (6, .int x6), (8, .int x8)] hl dX12_times_180 (by decide) rfl (fun ls hl => ?_)
                  refine z_iload C (i := 5) (k := 8) hl dX12_times_182 rfl ?_
                  refine z_iload C (i := 10) (k := 1) hl dX12_times_184 rfl ?_
                  refine z_max C ml_X12_189 hl.1 ⟨Nat.le_of_ble_eq_true rfl, Nat.le_of_ble_eq_true rfl⟩ ⟨Nat.le_refl _, Nat.le_refl _⟩ dX12_times_186 ?_
                  refine z_istore C (i := 5) [(5, .int (if x5 < (u.1 70 (((201 : Int32) * (u.1 67 x8.toNatClampNeg)) + (x2 - (u.1 69 x8.toNatClampNeg))).toNatClampNeg) then (u.1 70 (((201 : Int32) * (u.1 67 x8.toNatClampNeg)) + (x2 - (u.1 69 x8.toNatClampNeg))).toNatClampNeg) else x5)), (7, .int (0 : Int32)), (10, .int (u.1 70 (((201 : Int32) * (u.1 67 x8.toNatClampNeg)) + (x2 - (u.1 69 x8.toNatClampNeg))).toNatClampNeg)), (9, .int (x2 - (u.1 69 x8.toNatClampNeg))), (0, .ref (ad 50)), (1, .int x1), (2, .int x2), (3, .int x3), (4, .int x4), (6, .int x6), (8, .int x8)] hl dX12_times_189 (by decide) rfl (fun ls hl => ?_)
                  refine z_iinc C (i := 8) (k := 10) (x8 + (1 : Int32)) [(8, .int (x8 + (1 : Int32))), (5, .int (if x5 < (u.1 70 (((201 : Int32) * (u.1 67 x8.toNatClampNeg)) + (x2 - (u.1 69 x8.toNatClampNeg))).toNatClampNeg) then (u.1 70 (((201 : Int32) * (u.1 67 x8.toNatClampNeg)) + (x2 - (u.1 69 x8.toNatClampNeg))).toNatClampNeg) else x5)), (7, .int (0 : Int32)), (10, .int (u.1 70 (((201 : Int32) * (u.1 67 x8.toNatClampNeg)) + (x2 - (u.1 69 x8.toNatClampNeg))).toNatClampNeg)), (9, .int (x2 - (u.1 69 x8.toNatClampNeg))), (0, .ref (ad 50)), (1, .int x1), (2, .int x2), (3, .int x3), (4, .int x4), (6, .int x6)] hl dX12_times_191 rfl rfl (by decide) rfl (fun ls hl => ?_)
                  refine z_goto C 74 dX12_times_194 (by decide) ?_
                  exact ih _ _ _ _ _ h _ (lv_sub hl [5, 6, 7, 8, 9, 1, 10, 2, 0] rfl)
                · replace h := (if_pos hc16).symm.trans h
                  refine z_iconst C (1 : Int32) dX12_times_175 (by decide) ?_
                  refine z_goto C 180 dX12_times_176 (by decide) ?_
                  refine z_istore C (i := 7) [(7, .int (1 : Int32)), (10, .int (u.1 70 (((201 : Int32) * (u.1 67 x8.toNatClampNeg)) + (x2 - (u.1 69 x8.toNatClampNeg))).toNatClampNeg)), (9, .int (x2 - (u.1 69 x8.toNatClampNeg))), (0, .ref (ad 50)), (1, .int x1), (2, .int x2), (3, .int x3), (4, .int x4), (5, .int x5), (6, .int x6), (8, .int x8)] hl dX12_times_180 (by decide) rfl (fun ls hl => ?_)
                  refine z_iload C (i := 5) (k := 8) hl dX12_times_182 rfl ?_
                  refine z_iload C (i := 10) (k := 1) hl dX12_times_184 rfl ?_
                  refine z_max C ml_X12_189 hl.1 ⟨Nat.le_of_ble_eq_true rfl, Nat.le_of_ble_eq_true rfl⟩ ⟨Nat.le_refl _, Nat.le_refl _⟩ dX12_times_186 ?_
                  refine z_istore C (i := 5) [(5, .int (if x5 < (u.1 70 (((201 : Int32) * (u.1 67 x8.toNatClampNeg)) + (x2 - (u.1 69 x8.toNatClampNeg))).toNatClampNeg) then (u.1 70 (((201 : Int32) * (u.1 67 x8.toNatClampNeg)) + (x2 - (u.1 69 x8.toNatClampNeg))).toNatClampNeg) else x5)), (7, .int (1 : Int32)), (10, .int (u.1 70 (((201 : Int32) * (u.1 67 x8.toNatClampNeg)) + (x2 - (u.1 69 x8.toNatClampNeg))).toNatClampNeg)), (9, .int (x2 - (u.1 69 x8.toNatClampNeg))), (0, .ref (ad 50)), (1, .int x1), (2, .int x2), (3, .int x3), (4, .int x4), (6, .int x6), (8, .int x8)] hl dX12_times_189 (by decide) rfl (fun ls hl => ?_)
                  refine z_iinc C (i := 8) (k := 10) (x8 + (1 : Int32)) [(8, .int (x8 + (1 : Int32))), (5, .int (if x5 < (u.1 70 (((201 : Int32) * (u.1 67 x8.toNatClampNeg)) + (x2 - (u.1 69 x8.toNatClampNeg))).toNatClampNeg) then (u.1 70 (((201 : Int32) * (u.1 67 x8.toNatClampNeg)) + (x2 - (u.1 69 x8.toNatClampNeg))).toNatClampNeg) else x5)), (7, .int (1 : Int32)), (10, .int (u.1 70 (((201 : Int32) * (u.1 67 x8.toNatClampNeg)) + (x2 - (u.1 69 x8.toNatClampNeg))).toNatClampNeg)), (9, .int (x2 - (u.1 69 x8.toNatClampNeg))), (0, .ref (ad 50)), (1, .int x1), (2, .int x2), (3, .int x3), (4, .int x4), (6, .int x6)] hl dX12_times_191 rfl rfl (by decide) rfl (fun ls hl => ?_)
                  refine z_goto C 74 dX12_times_194 (by decide) ?_
                  exact ih _ _ _ _ _ h _ (lv_sub hl [5, 6, 7, 8, 9, 1, 10, 2, 0] rfl)
            · replace h := (if_neg hc18).symm.trans h
              refine z_iconst C (0 : Int32) dX12_times_137 (by decide) ?_
              refine z_istore C (i := 6) [(6, .int (0 : Int32)), (9, .int (x2 - (u.1 69 x8.toNatClampNeg))), (0, .ref (ad 50)), (1, .int x1), (2, .int x2), (3, .int x3), (4, .int x4), (5, .int x5), (7, .int x7), (8, .int x8)] hl dX12_times_138 (by decide) rfl (fun ls hl => ?_)
              refine z_goto C 191 dX12_times_140 (by decide) ?_
              refine z_iinc C (i := 8) (k := 9) (x8 + (1 : Int32)) [(8, .int (x8 + (1 : Int32))), (6, .int (0 : Int32)), (9, .int (x2 - (u.1 69 x8.toNatClampNeg))), (0, .ref (ad 50)), (1, .int x1), (2, .int x2), (3, .int x3), (4, .int x4), (5, .int x5), (7, .int x7)] hl dX12_times_191 rfl rfl (by decide) rfl (fun ls hl => ?_)
              refine z_goto C 74 dX12_times_194 (by decide) ?_
              exact ih _ _ _ _ _ h _ (lv_sub hl [3, 4, 5, 6, 7, 8, 1, 9, 0] rfl)
        · replace h := (if_neg hc20).symm.trans h
          refine z_goto C 191 dX12_times_112 (by decide) ?_
          refine z_iinc C (i := 8) (k := 9) (x8 + (1 : Int32)) [(8, .int (x8 + (1 : Int32))), (9, .int (x2 - (u.1 69 x8.toNatClampNeg))), (0, .ref (ad 50)), (1, .int x1), (2, .int x2), (3, .int x3), (4, .int x4), (5, .int x5), (6, .int x6), (7, .int x7)] hl dX12_times_191 rfl rfl (by decide) rfl (fun ls hl => ?_)
          refine z_goto C 74 dX12_times_194 (by decide) ?_
          exact ih _ _ _ _ _ h _ (lv_sub hl [2, 3, 4, 5, 6, 7, 8, 9, 0] rfl)
set_option maxRecDepth 20000 in
set_option maxHeartbeats 4000000 in
theorem zl_X12_times_39 {p : Program} {l : Launch} {e : Env} {s : State} {m : MethodId} {args : Array Value} {below : List Frame} {meth : Method} {c : Code} {D : va_G} {cA : Nat → ClassId} {ad : Nat → Nat} {Q : State → Prop} (C : Cx SH p s m args meth c cX12_times 11 none RX12 D cA ad (inAd ad)) (F : Nat) (x1 : Int32) (x2 : Int32)  {out : Int32 × Int32 × St}  (K : ∀ ls : Array Slot, lv_has ls 11 [(0, .ref (ad 50)), (1, .int x1), (2, .int x2), (3, .int out.1), (4, .int out.2.1)] → Z SH p l e (rmD 1) s m args below meth c D cA ad (inAd ad) 0 0 Q out.2.2 253 ls []) : ∀ (k : Nat) (x3 : Int32) (x4 : Int32) (u : St), l_X12_times_39 F x1 x2 k x3 x4 u = some out → ∀ ls : Array Slot, lv_has ls 11 [(0, .ref (ad 50)), (1, .int x1), (2, .int x2), (3, .int x3), (4, .int x4)] → Z SH p l e (rmD 1) s m args below meth c D cA ad (inAd ad) 0 0 Q u 39 ls [] := by
  intro k
  induction k with
  | zero => intro x3 x4 u h; cases h
  | succ k ih =>
    intro x3 x4 u h ls hl
    replace h : b_X12_times_39 F x1 x2 (l_X12_times_39 F x1 x2 k) x3 x4 u = some out := h
    unfold b_X12_times_39 at h
    refine z_iload C (i := 4) (k := 4) hl dX12_times_39 rfl ?_
    refine z_aload_n C (i := 0) (k := 0) hl dX12_times_41 rfl rfl ?_
    refine z_geti C 50 24 fw_X12_156 sh_50 rfl dX12_times_42 ?_
    refine z_icmp_ge C 253 dX12_times_45 (by decide) (fun hc33 => ?_) (fun hc33 => ?_)
    · replace h := (if_pos hc33).symm.trans h
      obtain rfl := Option.some.inj h
      exact K _ (lv_sub hl [0, 1, 2, 3, 4] rfl)
    · replace h := (if_neg hc33).symm.trans h
      refine z_aload_n C (i := 0) (k := 0) hl dX12_times_48 rfl rfl ?_
      refine z_getr C 50 31 71 fw_X12_72 sh_50 rfl dX12_times_49 ?_
      refine z_iload C (i := 4) (k := 4) hl dX12_times_52 rfl ?_
      obtain ⟨hi5, h⟩ := gd h
      refine z_iald C 71 10 sh_71 hi5 dX12_times_54 ?_
      refine z_iload_n C (i := 2) (k := 2) hl dX12_times_55 rfl rfl ?_
      refine z_icmp_ne C 62 dX12_times_56 (by decide) (fun hc32 => ?_) (fun hc32 => ?_)
      · replace h := (if_neg hc32).symm.trans h
        refine z_iconst C (0 : Int32) dX12_times_62 (by decide) ?_
        refine z_istore C (i := 5) [(5, .int (0 : Int32)), (0, .ref (ad 50)), (1, .int x1), (2, .int x2), (3, .int x3), (4, .int x4)] hl dX12_times_63 (by decide) rfl (fun ls hl => ?_)
        refine z_iconst C (1 : Int32) dX12_times_65 (by decide) ?_
        refine z_istore C (i := 6) [(6, .int (1 : Int32)), (5, .int (0 : Int32)), (0, .ref (ad 50)), (1, .int x1), (2, .int x2), (3, .int x3), (4, .int x4)] hl dX12_times_66 (by decide) rfl (fun ls hl => ?_)
        refine z_iconst C (0 : Int32) dX12_times_68 (by decide) ?_
        refine z_istore C (i := 7) [(7, .int (0 : Int32)), (6, .int (1 : Int32)), (5, .int (0 : Int32)), (0, .ref (ad 50)), (1, .int x1), (2, .int x2), (3, .int x3), (4, .int x4)] hl dX12_times_69 (by decide) rfl (fun ls hl => ?_)
        refine z_iconst C (0 : Int32) dX12_times_71 (by decide) ?_
        refine z_istore C (i := 8) [(8, .int (0 : Int32)), (7, .int (0 : Int32)), (6, .int (1 : Int32)), (5, .int (0 : Int32)), (0, .ref (ad 50)), (1, .int x1), (2, .int x2), (3, .int x3), (4, .int x4)] hl dX12_times_72 (by decide) rfl (fun ls hl => ?_)
        obtain ⟨w23, hw24, h⟩ := bnd h
        refine zl_X12_times_74 C F x1 x2 x3 x4 (out := w23) (fun ls hl => ?_) F _ _ _ _ _ hw24 _ (lv_sub hl [4, 5, 6, 7, 8, 3, 2, 1, 0] rfl)
        refine z_iload C (i := 6) (k := 6) hl dX12_times_197 rfl ?_
        refine z_if_ne C 205 dX12_times_199 (by decide) (fun hc31 => ?_) (fun hc31 => ?_)
        · replace h := (if_neg hc31).symm.trans h
          refine z_aload_n C (i := 0) (k := 0) hl dX12_times_205 rfl rfl ?_
          refine z_getr C 50 30 70 fw_X12_69 sh_50 rfl dX12_times_206 ?_
          refine z_sipush C (201 : Int32) dX12_times_209 (by decide) ?_
          refine z_iload C (i := 4) (k := 4) hl dX12_times_212 rfl ?_
          refine z_imul C dX12_times_214 ?_
          refine z_iload_n C (i := 2) (k := 2) hl dX12_times_215 rfl rfl ?_
          refine z_iadd C dX12_times_216 ?_
          refine z_iload C (i := 7) (k := 7) hl dX12_times_217 rfl ?_
          refine z_if_eq C 226 dX12_times_219 (by decide) (fun hc30 => ?_) (fun hc30 => ?_)
          · replace h := (if_pos hc30).symm.trans h
            refine z_iload C (i := 5) (k := 5) hl dX12_times_226 rfl ?_
            refine z_aload_n C (i := 0) (k := 0) hl dX12_times_228 rfl rfl ?_
            refine z_getr C 50 20 66 fw_X12_57 sh_50 rfl dX12_times_229 ?_
            refine z_iload C (i := 4) (k := 4) hl dX12_times_232 rfl ?_
            obtain ⟨hi25, h⟩ := gd h
            refine z_iald C 66 10 sh_66 hi25 dX12_times_234 ?_
            refine z_iadd C dX12_times_235 ?_
            obtain ⟨hi26, h⟩ := gd h
            refine z_iast C 70 2010 sh_70 hi26 dX12_times_236 ?_
            refine z_aload_n C (i := 0) (k := 0) hl dX12_times_237 rfl rfl ?_
            refine z_getr C 50 31 71 fw_X12_72 sh_50 rfl dX12_times_238 ?_
            refine z_iload C (i := 4) (k := 4) hl dX12_times_241 rfl ?_
            refine z_iload_n C (i := 2) (k := 2) hl dX12_times_243 rfl rfl ?_
            obtain ⟨hi27, h⟩ := gd h
            refine z_iast C 71 10 sh_71 hi27 dX12_times_244 ?_
            refine z_iconst C (1 : Int32) dX12_times_245 (by decide) ?_
            refine z_istore_n C (i := 3) [(3, .int (1 : Int32)), (0, .ref (ad 50)), (1, .int x1), (2, .int x2), (4, .int x4), (5, .int w23.1), (6, .int w23.2.1), (7, .int w23.2.2.1), (8, .int w23.2.2.2.1)] hl dX12_times_246 rfl (by decide) rfl (fun ls hl => ?_)
            refine z_iinc C (i := 4) (k := 4) (x4 + (1 : Int32)) [(4, .int (x4 + (1 : Int32))), (3, .int (1 : Int32)), (0, .ref (ad 50)), (1, .int x1), (2, .int x2), (5, .int w23.1), (6, .int w23.2.1), (7, .int w23.2.2.1), (8, .int w23.2.2.2.1)] hl dX12_times_247 rfl rfl (by decide) rfl (fun ls hl => ?_)
            refine z_goto C 39 dX12_times_250 (by decide) ?_
            exact ih _ _ _ h _ (lv_sub hl [2, 3, 4, 1, 0] rfl)
          · replace h := (if_neg hc30).symm.trans h
            refine z_iconst C (-1 : Int32) dX12_times_222 (by decide) ?_
            refine z_goto C 236 dX12_times_223 (by decide) ?_
            obtain ⟨hi28, h⟩ := gd h
            refine z_iast C 70 2010 sh_70 hi28 dX12_times_236 ?_
            refine z_aload_n C (i := 0) (k := 0) hl dX12_times_237 rfl rfl ?_
            refine z_getr C 50 31 71 fw_X12_72 sh_50 rfl dX12_times_238 ?_
            refine z_iload C (i := 4) (k := 4) hl dX12_times_241 rfl ?_
            refine z_iload_n C (i := 2) (k := 2) hl dX12_times_243 rfl rfl ?_
            obtain ⟨hi29, h⟩ := gd h
            refine z_iast C 71 10 sh_71 hi29 dX12_times_244 ?_
            refine z_iconst C (1 : Int32) dX12_times_245 (by decide) ?_
            refine z_istore_n C (i := 3) [(3, .int (1 : Int32)), (0, .ref (ad 50)), (1, .int x1), (2, .int x2), (4, .int x4), (5, .int w23.1), (6, .int w23.2.1), (7, .int w23.2.2.1), (8, .int w23.2.2.2.1)] hl dX12_times_246 rfl (by decide) rfl (fun ls hl => ?_)
            refine z_iinc C (i := 4) (k := 4) (x4 + (1 : Int32)) [(4, .int (x4 + (1 : Int32))), (3, .int (1 : Int32)), (0, .ref (ad 50)), (1, .int x1), (2, .int x2), (5, .int w23.1), (6, .int w23.2.1), (7, .int w23.2.2.1), (8, .int w23.2.2.2.1)] hl dX12_times_247 rfl rfl (by decide) rfl (fun ls hl => ?_)
            refine z_goto C 39 dX12_times_250 (by decide) ?_
            exact ih _ _ _ h _ (lv_sub hl [2, 3, 4, 1, 0] rfl)
        · replace h := (if_pos hc31).symm.trans h
          refine z_goto C 247 dX12_times_202 (by decide) ?_
          refine z_iinc C (i := 4) (k := 4) (x4 + (1 : Int32)) [(4, .int (x4 + (1 : Int32))), (0, .ref (ad 50)), (1, .int x1), (2, .int x2), (3, .int x3), (5, .int w23.1), (6, .int w23.2.1), (7, .int w23.2.2.1), (8, .int w23.2.2.2.1)] hl dX12_times_247 rfl rfl (by decide) rfl (fun ls hl => ?_)
          refine z_goto C 39 dX12_times_250 (by decide) ?_
          exact ih _ _ _ h _ (lv_sub hl [1, 2, 3, 4, 0] rfl)
      · replace h := (if_pos hc32).symm.trans h
        refine z_goto C 247 dX12_times_59 (by decide) ?_
        refine z_iinc C (i := 4) (k := 4) (x4 + (1 : Int32)) [(4, .int (x4 + (1 : Int32))), (0, .ref (ad 50)), (1, .int x1), (2, .int x2), (3, .int x3)] hl dX12_times_247 rfl rfl (by decide) rfl (fun ls hl => ?_)
        refine z_goto C 39 dX12_times_250 (by decide) ?_
        exact ih _ _ _ h _ (lv_sub hl [1, 2, 3, 4, 0] rfl)
set_option maxRecDepth 20000 in
set_option maxHeartbeats 4000000 in
theorem zl_X12_times_30 {p : Program} {l : Launch} {e : Env} {s : State} {m : MethodId} {args : Array Value} {below : List Frame} {meth : Method} {c : Code} {D : va_G} {cA : Nat → ClassId} {ad : Nat → Nat} {Q : State → Prop} (C : Cx SH p s m args meth c cX12_times 11 none RX12 D cA ad (inAd ad)) (F : Nat) (x1 : Int32) (x2 : Int32)  {out : Int32 × St}  (K : ∀ ls : Array Slot, lv_has ls 11 [(0, .ref (ad 50)), (1, .int x1), (2, .int x2), (3, .int out.1)] → Z SH p l e (rmD 1) s m args below meth c D cA ad (inAd ad) 0 0 Q out.2 256 ls []) : ∀ (k : Nat) (x3 : Int32) (u : St), l_X12_times_30 F x1 x2 k x3 u = some out → ∀ ls : Array Slot, lv_has ls 11 [(0, .ref (ad 50)), (1, .int x1), (2, .int x2), (3, .int x3)] → Z SH p l e (rmD 1) s m args below meth c D cA ad (inAd ad) 0 0 Q u 30 ls [] := by
  intro k
  induction k with
  | zero => intro x3 u h; cases h
  | succ k ih =>
    intro x3 u h ls hl
    replace h : b_X12_times_30 F x1 x2 (l_X12_times_30 F x1 x2 k) x3 u = some out := h
    unfold b_X12_times_30 at h
    refine z_iload_n C (i := 3) (k := 3) hl dX12_times_30 rfl rfl ?_
    refine z_if_eq C 256 dX12_times_31 (by decide) (fun hc36 => ?_) (fun hc36 => ?_)
    · replace h := (if_pos hc36).symm.trans h
      obtain rfl := Option.some.inj h
      exact K _ (lv_sub hl [0, 1, 2, 3] rfl)
    · replace h := (if_neg hc36).symm.trans h
      refine z_iconst C (0 : Int32) dX12_times_34 (by decide) ?_
      refine z_istore_n C (i := 3) [(3, .int (0 : Int32)), (0, .ref (ad 50)), (1, .int x1), (2, .int x2)] hl dX12_times_35 rfl (by decide) rfl (fun ls hl => ?_)
      refine z_iconst C (0 : Int32) dX12_times_36 (by decide) ?_
      refine z_istore C (i := 4) [(4, .int (0 : Int32)), (3, .int (0 : Int32)), (0, .ref (ad 50)), (1, .int x1), (2, .int x2)] hl dX12_times_37 (by decide) rfl (fun ls hl => ?_)
      obtain ⟨w34, hw35, h⟩ := bnd h
      refine zl_X12_times_39 C F x1 x2 (out := w34) (fun ls hl => ?_) F _ _ _ hw35 _ (lv_sub hl [2, 3, 4, 1, 0] rfl)
      refine z_goto C 30 dX12_times_253 (by decide) ?_
      exact ih _ _ h _ (lv_sub hl [0, 1, 2, 3] rfl)
set_option maxRecDepth 20000 in
set_option maxHeartbeats 4000000 in
theorem zl_X12_times_259 {p : Program} {l : Launch} {e : Env} {s : State} {m : MethodId} {args : Array Value} {below : List Frame} {meth : Method} {c : Code} {D : va_G} {cA : Nat → ClassId} {ad : Nat → Nat} {Q : State → Prop} (C : Cx SH p s m args meth c cX12_times 11 none RX12 D cA ad (inAd ad)) (F : Nat) (x1 : Int32) (x2 : Int32)  {out : Int32 × St}  (K : ∀ ls : Array Slot, lv_has ls 11 [(0, .ref (ad 50)), (1, .int x1), (2, .int x2), (4, .int out.1)] → Z SH p l e (rmD 1) s m args below meth c D cA ad (inAd ad) 0 0 Q out.2 299 ls []) : ∀ (k : Nat) (x4 : Int32) (u : St), l_X12_times_259 F x1 x2 k x4 u = some out → ∀ ls : Array Slot, lv_has ls 11 [(0, .ref (ad 50)), (1, .int x1), (2, .int x2), (4, .int x4)] → Z SH p l e (rmD 1) s m args below meth c D cA ad (inAd ad) 0 0 Q u 259 ls [] := by
  intro k
  induction k with
  | zero => intro x4 u h; cases h
  | succ k ih =>
    intro x4 u h ls hl
    replace h : b_X12_times_259 F x1 x2 (l_X12_times_259 F x1 x2 k) x4 u = some out := h
    unfold b_X12_times_259 at h
    refine z_iload C (i := 4) (k := 3) hl dX12_times_259 rfl ?_
    refine z_aload_n C (i := 0) (k := 0) hl dX12_times_261 rfl rfl ?_
    refine z_geti C 50 24 fw_X12_156 sh_50 rfl dX12_times_262 ?_
    refine z_icmp_ge C 299 dX12_times_265 (by decide) (fun hc42 => ?_) (fun hc42 => ?_)
    · replace h := (if_pos hc42).symm.trans h
      obtain rfl := Option.some.inj h
      exact K _ (lv_sub hl [0, 1, 2, 3] rfl)
    · replace h := (if_neg hc42).symm.trans h
      refine z_aload_n C (i := 0) (k := 0) hl dX12_times_268 rfl rfl ?_
      refine z_getr C 50 31 71 fw_X12_72 sh_50 rfl dX12_times_269 ?_
      refine z_iload C (i := 4) (k := 3) hl dX12_times_272 rfl ?_
      obtain ⟨hi39, h⟩ := gd h
      refine z_iald C 71 10 sh_71 hi39 dX12_times_274 ?_
      refine z_iload_n C (i := 2) (k := 2) hl dX12_times_275 rfl rfl ?_
      refine z_icmp_eq C 293 dX12_times_276 (by decide) (fun hc41 => ?_) (fun hc41 => ?_)
      · replace h := (if_pos hc41).symm.trans h
        refine z_iinc C (i := 4) (k := 3) (x4 + (1 : Int32)) [(4, .int (x4 + (1 : Int32))), (0, .ref (ad 50)), (1, .int x1), (2, .int x2)] hl dX12_times_293 rfl rfl (by decide) rfl (fun ls hl => ?_)
        refine z_goto C 259 dX12_times_296 (by decide) ?_
        exact ih _ _ h _ (lv_sub hl [1, 2, 3, 0] rfl)
      · replace h := (if_neg hc41).symm.trans h
        refine z_aload_n C (i := 0) (k := 0) hl dX12_times_279 rfl rfl ?_
        refine z_getr C 50 30 70 fw_X12_69 sh_50 rfl dX12_times_280 ?_
        refine z_sipush C (201 : Int32) dX12_times_283 (by decide) ?_
        refine z_iload C (i := 4) (k := 3) hl dX12_times_286 rfl ?_
        refine z_imul C dX12_times_288 ?_
        refine z_iload_n C (i := 2) (k := 2) hl dX12_times_289 rfl rfl ?_
        refine z_iadd C dX12_times_290 ?_
        refine z_iconst C (-1 : Int32) dX12_times_291 (by decide) ?_
        obtain ⟨hi40, h⟩ := gd h
        refine z_iast C 70 2010 sh_70 hi40 dX12_times_292 ?_
        refine z_iinc C (i := 4) (k := 3) (x4 + (1 : Int32)) [(4, .int (x4 + (1 : Int32))), (0, .ref (ad 50)), (1, .int x1), (2, .int x2)] hl dX12_times_293 rfl rfl (by decide) rfl (fun ls hl => ?_)
        refine z_goto C 259 dX12_times_296 (by decide) ?_
        exact ih _ _ h _ (lv_sub hl [1, 2, 3, 0] rfl)
set_option maxRecDepth 20000 in
set_option maxHeartbeats 4000000 in
theorem zl_X12_times_23 {p : Program} {l : Launch} {e : Env} {s : State} {m : MethodId} {args : Array Value} {below : List Frame} {meth : Method} {c : Code} {D : va_G} {cA : Nat → ClassId} {ad : Nat → Nat} {Q : State → Prop} (C : Cx SH p s m args meth c cX12_times 11 none RX12 D cA ad (inAd ad)) (F : Nat) (x1 : Int32)  {out : Int32 × St}  (K : ∀ ls : Array Slot, lv_has ls 11 [(0, .ref (ad 50)), (1, .int x1), (2, .int out.1)] → Z SH p l e (rmD 1) s m args below meth c D cA ad (inAd ad) 0 0 Q out.2 305 ls []) : ∀ (k : Nat) (x2 : Int32) (u : St), l_X12_times_23 F x1 k x2 u = some out → ∀ ls : Array Slot, lv_has ls 11 [(0, .ref (ad 50)), (1, .int x1), (2, .int x2)] → Z SH p l e (rmD 1) s m args below meth c D cA ad (inAd ad) 0 0 Q u 23 ls [] := by
  intro k
  induction k with
  | zero => intro x2 u h; cases h
  | succ k ih =>
    intro x2 u h ls hl
    replace h : b_X12_times_23 F x1 (l_X12_times_23 F x1 k) x2 u = some out := h
    unfold b_X12_times_23 at h
    refine z_iload_n C (i := 2) (k := 2) hl dX12_times_23 rfl rfl ?_
    refine z_iload_n C (i := 1) (k := 1) hl dX12_times_24 rfl rfl ?_
    refine z_icmp_gt C 305 dX12_times_25 (by decide) (fun hc45 => ?_) (fun hc45 => ?_)
    · replace h := (if_pos hc45).symm.trans h
      obtain rfl := Option.some.inj h
      exact K _ (lv_sub hl [0, 1, 2] rfl)
    · replace h := (if_neg hc45).symm.trans h
      refine z_iconst C (1 : Int32) dX12_times_28 (by decide) ?_
      refine z_istore_n C (i := 3) [(3, .int (1 : Int32)), (0, .ref (ad 50)), (1, .int x1), (2, .int x2)] hl dX12_times_29 rfl (by decide) rfl (fun ls hl => ?_)
      obtain ⟨w37, hw38, h⟩ := bnd h
      refine zl_X12_times_30 C F x1 x2 (out := w37) (fun ls hl => ?_) F _ _ hw38 _ (lv_sub hl [1, 2, 3, 0] rfl)
      refine z_iconst C (0 : Int32) dX12_times_256 (by decide) ?_
      refine z_istore C (i := 4) [(4, .int (0 : Int32)), (0, .ref (ad 50)), (1, .int x1), (2, .int x2), (3, .int w37.1)] hl dX12_times_257 (by decide) rfl (fun ls hl => ?_)
      obtain ⟨w43, hw44, h⟩ := bnd h
      refine zl_X12_times_259 C F x1 x2 (out := w43) (fun ls hl => ?_) F _ _ hw44 _ (lv_sub hl [1, 2, 3, 0] rfl)
      refine z_iinc C (i := 2) (k := 2) (x2 + (1 : Int32)) [(2, .int (x2 + (1 : Int32))), (0, .ref (ad 50)), (1, .int x1), (4, .int w43.1)] hl dX12_times_299 rfl rfl (by decide) rfl (fun ls hl => ?_)
      refine z_goto C 23 dX12_times_302 (by decide) ?_
      exact ih _ _ h _ (lv_sub hl [1, 2, 0] rfl)
set_option maxRecDepth 20000 in
set_option maxHeartbeats 4000000 in
theorem m_X12_times (F : Nat) (x1 : Int32) (u : St) (u' : St)  (h : f_X12_times F x1 u = some u') : Mt yX12_times cX12_times 11 none 1 (fun ad => [.ref (ad 50), .int x1]) u (fun _ => none) u' := by
  refine Mt.of (by decide) (fun ad => Nat.le_of_ble_eq_true rfl) ?_
  intro p l e s m args below meth c D cA ad ls C hl
  have hl : lv_has ls 11 [(0, .ref (ad 50)), (1, .int x1)] := hl
  unfold f_X12_times at h
  refine z_iconst C (0 : Int32) dX12_times_0 (by decide) ?_
  refine z_istore_n C (i := 2) [(2, .int (0 : Int32)), (0, .ref (ad 50)), (1, .int x1)] hl dX12_times_1 rfl (by decide) rfl (fun ls hl => ?_)
  obtain ⟨w3, hw4, h⟩ := bnd h
  refine zl_X12_times_2 C F x1 (out := w3) (fun ls hl => ?_) F _ _ hw4 _ (lv_sub hl [1, 2, 0] rfl)
  refine z_iconst C (1 : Int32) dX12_times_21 (by decide) ?_
  refine z_istore_n C (i := 2) [(2, .int (1 : Int32)), (0, .ref (ad 50)), (1, .int x1)] hl dX12_times_22 rfl (by decide) rfl (fun ls hl => ?_)
  obtain ⟨w46, hw47, h⟩ := bnd h
  refine zl_X12_times_23 C F x1 (out := w46) (fun ls hl => ?_) F _ _ hw47 _ (lv_sub hl [1, 2, 0] rfl)
  obtain rfl := Option.some.inj h
  exact z_vret C dX12_times_305
