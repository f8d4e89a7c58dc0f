set_option maxHeartbeats 400000 in
theorem n_X6_init_3 : MtG yX6_init cX6_init 2 1 0 0 (fun B => [.ref (adB B 3), .ref (adB B 1)]) (((SH.take 4).set 0 (0, 11, [5, 2, 2, 2, 2, 2, 2, 2, 2, 2, 2])).set 3 (0, 6, [2, 0])) u0 ((SH.take 4).set 0 (0, 11, [5, 2, 2, 2, 2, 2, 2, 2, 2, 2, 2])) u0 := by
  refine MtG.of (by decide) (fun B => Nat.le_of_ble_eq_true rfl) ?_
  intro p l e s m args below meth c D cA B ls C hAO hnm hsz hl
  have hsz : s.heap.size = B + 4 := hsz.trans (congrArg (fun z => B + z) (by decide +kernel))
  have hl : lv_has ls 2 [(0, .ref (adB B 3)), (1, .ref (adB B 1))] := hl
  refine z_aload_n (C.grow _) (i := 0) (k := 0) hl dX6_init_0 rfl rfl ?_
  refine z_obj (C.grow _) ol_X6 ob_inst ob_code hl.1 ⟨by decide, by decide⟩ dX6_init_1 ?_
  refine z_aload_n (C.grow _) (i := 0) (k := 0) hl dX6_init_4 rfl rfl ?_
  refine z_aload_n (C.grow _) (i := 1) (k := 1) hl dX6_init_5 rfl rfl ?_
  refine z_putF (C.grow _) hnm 3 0 1 pf_X6_9 (fc := [2, 0]) (by decide +kernel) (by decide) ((SH.take 4).set 0 (0, 11, [5, 2, 2, 2, 2, 2, 2, 2, 2, 2, 2])) (by decide +kernel) dX6_init_6 ?_
  exact z_vretG (C.grow _) (by decide) (by decide) dX6_init_9
theorem pf_X11_21 : Pf RX11 21 11 1 := ⟨RX11, TX11, 11, tyX11, rfl, by decide, lay_X11, LW_i 293 (by decide +kernel) rfl, tyX11_ok, nmX11, rfl, rfl, fun _ => ⟨rfl, rfl⟩⟩
theorem nl_X11_25 : Cond.classLink RX11 25 RX0 ∈ LW := LW_i 56 (by decide +kernel) rfl
theorem pf_X0_9 : Pf RX0 9 0 0 := ⟨RX0, TX0, 5, tyX0, rfl, by decide, lay_X0, LW_i 87 (by decide +kernel) rfl, tyX0_ok, nmX0, rfl, rfl, fun _ => ⟨rfl, rfl⟩⟩
theorem pf_X0_15 : Pf RX0 15 0 1 := ⟨RX0, TX0, 5, tyX0, rfl, by decide, lay_X0, LW_i 88 (by decide +kernel) rfl, tyX0_ok, nmX0, rfl, rfl, fun _ => ⟨rfl, rfl⟩⟩
theorem nl_X0_18 : Cond.classLink RX0 18 RX1 ∈ LW := LW_i 62 (by decide +kernel) rfl
theorem pf_X1_9 : Pf RX1 9 1 0 := ⟨RX1, TX1, 5, tyX1, rfl, by decide, lay_X1, LW_i 68 (by decide +kernel) rfl, tyX1_ok, nmX1, rfl, rfl, fun _ => ⟨rfl, rfl⟩⟩
theorem pf_X1_15 : Pf RX1 15 1 1 := ⟨RX1, TX1, 5, tyX1, rfl, by decide, lay_X1, LW_i 69 (by decide +kernel) rfl, tyX1_ok, nmX1, rfl, rfl, fun _ => ⟨rfl, rfl⟩⟩
theorem pf_X1_18 : Pf RX1 18 1 2 := ⟨RX1, TX1, 5, tyX1, rfl, by decide, lay_X1, LW_i 70 (by decide +kernel) rfl, tyX1_ok, nmX1, rfl, rfl, fun _ => ⟨rfl, rfl⟩⟩
set_option maxHeartbeats 400000 in
theorem n_X1_init_7 : MtG yX1_init cX1_init 1 1 3 432 (fun B => [.ref (adB B 7)]) ((((SH.take 8).set 0 (0, 11, [5, 7, 2, 2, 2, 2, 2, 2, 2, 2, 2])).set 4 (0, 0, [9, 10, 2, 0, 0])).set 7 (0, 1, [2, 2, 2, 0, 0])) u0 (((SH.take 11).set 0 (0, 11, [5, 7, 2, 2, 2, 2, 2, 2, 2, 2, 2])).set 4 (0, 0, [9, 10, 2, 0, 0])) u0 := by
  refine MtG.of (by decide) (fun B => Nat.le_of_ble_eq_true rfl) ?_
  intro p l e s m args below meth c D cA B ls C hAO hnm hsz hl
  have hsz : s.heap.size = B + 8 := hsz.trans (congrArg (fun z => B + z) (by decide +kernel))
  have hl : lv_has ls 1 [(0, .ref (adB B 7))] := hl
  refine z_aload_n (C.grow _) (i := 0) (k := 0) hl dX1_init_0 rfl rfl ?_
  refine z_obj (C.grow _) ol_X1 ob_inst ob_code hl.1 ⟨by decide, by decide⟩ dX1_init_1 ?_
  refine z_aload_n (C.grow _) (i := 0) (k := 0) hl dX1_init_4 rfl rfl ?_
  refine z_sipush (C.grow _) (144 : Int32) dX1_init_5 (by decide) ?_
  refine z_new_int (C.grow _) ac_int 144 ((((SH.take 9).set 0 (0, 11, [5, 7, 2, 2, 2, 2, 2, 2, 2, 2, 2])).set 4 (0, 0, [9, 10, 2, 0, 0])).set 7 (0, 1, [2, 2, 2, 0, 0])) 8 (by decide +kernel) (funext fun _ => rfl) (by decide +kernel) (by decide +kernel) (by decide) (by decide) (by decide) (by omega) (Or.inl (by decide +kernel)) (by decide +kernel) dX1_init_8 ?_
  refine z_putF (C.grow _) hnm 7 0 8 pf_X1_9 (fc := [2, 2, 2, 0, 0]) (by decide +kernel) (by decide) ((((SH.take 9).set 0 (0, 11, [5, 7, 2, 2, 2, 2, 2, 2, 2, 2, 2])).set 4 (0, 0, [9, 10, 2, 0, 0])).set 7 (0, 1, [12, 2, 2, 0, 0])) (by decide +kernel) dX1_init_10 ?_
  refine z_aload_n (C.grow _) (i := 0) (k := 0) hl dX1_init_13 rfl rfl ?_
  refine z_sipush (C.grow _) (144 : Int32) dX1_init_14 (by decide) ?_
  refine z_new_int (C.grow _) ac_int 144 ((((SH.take 10).set 0 (0, 11, [5, 7, 2, 2, 2, 2, 2, 2, 2, 2, 2])).set 4 (0, 0, [9, 10, 2, 0, 0])).set 7 (0, 1, [12, 2, 2, 0, 0])) 9 (by decide +kernel) (funext fun _ => rfl) (by decide +kernel) (by decide +kernel) (by decide) (by decide) (by decide) (by omega) (Or.inl (by decide +kernel)) (by decide +kernel) dX1_init_17 ?_
  refine z_putF (C.grow _) hnm 7 1 9 pf_X1_15 (fc := [12, 2, 2, 0, 0]) (by decide +kernel) (by decide) ((((SH.take 10).set 0 (0, 11, [5, 7, 2, 2, 2, 2, 2, 2, 2, 2, 2])).set 4 (0, 0, [9, 10, 2, 0, 0])).set 7 (0, 1, [12, 13, 2, 0, 0])) (by decide +kernel) dX1_init_19 ?_
  refine z_aload_n (C.grow _) (i := 0) (k := 0) hl dX1_init_22 rfl rfl ?_
  refine z_sipush (C.grow _) (144 : Int32) dX1_init_23 (by decide) ?_
  refine z_new_int (C.grow _) ac_int 144 ((((SH.take 11).set 0 (0, 11, [5, 7, 2, 2, 2, 2, 2, 2, 2, 2, 2])).set 4 (0, 0, [9, 10, 2, 0, 0])).set 7 (0, 1, [12, 13, 2, 0, 0])) 10 (by decide +kernel) (funext fun _ => rfl) (by decide +kernel) (by decide +kernel) (by decide) (by decide) (by decide) (by omega) (Or.inl (by decide +kernel)) (by decide +kernel) dX1_init_26 ?_
  refine z_putF (C.grow _) hnm 7 2 10 pf_X1_18 (fc := [12, 13, 2, 0, 0]) (by decide +kernel) (by decide) (((SH.take 11).set 0 (0, 11, [5, 7, 2, 2, 2, 2, 2, 2, 2, 2, 2])).set 4 (0, 0, [9, 10, 2, 0, 0])) (by decide +kernel) dX1_init_28 ?_
  exact z_vretG (C.grow _) (by decide) (by decide) dX1_init_31
def u0_1 : St := wr u0 4 2 (nI 7)
def u0_2 : St := fil u0_1 5 4096 (-1)
set_option maxHeartbeats 400000 in
theorem n_X0_init_4 : MtG yX0_init cX0_init 1 2 6 4545 (fun B => [.ref (adB B 4)]) (((SH.take 5).set 0 (0, 11, [5, 7, 2, 2, 2, 2, 2, 2, 2, 2, 2])).set 4 (0, 0, [2, 2, 2, 0, 0])) u0 ((SH.take 11).set 0 (0, 11, [5, 7, 2, 2, 2, 2, 2, 2, 2, 2, 2])) u0_2 := by
  refine MtG.of (by decide) (fun B => Nat.le_of_ble_eq_true rfl) ?_
  intro p l e s m args below meth c D cA B ls C hAO hnm hsz hl
  have hsz : s.heap.size = B + 5 := hsz.trans (congrArg (fun z => B + z) (by decide +kernel))
  have hl : lv_has ls 1 [(0, .ref (adB B 4))] := hl
  refine z_aload_n (C.grow _) (i := 0) (k := 0) hl dX0_init_0 rfl rfl ?_
  refine z_obj (C.grow _) ol_X0 ob_inst ob_code hl.1 ⟨by decide, by decide⟩ dX0_init_1 ?_
  refine z_aload_n (C.grow _) (i := 0) (k := 0) hl dX0_init_4 rfl rfl ?_
  refine z_sipush (C.grow _) (4096 : Int32) dX0_init_5 (by decide) ?_
  refine z_new_int (C.grow _) ac_int 4096 (((SH.take 6).set 0 (0, 11, [5, 7, 2, 2, 2, 2, 2, 2, 2, 2, 2])).set 4 (0, 0, [2, 2, 2, 0, 0])) 5 (by decide +kernel) (funext fun _ => rfl) (by decide +kernel) (by decide +kernel) (by decide) (by decide) (by decide) (by omega) (Or.inl (by decide +kernel)) (by decide +kernel) dX0_init_8 ?_
  refine z_putF (C.grow _) hnm 4 0 5 pf_X0_9 (fc := [2, 2, 2, 0, 0]) (by decide +kernel) (by decide) (((SH.take 6).set 0 (0, 11, [5, 7, 2, 2, 2, 2, 2, 2, 2, 2, 2])).set 4 (0, 0, [9, 2, 2, 0, 0])) (by decide +kernel) dX0_init_10 ?_
  refine z_aload_n (C.grow _) (i := 0) (k := 0) hl dX0_init_13 rfl rfl ?_
  refine z_bipush (C.grow _) (12 : Int32) dX0_init_14 (by decide) ?_
  refine z_new_int (C.grow _) ac_int 12 (((SH.take 7).set 0 (0, 11, [5, 7, 2, 2, 2, 2, 2, 2, 2, 2, 2])).set 4 (0, 0, [9, 2, 2, 0, 0])) 6 (by decide +kernel) (funext fun _ => rfl) (by decide +kernel) (by decide +kernel) (by decide) (by decide) (by decide) (by omega) (Or.inl (by decide +kernel)) (by decide +kernel) dX0_init_16 ?_
  refine z_putF (C.grow _) hnm 4 1 6 pf_X0_15 (fc := [9, 2, 2, 0, 0]) (by decide +kernel) (by decide) (((SH.take 7).set 0 (0, 11, [5, 7, 2, 2, 2, 2, 2, 2, 2, 2, 2])).set 4 (0, 0, [9, 10, 2, 0, 0])) (by decide +kernel) dX0_init_18 ?_
  refine z_aload_n (C.grow _) (i := 0) (k := 0) hl dX0_init_21 rfl rfl ?_
  refine z_new (C.grow _) 1 (fc := [2, 2, 2, 0, 0]) ((((SH.take 8).set 0 (0, 11, [5, 7, 2, 2, 2, 2, 2, 2, 2, 2, 2])).set 4 (0, 0, [9, 10, 2, 0, 0])).set 7 (0, 1, [2, 2, 2, 0, 0])) tyX1 rfl lay_X1 tyX1_ok nl_X0_18 ni_X1 nz_X1 (by decide +kernel) (by decide +kernel) 7 (by decide +kernel) (funext fun _ => rfl) (funext fun _ => rfl) (by decide) (by decide) (by omega) (Or.inl (by decide +kernel)) (by decide +kernel) dX0_init_22 ?_
  refine z_dup (C.grow _) dX0_init_25 rfl ?_
  refine z_callIN (C.grow _) hAO [] [.ref (adB B 7), .ref (adB B 4)] n_X1_init_7 cw_X1_init im_X1_init rfl mn_X0_20 rfl rfl rfl hl.1 (Nat.le_of_ble_eq_true rfl) ⟨by decide, by decide⟩ ⟨by decide, by decide⟩ 8 (by decide +kernel) (by omega) (Or.inl (by decide +kernel)) dX0_init_26 ?_
  refine z_putD (C.grow _) 4 2 7 (by decide) pw_X0_21 (fc := [9, 10, 2, 0, 0]) (by decide +kernel) (by decide) ((SH.take 11).set 0 (0, 11, [5, 7, 2, 2, 2, 2, 2, 2, 2, 2, 2])) (by decide +kernel) dX0_init_29 ?_
  refine z_aload_n (C.grow _) (i := 0) (k := 0) hl dX0_init_32 rfl rfl ?_
  refine z_getr (C.grow _) 4 0 5 fw_X0_9 (fc := [9, 10, 3, 0, 0]) (by decide +kernel) rfl dX0_init_33 ?_
  refine z_iconst (C.grow _) (-1 : Int32) dX0_init_36 (by decide) ?_
  refine z_callSG (C.grow _) hAO [.ref (adB B 5), .int (-1)] [] (n_fill ((SH.take 11).set 0 (0, 11, [5, 7, 2, 2, 2, 2, 2, 2, 2, 2, 2])) 5 4096 (-1) u0_1 (by decide) (by decide +kernel)) cw_J7_fill_53178 sw_J7_fill_53178 ml_X0_25 rfl rfl rfl hl.1 (Nat.le_of_ble_eq_true rfl) ⟨by decide, by decide⟩ ⟨by decide, by decide⟩ 11 (by decide +kernel) (by omega) (Or.inl (by decide +kernel)) dX0_init_37 ?_
  exact z_vretG (C.grow _) (by decide) (by decide) dX0_init_40
theorem pf_X11_28 : Pf RX11 28 11 2 := ⟨RX11, TX11, 11, tyX11, rfl, by decide, lay_X11, LW_i 294 (by decide +kernel) rfl, tyX11_ok, nmX11, rfl, rfl, fun _ => ⟨rfl, rfl⟩⟩
theorem nl_X11_32 : Cond.classLink RX11 32 RX10 ∈ LW := LW_i 103 (by decide +kernel) rfl
theorem pf_X10_9 : Pf RX10 9 10 1 := ⟨RX10, TX10, 8, tyX10, rfl, by decide, lay_X10, LW_i 110 (by decide +kernel) rfl, tyX10_ok, nmX10, rfl, rfl, fun _ => ⟨rfl, rfl⟩⟩
theorem pf_X10_15 : Pf RX10 15 10 2 := ⟨RX10, TX10, 8, tyX10, rfl, by decide, lay_X10, LW_i 111 (by decide +kernel) rfl, tyX10_ok, nmX10, rfl, rfl, fun _ => ⟨rfl, rfl⟩⟩
theorem pf_X10_18 : Pf RX10 18 10 3 := ⟨RX10, TX10, 8, tyX10, rfl, by decide, lay_X10, LW_i 112 (by decide +kernel) rfl, tyX10_ok, nmX10, rfl, rfl, fun _ => ⟨rfl, rfl⟩⟩
theorem pf_X10_21 : Pf RX10 21 10 4 := ⟨RX10, TX10, 8, tyX10, rfl, by decide, lay_X10, LW_i 113 (by decide +kernel) rfl, tyX10_ok, nmX10, rfl, rfl, fun _ => ⟨rfl, rfl⟩⟩
theorem pf_X10_24 : Pf RX10 24 10 0 := ⟨RX10, TX10, 8, tyX10, rfl, by decide, lay_X10, LW_i 109 (by decide +kernel) rfl, tyX10_ok, nmX10, rfl, rfl, fun _ => ⟨rfl, rfl⟩⟩
set_option maxHeartbeats 400000 in
theorem n_X10_init_11 : MtG yX10_init cX10_init 2 1 4 16384 (fun B => [.ref (adB B 11), .ref (adB B 4)]) (((SH.take 12).set 0 (0, 11, [5, 7, 8, 2, 2, 2, 2, 2, 2, 2, 2])).set 11 (0, 10, [2, 2, 2, 2, 2, 0, 0, 0])) u0_2 ((SH.take 16).set 0 (0, 11, [5, 7, 8, 2, 2, 2, 2, 2, 2, 2, 2])) u0_2 := by
  refine MtG.of (by decide) (fun B => Nat.le_of_ble_eq_true rfl) ?_
  intro p l e s m args below meth c D cA B ls C hAO hnm hsz hl
  have hsz : s.heap.size = B + 12 := hsz.trans (congrArg (fun z => B + z) (by decide +kernel))
  have hl : lv_has ls 2 [(0, .ref (adB B 11)), (1, .ref (adB B 4))] := hl
  refine z_aload_n (C.grow _) (i := 0) (k := 0) hl dX10_init_0 rfl rfl ?_
  refine z_obj (C.grow _) ol_X10 ob_inst ob_code hl.1 ⟨by decide, by decide⟩ dX10_init_1 ?_
  refine z_aload_n (C.grow _) (i := 0) (k := 0) hl dX10_init_4 rfl rfl ?_
  refine z_sipush (C.grow _) (4096 : Int32) dX10_init_5 (by decide) ?_
  refine z_new_int (C.grow _) ac_int 4096 (((SH.take 13).set 0 (0, 11, [5, 7, 8, 2, 2, 2, 2, 2, 2, 2, 2])).set 11 (0, 10, [2, 2, 2, 2, 2, 0, 0, 0])) 12 (by decide +kernel) (funext fun _ => rfl) (by decide +kernel) (by decide +kernel) (by decide) (by decide) (by decide) (by omega) (Or.inl (by decide +kernel)) (by decide +kernel) dX10_init_8 ?_
  refine z_putF (C.grow _) hnm 11 1 12 pf_X10_9 (fc := [2, 2, 2, 2, 2, 0, 0, 0]) (by decide +kernel) (by decide) (((SH.take 13).set 0 (0, 11, [5, 7, 8, 2, 2, 2, 2, 2, 2, 2, 2])).set 11 (0, 10, [2, 16, 2, 2, 2, 0, 0, 0])) (by decide +kernel) dX10_init_10 ?_
  refine z_aload_n (C.grow _) (i := 0) (k := 0) hl dX10_init_13 rfl rfl ?_
  refine z_sipush (C.grow _) (4096 : Int32) dX10_init_14 (by decide) ?_
  refine z_new_int (C.grow _) ac_int 4096 (((SH.take 14).set 0 (0, 11, [5, 7, 8, 2, 2, 2, 2, 2, 2, 2, 2])).set 11 (0, 10, [2, 16, 2, 2, 2, 0, 0, 0])) 13 (by decide +kernel) (funext fun _ => rfl) (by decide +kernel) (by decide +kernel) (by decide) (by decide) (by decide) (by omega) (Or.inl (by decide +kernel)) (by decide +kernel) dX10_init_17 ?_
  refine z_putF (C.grow _) hnm 11 2 13 pf_X10_15 (fc := [2, 16, 2, 2, 2, 0, 0, 0]) (by decide +kernel) (by decide) (((SH.take 14).set 0 (0, 11, [5, 7, 8, 2, 2, 2, 2, 2, 2, 2, 2])).set 11 (0, 10, [2, 16, 17, 2, 2, 0, 0, 0])) (by decide +kernel) dX10_init_19 ?_
  refine z_aload_n (C.grow _) (i := 0) (k := 0) hl dX10_init_22 rfl rfl ?_
  refine z_sipush (C.grow _) (4096 : Int32) dX10_init_23 (by decide) ?_
  refine z_new_int (C.grow _) ac_int 4096 (((SH.take 15).set 0 (0, 11, [5, 7, 8, 2, 2, 2, 2, 2, 2, 2, 2])).set 11 (0, 10, [2, 16, 17, 2, 2, 0, 0, 0])) 14 (by decide +kernel) (funext fun _ => rfl) (by decide +kernel) (by decide +kernel) (by decide) (by decide) (by decide) (by omega) (Or.inl (by decide +kernel)) (by decide +kernel) dX10_init_26 ?_
  refine z_putF (C.grow _) hnm 11 3 14 pf_X10_18 (fc := [2, 16, 17, 2, 2, 0, 0, 0]) (by decide +kernel) (by decide) (((SH.take 15).set 0 (0, 11, [5, 7, 8, 2, 2, 2, 2, 2, 2, 2, 2])).set 11 (0, 10, [2, 16, 17, 18, 2, 0, 0, 0])) (by decide +kernel) dX10_init_28 ?_
  refine z_aload_n (C.grow _) (i := 0) (k := 0) hl dX10_init_31 rfl rfl ?_
  refine z_sipush (C.grow _) (4096 : Int32) dX10_init_32 (by decide) ?_
  refine z_new_int (C.grow _) ac_int 4096 (((SH.take 16).set 0 (0, 11, [5, 7, 8, 2, 2, 2, 2, 2, 2, 2, 2])).set 11 (0, 10, [2, 16, 17, 18, 2, 0, 0, 0])) 15 (by decide +kernel) (funext fun _ => rfl) (by decide +kernel) (by decide +kernel) (by decide) (by decide) (by decide) (by omega) (Or.inl (by decide +kernel)) (by decide +kernel) dX10_init_35 ?_
  refine z_putF (C.grow _) hnm 11 4 15 pf_X10_21 (fc := [2, 16, 17, 18, 2, 0, 0, 0]) (by decide +kernel) (by decide) (((SH.take 16).set 0 (0, 11, [5, 7, 8, 2, 2, 2, 2, 2, 2, 2, 2])).set 11 (0, 10, [2, 16, 17, 18, 19, 0, 0, 0])) (by decide +kernel) dX10_init_37 ?_
  refine z_aload_n (C.grow _) (i := 0) (k := 0) hl dX10_init_40 rfl rfl ?_
  refine z_aload_n (C.grow _) (i := 1) (k := 1) hl dX10_init_41 rfl rfl ?_
  refine z_putF (C.grow _) hnm 11 0 4 pf_X10_24 (fc := [2, 16, 17, 18, 19, 0, 0, 0]) (by decide +kernel) (by decide) ((SH.take 16).set 0 (0, 11, [5, 7, 8, 2, 2, 2, 2, 2, 2, 2, 2])) (by decide +kernel) dX10_init_42 ?_
  exact z_vretG (C.grow _) (by decide) (by decide) dX10_init_45
theorem pf_X11_37 : Pf RX11 37 11 3 := ⟨RX11, TX11, 11, tyX11, rfl, by decide, lay_X11, LW_i 295 (by decide +kernel) rfl, tyX11_ok, nmX11, rfl, rfl, fun _ => ⟨rfl, rfl⟩⟩
theorem nl_X11_41 : Cond.classLink RX11 41 RX2 ∈ LW := LW_i 134 (by decide +kernel) rfl
theorem pf_X2_9 : Pf RX2 9 2 2 := ⟨RX2, TX2, 5, tyX2, rfl, by decide, lay_X2, LW_i 142 (by decide +kernel) rfl, tyX2_ok, nmX2, rfl, rfl, fun _ => ⟨rfl, rfl⟩⟩
theorem pf_X2_15 : Pf RX2 15 2 0 := ⟨RX2, TX2, 5, tyX2, rfl, by decide, lay_X2, LW_i 140 (by decide +kernel) rfl, tyX2_ok, nmX2, rfl, rfl, fun _ => ⟨rfl, rfl⟩⟩
theorem pf_X2_19 : Pf RX2 19 2 1 := ⟨RX2, TX2, 5, tyX2, rfl, by decide, lay_X2, LW_i 141 (by decide +kernel) rfl, tyX2_ok, nmX2, rfl, rfl, fun _ => ⟨rfl, rfl⟩⟩
set_option maxHeartbeats 400000 in
theorem n_X2_init_16 : MtG yX2_init cX2_init 3 1 1 4096 (fun B => [.ref (adB B 16), .ref (adB B 4), .ref (adB B 11)]) (((SH.take 17).set 0 (0, 11, [5, 7, 8, 15, 2, 2, 2, 2, 2, 2, 2])).set 16 (0, 2, [2, 2, 2, 0, 0])) u0_2 ((SH.take 18).set 0 (0, 11, [5, 7, 8, 15, 2, 2, 2, 2, 2, 2, 2])) u0_2 := by
  refine MtG.of (by decide) (fun B => Nat.le_of_ble_eq_true rfl) ?_
  intro p l e s m args below meth c D cA B ls C hAO hnm hsz hl
  have hsz : s.heap.size = B + 17 := hsz.trans (congrArg (fun z => B + z) (by decide +kernel))
  have hl : lv_has ls 3 [(0, .ref (adB B 16)), (1, .ref (adB B 4)), (2, .ref (adB B 11))] := hl
  refine z_aload_n (C.grow _) (i := 0) (k := 0) hl dX2_init_0 rfl rfl ?_
  refine z_obj (C.grow _) ol_X2 ob_inst ob_code hl.1 ⟨by decide, by decide⟩ dX2_init_1 ?_
  refine z_aload_n (C.grow _) (i := 0) (k := 0) hl dX2_init_4 rfl rfl ?_
  refine z_sipush (C.grow _) (4096 : Int32) dX2_init_5 (by decide) ?_
  refine z_new_int (C.grow _) ac_int 4096 (((SH.take 18).set 0 (0, 11, [5, 7, 8, 15, 2, 2, 2, 2, 2, 2, 2])).set 16 (0, 2, [2, 2, 2, 0, 0])) 17 (by decide +kernel) (funext fun _ => rfl) (by decide +kernel) (by decide +kernel) (by decide) (by decide) (by decide) (by omega) (Or.inl (by decide +kernel)) (by decide +kernel) dX2_init_8 ?_
  refine z_putF (C.grow _) hnm 16 2 17 pf_X2_9 (fc := [2, 2, 2, 0, 0]) (by decide +kernel) (by decide) (((SH.take 18).set 0 (0, 11, [5, 7, 8, 15, 2, 2, 2, 2, 2, 2, 2])).set 16 (0, 2, [2, 2, 21, 0, 0])) (by decide +kernel) dX2_init_10 ?_
  refine z_aload_n (C.grow _) (i := 0) (k := 0) hl dX2_init_13 rfl rfl ?_
  refine z_aload_n (C.grow _) (i := 1) (k := 1) hl dX2_init_14 rfl rfl ?_
  refine z_putF (C.grow _) hnm 16 0 4 pf_X2_15 (fc := [2, 2, 21, 0, 0]) (by decide +kernel) (by decide) (((SH.take 18).set 0 (0, 11, [5, 7, 8, 15, 2, 2, 2, 2, 2, 2, 2])).set 16 (0, 2, [8, 2, 21, 0, 0])) (by decide +kernel) dX2_init_15 ?_
  refine z_aload_n (C.grow _) (i := 0) (k := 0) hl dX2_init_18 rfl rfl ?_
  refine z_aload_n (C.grow _) (i := 2) (k := 2) hl dX2_init_19 rfl rfl ?_
  refine z_putF (C.grow _) hnm 16 1 11 pf_X2_19 (fc := [8, 2, 21, 0, 0]) (by decide +kernel) (by decide) ((SH.take 18).set 0 (0, 11, [5, 7, 8, 15, 2, 2, 2, 2, 2, 2, 2])) (by decide +kernel) dX2_init_20 ?_
  exact z_vretG (C.grow _) (by decide) (by decide) dX2_init_23
theorem pf_X11_46 : Pf RX11 46 11 4 := ⟨RX11, TX11, 11, tyX11, rfl, by decide, lay_X11, LW_i 296 (by decide +kernel) rfl, tyX11_ok, nmX11, rfl, rfl, fun _ => ⟨rfl, rfl⟩⟩
theorem nl_X11_50 : Cond.classLink RX11 50 RX3 ∈ LW := LW_i 156 (by decide +kernel) rfl
theorem pf_X3_9 : Pf RX3 9 3 2 := ⟨RX3, TX3, 7, tyX3, rfl, by decide, lay_X3, LW_i 164 (by decide +kernel) rfl, tyX3_ok, nmX3, rfl, rfl, fun _ => ⟨rfl, rfl⟩⟩
theorem pf_X3_15 : Pf RX3 15 3 3 := ⟨RX3, TX3, 7, tyX3, rfl, by decide, lay_X3, LW_i 165 (by decide +kernel) rfl, tyX3_ok, nmX3, rfl, rfl, fun _ => ⟨rfl, rfl⟩⟩
theorem pf_X3_19 : Pf RX3 19 3 0 := ⟨RX3, TX3, 7, tyX3, rfl, by decide, lay_X3, LW_i 162 (by decide +kernel) rfl, tyX3_ok, nmX3, rfl, rfl, fun _ => ⟨rfl, rfl⟩⟩
theorem pf_X3_23 : Pf RX3 23 3 1 := ⟨RX3, TX3, 7, tyX3, rfl, by decide, lay_X3, LW_i 163 (by decide +kernel) rfl, tyX3_ok, nmX3, rfl, rfl, fun _ => ⟨rfl, rfl⟩⟩
set_option maxHeartbeats 400000 in
theorem n_X3_init_18 : MtG yX3_init cX3_init 3 1 2 8192 (fun B => [.ref (adB B 18), .ref (adB B 4), .ref (adB B 11)]) (((SH.take 19).set 0 (0, 11, [5, 7, 8, 15, 20, 2, 2, 2, 2, 2, 2])).set 18 (0, 3, [2, 2, 2, 2, 0, 0, 0])) u0_2 ((SH.take 21).set 0 (0, 11, [5, 7, 8, 15, 20, 2, 2, 2, 2, 2, 2])) u0_2 := by
  refine MtG.of (by decide) (fun B => Nat.le_of_ble_eq_true rfl) ?_
  intro p l e s m args below meth c D cA B ls C hAO hnm hsz hl
  have hsz : s.heap.size = B + 19 := hsz.trans (congrArg (fun z => B + z) (by decide +kernel))
  have hl : lv_has ls 3 [(0, .ref (adB B 18)), (1, .ref (adB B 4)), (2, .ref (adB B 11))] := hl
  refine z_aload_n (C.grow _) (i := 0) (k := 0) hl dX3_init_0 rfl rfl ?_
  refine z_obj (C.grow _) ol_X3 ob_inst ob_code hl.1 ⟨by decide, by decide⟩ dX3_init_1 ?_
  refine z_aload_n (C.grow _) (i := 0) (k := 0) hl dX3_init_4 rfl rfl ?_
  refine z_sipush (C.grow _) (4096 : Int32) dX3_init_5 (by decide) ?_
  refine z_new_boolean (C.grow _) ac_boolean 4096 (((SH.take 20).set 0 (0, 11, [5, 7, 8, 15, 20, 2, 2, 2, 2, 2, 2])).set 18 (0, 3, [2, 2, 2, 2, 0, 0, 0])) 19 (by decide +kernel) (funext fun _ => rfl) (by decide +kernel) (by decide +kernel) (by decide) (by decide) (by decide) (by omega) (Or.inl (by decide +kernel)) (by decide +kernel) dX3_init_8 ?_
  refine z_putF (C.grow _) hnm 18 2 19 pf_X3_9 (fc := [2, 2, 2, 2, 0, 0, 0]) (by decide +kernel) (by decide) (((SH.take 20).set 0 (0, 11, [5, 7, 8, 15, 20, 2, 2, 2, 2, 2, 2])).set 18 (0, 3, [2, 2, 23, 2, 0, 0, 0])) (by decide +kernel) dX3_init_10 ?_
  refine z_aload_n (C.grow _) (i := 0) (k := 0) hl dX3_init_13 rfl rfl ?_
  refine z_sipush (C.grow _) (4096 : Int32) dX3_init_14 (by decide) ?_
  refine z_new_int (C.grow _) ac_int 4096 (((SH.take 21).set 0 (0, 11, [5, 7, 8, 15, 20, 2, 2, 2, 2, 2, 2])).set 18 (0, 3, [2, 2, 23, 2, 0, 0, 0])) 20 (by decide +kernel) (funext fun _ => rfl) (by decide +kernel) (by decide +kernel) (by decide) (by decide) (by decide) (by omega) (Or.inl (by decide +kernel)) (by decide +kernel) dX3_init_17 ?_
  refine z_putF (C.grow _) hnm 18 3 20 pf_X3_15 (fc := [2, 2, 23, 2, 0, 0, 0]) (by decide +kernel) (by decide) (((SH.take 21).set 0 (0, 11, [5, 7, 8, 15, 20, 2, 2, 2, 2, 2, 2])).set 18 (0, 3, [2, 2, 23, 24, 0, 0, 0])) (by decide +kernel) dX3_init_19 ?_
  refine z_aload_n (C.grow _) (i := 0) (k := 0) hl dX3_init_22 rfl rfl ?_
  refine z_aload_n (C.grow _) (i := 1) (k := 1) hl dX3_init_23 rfl rfl ?_
  refine z_putF (C.grow _) hnm 18 0 4 pf_X3_19 (fc := [2, 2, 23, 24, 0, 0, 0]) (by decide +kernel) (by decide) (((SH.take 21).set 0 (0, 11, [5, 7, 8, 15, 20, 2, 2, 2, 2, 2, 2])).set 18 (0, 3, [8, 2, 23, 24, 0, 0, 0])) (by decide +kernel) dX3_init_24 ?_
  refine z_aload_n (C.grow _) (i := 0) (k := 0) hl dX3_init_27 rfl rfl ?_
  refine z_aload_n (C.grow _) (i := 2) (k := 2) hl dX3_init_28 rfl rfl ?_
  refine z_putF (C.grow _) hnm 18 1 11 pf_X3_23 (fc := [8, 2, 23, 24, 0, 0, 0]) (by decide +kernel) (by decide) ((SH.take 21).set 0 (0, 11, [5, 7, 8, 15, 20, 2, 2, 2, 2, 2, 2])) (by decide +kernel) dX3_init_29 ?_
  exact z_vretG (C.grow _) (by decide) (by decide) dX3_init_32
theorem pf_X11_53 : Pf RX11 53 11 5 := ⟨RX11, TX11, 11, tyX11, rfl, by decide, lay_X11, LW_i 297 (by decide +kernel) rfl, tyX11_ok, nmX11, rfl, rfl, fun _ => ⟨rfl, rfl⟩⟩
theorem pf_X11_57 : Pf RX11 57 11 6 := ⟨RX11, TX11, 11, tyX11, rfl, by decide, lay_X11, LW_i 298 (by decide +kernel) rfl, tyX11_ok, nmX11, rfl, rfl, fun _ => ⟨rfl, rfl⟩⟩
theorem nl_X11_61 : Cond.classLink RX11 61 RX4 ∈ LW := LW_i 185 (by decide +kernel) rfl
theorem pf_X4_9 : Pf RX4 9 4 0 := ⟨RX4, TX4, 6, tyX4, rfl, by decide, lay_X4, LW_i 191 (by decide +kernel) rfl, tyX4_ok, nmX4, rfl, rfl, fun _ => ⟨rfl, rfl⟩⟩
theorem pf_X4_15 : Pf RX4 15 4 1 := ⟨RX4, TX4, 6, tyX4, rfl, by decide, lay_X4, LW_i 192 (by decide +kernel) rfl, tyX4_ok, nmX4, rfl, rfl, fun _ => ⟨rfl, rfl⟩⟩
theorem pf_X4_18 : Pf RX4 18 4 2 := ⟨RX4, TX4, 6, tyX4, rfl, by decide, lay_X4, LW_i 193 (by decide +kernel) rfl, tyX4_ok, nmX4, rfl, rfl, fun _ => ⟨rfl, rfl⟩⟩
theorem pf_X4_21 : Pf RX4 21 4 3 := ⟨RX4, TX4, 6, tyX4, rfl, by decide, lay_X4, LW_i 194 (by decide +kernel) rfl, tyX4_ok, nmX4, rfl, rfl, fun _ => ⟨rfl, rfl⟩⟩
set_option maxHeartbeats 400000 in
theorem n_X4_init_22 : MtG yX4_init cX4_init 1 1 4 70 (fun B => [.ref (adB B 22)]) (((SH.take 23).set 0 (0, 11, [5, 7, 8, 15, 20, 22, 25, 2, 2, 2, 2])).set 22 (0, 4, [2, 2, 2, 2, 0, 0])) u0_2 ((SH.take 27).set 0 (0, 11, [5, 7, 8, 15, 20, 22, 25, 2, 2, 2, 2])) u0_2 := by
  refine MtG.of (by decide) (fun B => Nat.le_of_ble_eq_true rfl) ?_
  intro p l e s m args below meth c D cA B ls C hAO hnm hsz hl
  have hsz : s.heap.size = B + 23 := hsz.trans (congrArg (fun z => B + z) (by decide +kernel))
  have hl : lv_has ls 1 [(0, .ref (adB B 22))] := hl
  refine z_aload_n (C.grow _) (i := 0) (k := 0) hl dX4_init_0 rfl rfl ?_
  refine z_obj (C.grow _) ol_X4 ob_inst ob_code hl.1 ⟨by decide, by decide⟩ dX4_init_1 ?_
  refine z_aload_n (C.grow _) (i := 0) (k := 0) hl dX4_init_4 rfl rfl ?_
  refine z_bipush (C.grow _) (10 : Int32) dX4_init_5 (by decide) ?_
  refine z_new_int (C.grow _) ac_int 10 (((SH.take 24).set 0 (0, 11, [5, 7, 8, 15, 20, 22, 25, 2, 2, 2, 2])).set 22 (0, 4, [2, 2, 2, 2, 0, 0])) 23 (by decide +kernel) (funext fun _ => rfl) (by decide +kernel) (by decide +kernel) (by decide) (by decide) (by decide) (by omega) (Or.inl (by decide +kernel)) (by decide +kernel) dX4_init_7 ?_
  refine z_putF (C.grow _) hnm 22 0 23 pf_X4_9 (fc := [2, 2, 2, 2, 0, 0]) (by decide +kernel) (by decide) (((SH.take 24).set 0 (0, 11, [5, 7, 8, 15, 20, 22, 25, 2, 2, 2, 2])).set 22 (0, 4, [27, 2, 2, 2, 0, 0])) (by decide +kernel) dX4_init_9 ?_
  refine z_aload_n (C.grow _) (i := 0) (k := 0) hl dX4_init_12 rfl rfl ?_
  refine z_bipush (C.grow _) (20 : Int32) dX4_init_13 (by decide) ?_
  refine z_new_int (C.grow _) ac_int 20 (((SH.take 25).set 0 (0, 11, [5, 7, 8, 15, 20, 22, 25, 2, 2, 2, 2])).set 22 (0, 4, [27, 2, 2, 2, 0, 0])) 24 (by decide +kernel) (funext fun _ => rfl) (by decide +kernel) (by decide +kernel) (by decide) (by decide) (by decide) (by omega) (Or.inl (by decide +kernel)) (by decide +kernel) dX4_init_15 ?_
  refine z_putF (C.grow _) hnm 22 1 24 pf_X4_15 (fc := [27, 2, 2, 2, 0, 0]) (by decide +kernel) (by decide) (((SH.take 25).set 0 (0, 11, [5, 7, 8, 15, 20, 22, 25, 2, 2, 2, 2])).set 22 (0, 4, [27, 28, 2, 2, 0, 0])) (by decide +kernel) dX4_init_17 ?_
  refine z_aload_n (C.grow _) (i := 0) (k := 0) hl dX4_init_20 rfl rfl ?_
  refine z_bipush (C.grow _) (20 : Int32) dX4_init_21 (by decide) ?_
  refine z_new_int (C.grow _) ac_int 20 (((SH.take 26).set 0 (0, 11, [5, 7, 8, 15, 20, 22, 25, 2, 2, 2, 2])).set 22 (0, 4, [27, 28, 2, 2, 0, 0])) 25 (by decide +kernel) (funext fun _ => rfl) (by decide +kernel) (by decide +kernel) (by decide) (by decide) (by decide) (by omega) (Or.inl (by decide +kernel)) (by decide +kernel) dX4_init_23 ?_
  refine z_putF (C.grow _) hnm 22 2 25 pf_X4_18 (fc := [27, 28, 2, 2, 0, 0]) (by decide +kernel) (by decide) (((SH.take 26).set 0 (0, 11, [5, 7, 8, 15, 20, 22, 25, 2, 2, 2, 2])).set 22 (0, 4, [27, 28, 29, 2, 0, 0])) (by decide +kernel) dX4_init_25 ?_
  refine z_aload_n (C.grow _) (i := 0) (k := 0) hl dX4_init_28 rfl rfl ?_
  refine z_bipush (C.grow _) (20 : Int32) dX4_init_29 (by decide) ?_
  refine z_new_int (C.grow _) ac_int 20 (((SH.take 27).set 0 (0, 11, [5, 7, 8, 15, 20, 22, 25, 2, 2, 2, 2])).set 22 (0, 4, [27, 28, 29, 2, 0, 0])) 26 (by decide +kernel) (funext fun _ => rfl) (by decide +kernel) (by decide +kernel) (by decide) (by decide) (by decide) (by omega) (Or.inl (by decide +kernel)) (by decide +kernel) dX4_init_31 ?_
  refine z_putF (C.grow _) hnm 22 3 26 pf_X4_21 (fc := [27, 28, 29, 2, 0, 0]) (by decide +kernel) (by decide) ((SH.take 27).set 0 (0, 11, [5, 7, 8, 15, 20, 22, 25, 2, 2, 2, 2])) (by decide +kernel) dX4_init_33 ?_
  exact z_vretG (C.grow _) (by decide) (by decide) dX4_init_36
theorem pf_X11_64 : Pf RX11 64 11 7 := ⟨RX11, TX11, 11, tyX11, rfl, by decide, lay_X11, LW_i 299 (by decide +kernel) rfl, tyX11_ok, nmX11, rfl, rfl, fun _ => ⟨rfl, rfl⟩⟩
theorem nl_X11_68 : Cond.classLink RX11 68 RX9 ∈ LW := LW_i 210 (by decide +kernel) rfl
theorem nl_X9_9 : Cond.classLink RX9 9 RX5 ∈ LW := LW_i 216 (by decide +kernel) rfl
def u0_3 : St := wr u0_2 28 1 (1)
set_option maxHeartbeats 400000 in
theorem n_X5_init_28 : MtG yX5_init cX5_init 1 1 0 0 (fun B => [.ref (adB B 28)]) (((SH.take 29).set 0 (0, 11, [5, 7, 8, 15, 20, 22, 25, 26, 2, 2, 2])).set 27 (0, 9, [2, 2, 2, 2, 2, 2, 0, 0, 0, 0, 0])) u0_2 (((SH.take 29).set 0 (0, 11, [5, 7, 8, 15, 20, 22, 25, 26, 2, 2, 2])).set 27 (0, 9, [2, 2, 2, 2, 2, 2, 0, 0, 0, 0, 0])) u0_3 := by
  refine MtG.of (by decide) (fun B => Nat.le_of_ble_eq_true rfl) ?_
  intro p l e s m args below meth c D cA B ls C hAO hnm hsz hl
  have hsz : s.heap.size = B + 29 := hsz.trans (congrArg (fun z => B + z) (by decide +kernel))
  have hl : lv_has ls 1 [(0, .ref (adB B 28))] := hl
  refine z_aload_n (C.grow _) (i := 0) (k := 0) hl dX5_init_0 rfl rfl ?_
  refine z_obj (C.grow _) ol_X5 ob_inst ob_code hl.1 ⟨by decide, by decide⟩ dX5_init_1 ?_
  refine z_aload_n (C.grow _) (i := 0) (k := 0) hl dX5_init_4 rfl rfl ?_
  refine z_iconst (C.grow _) (1 : Int32) dX5_init_5 (by decide) ?_
  refine z_puti (C.grow _) 28 1 pw_X5_9 (fc := [0, 0]) (by decide +kernel) rfl dX5_init_6 ?_
  exact z_vretG (C.grow _) (by decide) (by decide) dX5_init_9
theorem pf_X9_12 : Pf RX9 12 9 1 := ⟨RX9, TX9, 11, tyX9, rfl, by decide, lay_X9, LW_i 230 (by decide +kernel) rfl, tyX9_ok, nmX9, rfl, rfl, fun _ => ⟨rfl, rfl⟩⟩
def u0_4 : St := wr u0_3 29 1 (1)
set_option maxHeartbeats 400000 in
theorem n_X5_init_29 : MtG yX5_init cX5_init 1 1 0 0 (fun B => [.ref (adB B 29)]) (((SH.take 30).set 0 (0, 11, [5, 7, 8, 15, 20, 22, 25, 26, 2, 2, 2])).set 27 (0, 9, [2, 32, 2, 2, 2, 2, 0, 0, 0, 0, 0])) u0_3 (((SH.take 30).set 0 (0, 11, [5, 7, 8, 15, 20, 22, 25, 26, 2, 2, 2])).set 27 (0, 9, [2, 32, 2, 2, 2, 2, 0, 0, 0, 0, 0])) u0_4 := by
  refine MtG.of (by decide) (fun B => Nat.le_of_ble_eq_true rfl) ?_
  intro p l e s m args below meth c D cA B ls C hAO hnm hsz hl
  have hsz : s.heap.size = B + 30 := hsz.trans (congrArg (fun z => B + z) (by decide +kernel))
  have hl : lv_has ls 1 [(0, .ref (adB B 29))] := hl
  refine z_aload_n (C.grow _) (i := 0) (k := 0) hl dX5_init_0 rfl rfl ?_
  refine z_obj (C.grow _) ol_X5 ob_inst ob_code hl.1 ⟨by decide, by decide⟩ dX5_init_1 ?_
  refine z_aload_n (C.grow _) (i := 0) (k := 0) hl dX5_init_4 rfl rfl ?_
  refine z_iconst (C.grow _) (1 : Int32) dX5_init_5 (by decide) ?_
  refine z_puti (C.grow _) 29 1 pw_X5_9 (fc := [0, 0]) (by decide +kernel) rfl dX5_init_6 ?_
  exact z_vretG (C.grow _) (by decide) (by decide) dX5_init_9
theorem pf_X9_18 : Pf RX9 18 9 2 := ⟨RX9, TX9, 11, tyX9, rfl, by decide, lay_X9, LW_i 231 (by decide +kernel) rfl, tyX9_ok, nmX9, rfl, rfl, fun _ => ⟨rfl, rfl⟩⟩
def u0_5 : St := wr u0_4 30 1 (1)
set_option maxHeartbeats 400000 in
theorem n_X5_init_30 : MtG yX5_init cX5_init 1 1 0 0 (fun B => [.ref (adB B 30)]) (((SH.take 31).set 0 (0, 11, [5, 7, 8, 15, 20, 22, 25, 26, 2, 2, 2])).set 27 (0, 9, [2, 32, 33, 2, 2, 2, 0, 0, 0, 0, 0])) u0_4 (((SH.take 31).set 0 (0, 11, [5, 7, 8, 15, 20, 22, 25, 26, 2, 2, 2])).set 27 (0, 9, [2, 32, 33, 2, 2, 2, 0, 0, 0, 0, 0])) u0_5 := by
  refine MtG.of (by decide) (fun B => Nat.le_of_ble_eq_true rfl) ?_
  intro p l e s m args below meth c D cA B ls C hAO hnm hsz hl
  have hsz : s.heap.size = B + 31 := hsz.trans (congrArg (fun z => B + z) (by decide +kernel))
  have hl : lv_has ls 1 [(0, .ref (adB B 30))] := hl
  refine z_aload_n (C.grow _) (i := 0) (k := 0) hl dX5_init_0 rfl rfl ?_
  refine z_obj (C.grow _) ol_X5 ob_inst ob_code hl.1 ⟨by decide, by decide⟩ dX5_init_1 ?_
  refine z_aload_n (C.grow _) (i := 0) (k := 0) hl dX5_init_4 rfl rfl ?_
  refine z_iconst (C.grow _) (1 : Int32) dX5_init_5 (by decide) ?_
  refine z_puti (C.grow _) 30 1 pw_X5_9 (fc := [0, 0]) (by decide +kernel) rfl dX5_init_6 ?_
  exact z_vretG (C.grow _) (by decide) (by decide) dX5_init_9
theorem pf_X9_21 : Pf RX9 21 9 3 := ⟨RX9, TX9, 11, tyX9, rfl, by decide, lay_X9, LW_i 232 (by decide +kernel) rfl, tyX9_ok, nmX9, rfl, rfl, fun _ => ⟨rfl, rfl⟩⟩
theorem pf_X9_24 : Pf RX9 24 9 4 := ⟨RX9, TX9, 11, tyX9, rfl, by decide, lay_X9, LW_i 233 (by decide +kernel) rfl, tyX9_ok, nmX9, rfl, rfl, fun _ => ⟨rfl, rfl⟩⟩
theorem pf_X9_28 : Pf RX9 28 9 5 := ⟨RX9, TX9, 11, tyX9, rfl, by decide, lay_X9, LW_i 234 (by decide +kernel) rfl, tyX9_ok, nmX9, rfl, rfl, fun _ => ⟨rfl, rfl⟩⟩
def u0_6 : St := wr u0_5 27 10 (-1)
theorem pf_X9_35 : Pf RX9 35 9 0 := ⟨RX9, TX9, 11, tyX9, rfl, by decide, lay_X9, LW_i 229 (by decide +kernel) rfl, tyX9_ok, nmX9, rfl, rfl, fun _ => ⟨rfl, rfl⟩⟩
set_option maxHeartbeats 400000 in
theorem n_X9_init_27 : MtG yX9_init cX9_init 2 2 5 26 (fun B => [.ref (adB B 27), .ref (adB B 22)]) (((SH.take 28).set 0 (0, 11, [5, 7, 8, 15, 20, 22, 25, 26, 2, 2, 2])).set 27 (0, 9, [2, 2, 2, 2, 2, 2, 0, 0, 0, 0, 0])) u0_2 ((SH.take 33).set 0 (0, 11, [5, 7, 8, 15, 20, 22, 25, 26, 2, 2, 2])) u0_6 := by
  refine MtG.of (by decide) (fun B => Nat.le_of_ble_eq_true rfl) ?_
  intro p l e s m args below meth c D cA B ls C hAO hnm hsz hl
  have hsz : s.heap.size = B + 28 := hsz.trans (congrArg (fun z => B + z) (by decide +kernel))
  have hl : lv_has ls 2 [(0, .ref (adB B 27)), (1, .ref (adB B 22))] := hl
  refine z_aload_n (C.grow _) (i := 0) (k := 0) hl dX9_init_0 rfl rfl ?_
  refine z_obj (C.grow _) ol_X9 ob_inst ob_code hl.1 ⟨by decide, by decide⟩ dX9_init_1 ?_
  refine z_aload_n (C.grow _) (i := 0) (k := 0) hl dX9_init_4 rfl rfl ?_
  refine z_new (C.grow _) 5 (fc := [0, 0]) (((SH.take 29).set 0 (0, 11, [5, 7, 8, 15, 20, 22, 25, 26, 2, 2, 2])).set 27 (0, 9, [2, 2, 2, 2, 2, 2, 0, 0, 0, 0, 0])) tyX5 rfl lay_X5 tyX5_ok nl_X9_9 ni_X5 nz_X5 (by decide +kernel) (by decide +kernel) 28 (by decide +kernel) (funext fun _ => rfl) (funext fun _ => rfl) (by decide) (by decide) (by omega) (Or.inl (by decide +kernel)) (by decide +kernel) dX9_init_5 ?_
  refine z_dup (C.grow _) dX9_init_8 rfl ?_
  refine z_callIN (C.grow _) hAO [] [.ref (adB B 28), .ref (adB B 27)] n_X5_init_28 cw_X5_init im_X5_init rfl mn_X9_11 rfl rfl rfl hl.1 (Nat.le_of_ble_eq_true rfl) ⟨by decide, by decide⟩ ⟨by decide, by decide⟩ 29 (by decide +kernel) (by omega) (Or.inl (by decide +kernel)) dX9_init_9 ?_
  refine z_putF (C.grow _) hnm 27 1 28 pf_X9_12 (fc := [2, 2, 2, 2, 2, 2, 0, 0, 0, 0, 0]) (by decide +kernel) (by decide) (((SH.take 29).set 0 (0, 11, [5, 7, 8, 15, 20, 22, 25, 26, 2, 2, 2])).set 27 (0, 9, [2, 32, 2, 2, 2, 2, 0, 0, 0, 0, 0])) (by decide +kernel) dX9_init_12 ?_
  refine z_aload_n (C.grow _) (i := 0) (k := 0) hl dX9_init_15 rfl rfl ?_
  refine z_new (C.grow _) 5 (fc := [0, 0]) (((SH.take 30).set 0 (0, 11, [5, 7, 8, 15, 20, 22, 25, 26, 2, 2, 2])).set 27 (0, 9, [2, 32, 2, 2, 2, 2, 0, 0, 0, 0, 0])) tyX5 rfl lay_X5 tyX5_ok nl_X9_9 ni_X5 nz_X5 (by decide +kernel) (by decide +kernel) 29 (by decide +kernel) (funext fun _ => rfl) (funext fun _ => rfl) (by decide) (by decide) (by omega) (Or.inl (by decide +kernel)) (by decide +kernel) dX9_init_16 ?_
  refine z_dup (C.grow _) dX9_init_19 rfl ?_
  refine z_callIN (C.grow _) hAO [] [.ref (adB B 29), .ref (adB B 27)] n_X5_init_29 cw_X5_init im_X5_init rfl mn_X9_11 rfl rfl rfl hl.1 (Nat.le_of_ble_eq_true rfl) ⟨by decide, by decide⟩ ⟨by decide, by decide⟩ 30 (by decide +kernel) (by omega) (Or.inl (by decide +kernel)) dX9_init_20 ?_
  refine z_putF (C.grow _) hnm 27 2 29 pf_X9_18 (fc := [2, 32, 2, 2, 2, 2, 0, 0, 0, 0, 0]) (by decide +kernel) (by decide) (((SH.take 30).set 0 (0, 11, [5, 7, 8, 15, 20, 22, 25, 26, 2, 2, 2])).set 27 (0, 9, [2, 32, 33, 2, 2, 2, 0, 0, 0, 0, 0])) (by decide +kernel) dX9_init_23 ?_
  refine z_aload_n (C.grow _) (i := 0) (k := 0) hl dX9_init_26 rfl rfl ?_
  refine z_new (C.grow _) 5 (fc := [0, 0]) (((SH.take 31).set 0 (0, 11, [5, 7, 8, 15, 20, 22, 25, 26, 2, 2, 2])).set 27 (0, 9, [2, 32, 33, 2, 2, 2, 0, 0, 0, 0, 0])) tyX5 rfl lay_X5 tyX5_ok nl_X9_9 ni_X5 nz_X5 (by decide +kernel) (by decide +kernel) 30 (by decide +kernel) (funext fun _ => rfl) (funext fun _ => rfl) (by decide) (by decide) (by omega) (Or.inl (by decide +kernel)) (by decide +kernel) dX9_init_27 ?_
  refine z_dup (C.grow _) dX9_init_30 rfl ?_
  refine z_callIN (C.grow _) hAO [] [.ref (adB B 30), .ref (adB B 27)] n_X5_init_30 cw_X5_init im_X5_init rfl mn_X9_11 rfl rfl rfl hl.1 (Nat.le_of_ble_eq_true rfl) ⟨by decide, by decide⟩ ⟨by decide, by decide⟩ 31 (by decide +kernel) (by omega) (Or.inl (by decide +kernel)) dX9_init_31 ?_
  refine z_putF (C.grow _) hnm 27 3 30 pf_X9_21 (fc := [2, 32, 33, 2, 2, 2, 0, 0, 0, 0, 0]) (by decide +kernel) (by decide) (((SH.take 31).set 0 (0, 11, [5, 7, 8, 15, 20, 22, 25, 26, 2, 2, 2])).set 27 (0, 9, [2, 32, 33, 34, 2, 2, 0, 0, 0, 0, 0])) (by decide +kernel) dX9_init_34 ?_
  refine z_aload_n (C.grow _) (i := 0) (k := 0) hl dX9_init_37 rfl rfl ?_
  refine z_bipush (C.grow _) (10 : Int32) dX9_init_38 (by decide) ?_
  refine z_new_int (C.grow _) ac_int 10 (((SH.take 32).set 0 (0, 11, [5, 7, 8, 15, 20, 22, 25, 26, 2, 2, 2])).set 27 (0, 9, [2, 32, 33, 34, 2, 2, 0, 0, 0, 0, 0])) 31 (by decide +kernel) (funext fun _ => rfl) (by decide +kernel) (by decide +kernel) (by decide) (by decide) (by decide) (by omega) (Or.inl (by decide +kernel)) (by decide +kernel) dX9_init_40 ?_
  refine z_putF (C.grow _) hnm 27 4 31 pf_X9_24 (fc := [2, 32, 33, 34, 2, 2, 0, 0, 0, 0, 0]) (by decide +kernel) (by decide) (((SH.take 32).set 0 (0, 11, [5, 7, 8, 15, 20, 22, 25, 26, 2, 2, 2])).set 27 (0, 9, [2, 32, 33, 34, 35, 2, 0, 0, 0, 0, 0])) (by decide +kernel) dX9_init_42 ?_
  refine z_aload_n (C.grow _) (i := 0) (k := 0) hl dX9_init_45 rfl rfl ?_
  refine z_bipush (C.grow _) (10 : Int32) dX9_init_46 (by decide) ?_
  refine z_new_int (C.grow _) ac_int 10 (((SH.take 33).set 0 (0, 11, [5, 7, 8, 15, 20, 22, 25, 26, 2, 2, 2])).set 27 (0, 9, [2, 32, 33, 34, 35, 2, 0, 0, 0, 0, 0])) 32 (by decide +kernel) (funext fun _ => rfl) (by decide +kernel) (by decide +kernel) (by decide) (by decide) (by decide) (by omega) (Or.inl (by decide +kernel)) (by decide +kernel) dX9_init_48 ?_
  refine z_putF (C.grow _) hnm 27 5 32 pf_X9_28 (fc := [2, 32, 33, 34, 35, 2, 0, 0, 0, 0, 0]) (by decide +kernel) (by decide) (((SH.take 33).set 0 (0, 11, [5, 7, 8, 15, 20, 22, 25, 26, 2, 2, 2])).set 27 (0, 9, [2, 32, 33, 34, 35, 36, 0, 0, 0, 0, 0])) (by decide +kernel) dX9_init_50 ?_
  refine z_aload_n (C.grow _) (i := 0) (k := 0) hl dX9_init_53 rfl rfl ?_
  refine z_iconst (C.grow _) (-1 : Int32) dX9_init_54 (by decide) ?_
  refine z_puti (C.grow _) 27 10 pw_X9_31 (fc := [2, 32, 33, 34, 35, 36, 0, 0, 0, 0, 0]) (by decide +kernel) rfl dX9_init_55 ?_
  refine z_aload_n (C.grow _) (i := 0) (k := 0) hl dX9_init_58 rfl rfl ?_
  refine z_aload_n (C.grow _) (i := 1) (k := 1) hl dX9_init_59 rfl rfl ?_
  refine z_putF (C.grow _) hnm 27 0 22 pf_X9_35 (fc := [2, 32, 33, 34, 35, 36, 0, 0, 0, 0, 0]) (by decide +kernel) (by decide) ((SH.take 33).set 0 (0, 11, [5, 7, 8, 15, 20, 22, 25, 26, 2, 2, 2])) (by decide +kernel) dX9_init_60 ?_
  exact z_vretG (C.grow _) (by decide) (by decide) dX9_init_63
theorem pf_X11_73 : Pf RX11 73 11 8 := ⟨RX11, TX11, 11, tyX11, rfl, by decide, lay_X11, LW_i 300 (by decide +kernel) rfl, tyX11_ok, nmX11, rfl, rfl, fun _ => ⟨rfl, rfl⟩⟩
theorem nl_X11_77 : Cond.classLink RX11 77 RX8 ∈ LW := LW_i 263 (by decide +kernel) rfl
theorem mz_u0_6 : ∀ i, i < 10 → u0_6.1 (34 + 1 + i) = fun _ => 0 := fun i hi => match i, hi with
  | 0, _ => funext fun _ => rfl
  | 1, _ => funext fun _ => rfl
  | 2, _ => funext fun _ => rfl
  | 3, _ => funext fun _ => rfl
  | 4, _ => funext fun _ => rfl
  | 5, _ => funext fun _ => rfl
  | 6, _ => funext fun _ => rfl
  | 7, _ => funext fun _ => rfl
  | 8, _ => funext fun _ => rfl
  | 9, _ => funext fun _ => rfl
  | i + 10, h => absurd h (by omega)
theorem pf_X8_11 : Pf RX8 11 8 1 := ⟨RX8, TX8, 6, tyX8, rfl, by decide, lay_X8, LW_i 272 (by decide +kernel) rfl, tyX8_ok, nmX8, rfl, rfl, fun _ => ⟨rfl, rfl⟩⟩
theorem pf_X8_16 : Pf RX8 16 8 2 := ⟨RX8, TX8, 6, tyX8, rfl, by decide, lay_X8, LW_i 273 (by decide +kernel) rfl, tyX8_ok, nmX8, rfl, rfl, fun _ => ⟨rfl, rfl⟩⟩
theorem pf_X8_20 : Pf RX8 20 8 0 := ⟨RX8, TX8, 6, tyX8, rfl, by decide, lay_X8, LW_i 271 (by decide +kernel) rfl, tyX8_ok, nmX8, rfl, rfl, fun _ => ⟨rfl, rfl⟩⟩
set_option maxHeartbeats 400000 in
theorem n_X8_init_33 : MtG yX8_init cX8_init 2 1 12 2040 (fun B => [.ref (adB B 33), .ref (adB B 22)]) (((SH.take 34).set 0 (0, 11, [5, 7, 8, 15, 20, 22, 25, 26, 31, 2, 2])).set 33 (0, 8, [2, 2, 2, 0, 0, 0])) u0_6 ((SH.take 46).set 0 (0, 11, [5, 7, 8, 15, 20, 22, 25, 26, 31, 2, 2])) u0_6 := by
  refine MtG.of (by decide) (fun B => Nat.le_of_ble_eq_true rfl) ?_
  intro p l e s m args below meth c D cA B ls C hAO hnm hsz hl
  have hsz : s.heap.size = B + 34 := hsz.trans (congrArg (fun z => B + z) (by decide +kernel))
  have hl : lv_has ls 2 [(0, .ref (adB B 33)), (1, .ref (adB B 22))] := hl
  refine z_aload_n (C.grow _) (i := 0) (k := 0) hl dX8_init_0 rfl rfl ?_
  refine z_obj (C.grow _) ol_X8 ob_inst ob_code hl.1 ⟨by decide, by decide⟩ dX8_init_1 ?_
  refine z_aload_n (C.grow _) (i := 0) (k := 0) hl dX8_init_4 rfl rfl ?_
  refine z_bipush (C.grow _) (10 : Int32) dX8_init_5 (by decide) ?_
  refine z_sipush (C.grow _) (201 : Int32) dX8_init_7 (by decide) ?_
  refine z_mna (C.grow _) hAO cl_grid ac_int (N := 10) (M := 201) (((SH.take 45).set 0 (0, 11, [5, 7, 8, 15, 20, 22, 25, 26, 31, 2, 2])).set 33 (0, 8, [2, 2, 2, 0, 0, 0])) 34 (by decide +kernel) mz_u0_6 (by decide) (by decide) (by decide) (by decide) (by decide) (by decide) (by decide) (by decide) (by omega) (Or.inl (by decide +kernel)) (by decide +kernel) dX8_init_10 ?_
  refine z_putF (C.grow _) hnm 33 1 34 pf_X8_11 (fc := [2, 2, 2, 0, 0, 0]) (by decide +kernel) (by decide) (((SH.take 45).set 0 (0, 11, [5, 7, 8, 15, 20, 22, 25, 26, 31, 2, 2])).set 33 (0, 8, [2, 38, 2, 0, 0, 0])) (by decide +kernel) dX8_init_14 ?_
  refine z_aload_n (C.grow _) (i := 0) (k := 0) hl dX8_init_17 rfl rfl ?_
  refine z_bipush (C.grow _) (20 : Int32) dX8_init_18 (by decide) ?_
  refine z_new_int (C.grow _) ac_int 20 (((SH.take 46).set 0 (0, 11, [5, 7, 8, 15, 20, 22, 25, 26, 31, 2, 2])).set 33 (0, 8, [2, 38, 2, 0, 0, 0])) 45 (by decide +kernel) (funext fun _ => rfl) (by decide +kernel) (by decide +kernel) (by decide) (by decide) (by decide) (by omega) (Or.inl (by decide +kernel)) (by decide +kernel) dX8_init_20 ?_
  refine z_putF (C.grow _) hnm 33 2 45 pf_X8_16 (fc := [2, 38, 2, 0, 0, 0]) (by decide +kernel) (by decide) (((SH.take 46).set 0 (0, 11, [5, 7, 8, 15, 20, 22, 25, 26, 31, 2, 2])).set 33 (0, 8, [2, 38, 49, 0, 0, 0])) (by decide +kernel) dX8_init_22 ?_
  refine z_aload_n (C.grow _) (i := 0) (k := 0) hl dX8_init_25 rfl rfl ?_
  refine z_aload_n (C.grow _) (i := 1) (k := 1) hl dX8_init_26 rfl rfl ?_
  refine z_putF (C.grow _) hnm 33 0 22 pf_X8_20 (fc := [2, 38, 49, 0, 0, 0]) (by decide +kernel) (by decide) ((SH.take 46).set 0 (0, 11, [5, 7, 8, 15, 20, 22, 25, 26, 31, 2, 2])) (by decide +kernel) dX8_init_27 ?_
  exact z_vretG (C.grow _) (by decide) (by decide) dX8_init_30
theorem pf_X11_80 : Pf RX11 80 11 9 := ⟨RX11, TX11, 11, tyX11, rfl, by decide, lay_X11, LW_i 301 (by decide +kernel) rfl, tyX11_ok, nmX11, rfl, rfl, fun _ => ⟨rfl, rfl⟩⟩
theorem nl_X11_84 : Cond.classLink RX11 84 RX1 ∈ LW := LW_i 290 (by decide +kernel) rfl
set_option maxHeartbeats 400000 in
theorem n_X1_init_46 : MtG yX1_init cX1_init 1 1 3 432 (fun B => [.ref (adB B 46)]) (((SH.take 47).set 0 (0, 11, [5, 7, 8, 15, 20, 22, 25, 26, 31, 37, 2])).set 46 (0, 1, [2, 2, 2, 0, 0])) u0_6 ((SH.take 50).set 0 (0, 11, [5, 7, 8, 15, 20, 22, 25, 26, 31, 37, 2])) u0_6 := by
  refine MtG.of (by decide) (fun B => Nat.le_of_ble_eq_true rfl) ?_
  intro p l e s m args below meth c D cA B ls C hAO hnm hsz hl
  have hsz : s.heap.size = B + 47 := hsz.trans (congrArg (fun z => B + z) (by decide +kernel))
  have hl : lv_has ls 1 [(0, .ref (adB B 46))] := hl
  refine z_aload_n (C.grow _) (i := 0) (k := 0) hl dX1_init_0 rfl rfl ?_
  refine z_obj (C.grow _) ol_X1 ob_inst ob_code hl.1 ⟨by decide, by decide⟩ dX1_init_1 ?_
  refine z_aload_n (C.grow _) (i := 0) (k := 0) hl dX1_init_4 rfl rfl ?_
  refine z_sipush (C.grow _) (144 : Int32) dX1_init_5 (by decide) ?_
  refine z_new_int (C.grow _) ac_int 144 (((SH.take 48).set 0 (0, 11, [5, 7, 8, 15, 20, 22, 25, 26, 31, 37, 2])).set 46 (0, 1, [2, 2, 2, 0, 0])) 47 (by decide +kernel) (funext fun _ => rfl) (by decide +kernel) (by decide +kernel) (by decide) (by decide) (by decide) (by omega) (Or.inl (by decide +kernel)) (by decide +kernel) dX1_init_8 ?_
  refine z_putF (C.grow _) hnm 46 0 47 pf_X1_9 (fc := [2, 2, 2, 0, 0]) (by decide +kernel) (by decide) (((SH.take 48).set 0 (0, 11, [5, 7, 8, 15, 20, 22, 25, 26, 31, 37, 2])).set 46 (0, 1, [51, 2, 2, 0, 0])) (by decide +kernel) dX1_init_10 ?_
  refine z_aload_n (C.grow _) (i := 0) (k := 0) hl dX1_init_13 rfl rfl ?_
  refine z_sipush (C.grow _) (144 : Int32) dX1_init_14 (by decide) ?_
  refine z_new_int (C.grow _) ac_int 144 (((SH.take 49).set 0 (0, 11, [5, 7, 8, 15, 20, 22, 25, 26, 31, 37, 2])).set 46 (0, 1, [51, 2, 2, 0, 0])) 48 (by decide +kernel) (funext fun _ => rfl) (by decide +kernel) (by decide +kernel) (by decide) (by decide) (by decide) (by omega) (Or.inl (by decide +kernel)) (by decide +kernel) dX1_init_17 ?_
  refine z_putF (C.grow _) hnm 46 1 48 pf_X1_15 (fc := [51, 2, 2, 0, 0]) (by decide +kernel) (by decide) (((SH.take 49).set 0 (0, 11, [5, 7, 8, 15, 20, 22, 25, 26, 31, 37, 2])).set 46 (0, 1, [51, 52, 2, 0, 0])) (by decide +kernel) dX1_init_19 ?_
  refine z_aload_n (C.grow _) (i := 0) (k := 0) hl dX1_init_22 rfl rfl ?_
  refine z_sipush (C.grow _) (144 : Int32) dX1_init_23 (by decide) ?_
  refine z_new_int (C.grow _) ac_int 144 (((SH.take 50).set 0 (0, 11, [5, 7, 8, 15, 20, 22, 25, 26, 31, 37, 2])).set 46 (0, 1, [51, 52, 2, 0, 0])) 49 (by decide +kernel) (funext fun _ => rfl) (by decide +kernel) (by decide +kernel) (by decide) (by decide) (by decide) (by omega) (Or.inl (by decide +kernel)) (by decide +kernel) dX1_init_26 ?_
  refine z_putF (C.grow _) hnm 46 2 49 pf_X1_18 (fc := [51, 52, 2, 0, 0]) (by decide +kernel) (by decide) ((SH.take 50).set 0 (0, 11, [5, 7, 8, 15, 20, 22, 25, 26, 31, 37, 2])) (by decide +kernel) dX1_init_28 ?_
  exact z_vretG (C.grow _) (by decide) (by decide) dX1_init_31
def u0_7 : St := wr u0_6 0 10 (nI 46)
set_option maxHeartbeats 400000 in
theorem n_X11_init_0 : MtG yX11_init cX11_init 1 3 49 36154 (fun B => [.ref (adB B 0)]) ((SH.take 1).set 0 (0, 11, [2, 2, 2, 2, 2, 2, 2, 2, 2, 2, 2])) u0 (SH.take 50) u0_7 := by
  refine MtG.of (by decide) (fun B => Nat.le_of_ble_eq_true rfl) ?_
  intro p l e s m args below meth c D cA B ls C hAO hnm hsz hl
  have hsz : s.heap.size = B + 1 := hsz.trans (congrArg (fun z => B + z) (by decide +kernel))
  have hl : lv_has ls 1 [(0, .ref (adB B 0))] := hl
  refine z_aload_n (C.grow _) (i := 0) (k := 0) hl dX11_init_0 rfl rfl ?_
  refine z_obj (C.grow _) ol_X11 ob_inst ob_code hl.1 ⟨by decide, by decide⟩ dX11_init_1 ?_
  refine z_aload_n (C.grow _) (i := 0) (k := 0) hl dX11_init_4 rfl rfl ?_
  refine z_new (C.grow _) 7 (fc := [2, 0]) (((SH.take 2).set 0 (0, 11, [2, 2, 2, 2, 2, 2, 2, 2, 2, 2, 2])).set 1 (0, 7, [2, 0])) tyX7 rfl lay_X7 tyX7_ok nl_X11_9 ni_X7 nz_X7 (by decide +kernel) (by decide +kernel) 1 (by decide +kernel) (funext fun _ => rfl) (funext fun _ => rfl) (by decide) (by decide) (by omega) (Or.inl (by decide +kernel)) (by decide +kernel) dX11_init_5 ?_
  refine z_dup (C.grow _) dX11_init_8 rfl ?_
  refine z_callIN (C.grow _) hAO [] [.ref (adB B 1), .ref (adB B 0)] n_X7_init_1 cw_X7_init im_X7_init rfl mn_X11_11 rfl rfl rfl hl.1 (Nat.le_of_ble_eq_true rfl) ⟨by decide, by decide⟩ ⟨by decide, by decide⟩ 2 (by decide +kernel) (by omega) (Or.inl (by decide +kernel)) dX11_init_9 ?_
  refine z_putF (C.grow _) hnm 0 0 1 pf_X11_12 (fc := [2, 2, 2, 2, 2, 2, 2, 2, 2, 2, 2]) (by decide +kernel) (by decide) ((SH.take 3).set 0 (0, 11, [5, 2, 2, 2, 2, 2, 2, 2, 2, 2, 2])) (by decide +kernel) dX11_init_12 ?_
  refine z_aload_n (C.grow _) (i := 0) (k := 0) hl dX11_init_15 rfl rfl ?_
  refine z_new (C.grow _) 6 (fc := [2, 0]) (((SH.take 4).set 0 (0, 11, [5, 2, 2, 2, 2, 2, 2, 2, 2, 2, 2])).set 3 (0, 6, [2, 0])) tyX6 rfl lay_X6 tyX6_ok nl_X11_16 ni_X6 nz_X6 (by decide +kernel) (by decide +kernel) 3 (by decide +kernel) (funext fun _ => rfl) (funext fun _ => rfl) (by decide) (by decide) (by omega) (Or.inl (by decide +kernel)) (by decide +kernel) dX11_init_16 ?_
  refine z_dup (C.grow _) dX11_init_19 rfl ?_
  refine z_aload_n (C.grow _) (i := 0) (k := 0) hl dX11_init_20 rfl rfl ?_
  refine z_getr (C.grow _) 0 0 1 fw_X11_12 (fc := [5, 2, 2, 2, 2, 2, 2, 2, 2, 2, 2]) (by decide +kernel) rfl dX11_init_21 ?_
  refine z_callI (C.grow _) hAO [.ref (adB B 1)] [.ref (adB B 3), .ref (adB B 0)] n_X6_init_3 cw_X6_init im_X6_init rfl ml_X11_18 rfl rfl rfl hl.1 (Nat.le_of_ble_eq_true rfl) ⟨by decide, by decide⟩ ⟨by decide, by decide⟩ 4 (by decide +kernel) (by omega) (Or.inl (by decide +kernel)) dX11_init_24 ?_
  refine z_putF (C.grow _) hnm 0 1 3 pf_X11_21 (fc := [5, 2, 2, 2, 2, 2, 2, 2, 2, 2, 2]) (by decide +kernel) (by decide) ((SH.take 4).set 0 (0, 11, [5, 7, 2, 2, 2, 2, 2, 2, 2, 2, 2])) (by decide +kernel) dX11_init_27 ?_
  refine z_aload_n (C.grow _) (i := 0) (k := 0) hl dX11_init_30 rfl rfl ?_
  refine z_new (C.grow _) 0 (fc := [2, 2, 2, 0, 0]) (((SH.take 5).set 0 (0, 11, [5, 7, 2, 2, 2, 2, 2, 2, 2, 2, 2])).set 4 (0, 0, [2, 2, 2, 0, 0])) tyX0 rfl lay_X0 tyX0_ok nl_X11_25 ni_X0 nz_X0 (by decide +kernel) (by decide +kernel) 4 (by decide +kernel) (funext fun _ => rfl) (funext fun _ => rfl) (by decide) (by decide) (by omega) (Or.inl (by decide +kernel)) (by decide +kernel) dX11_init_31 ?_
  refine z_dup (C.grow _) dX11_init_34 rfl ?_
  refine z_callI (C.grow _) hAO [] [.ref (adB B 4), .ref (adB B 0)] n_X0_init_4 cw_X0_init im_X0_init rfl ml_X11_27 rfl rfl rfl hl.1 (Nat.le_of_ble_eq_true rfl) ⟨by decide, by decide⟩ ⟨by decide, by decide⟩ 5 (by decide +kernel) (by omega) (Or.inl (by decide +kernel)) dX11_init_35 ?_
  refine z_putF (C.grow _) hnm 0 2 4 pf_X11_28 (fc := [5, 7, 2, 2, 2, 2, 2, 2, 2, 2, 2]) (by decide +kernel) (by decide) ((SH.take 11).set 0 (0, 11, [5, 7, 8, 2, 2, 2, 2, 2, 2, 2, 2])) (by decide +kernel) dX11_init_38 ?_
  refine z_aload_n (C.grow _) (i := 0) (k := 0) hl dX11_init_41 rfl rfl ?_
  refine z_new (C.grow _) 10 (fc := [2, 2, 2, 2, 2, 0, 0, 0]) (((SH.take 12).set 0 (0, 11, [5, 7, 8, 2, 2, 2, 2, 2, 2, 2, 2])).set 11 (0, 10, [2, 2, 2, 2, 2, 0, 0, 0])) tyX10 rfl lay_X10 tyX10_ok nl_X11_32 ni_X10 nz_X10 (by decide +kernel) (by decide +kernel) 11 (by decide +kernel) (funext fun _ => rfl) (funext fun _ => rfl) (by decide) (by decide) (by omega) (Or.inl (by decide +kernel)) (by decide +kernel) dX11_init_42 ?_
  refine z_dup (C.grow _) dX11_init_45 rfl ?_
  refine z_aload_n (C.grow _) (i := 0) (k := 0) hl dX11_init_46 rfl rfl ?_
  refine z_getr (C.grow _) 0 2 4 fw_X11_28 (fc := [5, 7, 8, 2, 2, 2, 2, 2, 2, 2, 2]) (by decide +kernel) rfl dX11_init_47 ?_
  refine z_callI (C.grow _) hAO [.ref (adB B 4)] [.ref (adB B 11), .ref (adB B 0)] n_X10_init_11 cw_X10_init im_X10_init rfl ml_X11_34 rfl rfl rfl hl.1 (Nat.le_of_ble_eq_true rfl) ⟨by decide, by decide⟩ ⟨by decide, by decide⟩ 12 (by decide +kernel) (by omega) (Or.inl (by decide +kernel)) dX11_init_50 ?_
  refine z_putF (C.grow _) hnm 0 3 11 pf_X11_37 (fc := [5, 7, 8, 2, 2, 2, 2, 2, 2, 2, 2]) (by decide +kernel) (by decide) ((SH.take 16).set 0 (0, 11, [5, 7, 8, 15, 2, 2, 2, 2, 2, 2, 2])) (by decide +kernel) dX11_init_53 ?_
  refine z_aload_n (C.grow _) (i := 0) (k := 0) hl dX11_init_56 rfl rfl ?_
  refine z_new (C.grow _) 2 (fc := [2, 2, 2, 0, 0]) (((SH.take 17).set 0 (0, 11, [5, 7, 8, 15, 2, 2, 2, 2, 2, 2, 2])).set 16 (0, 2, [2, 2, 2, 0, 0])) tyX2 rfl lay_X2 tyX2_ok nl_X11_41 ni_X2 nz_X2 (by decide +kernel) (by decide +kernel) 16 (by decide +kernel) (funext fun _ => rfl) (funext fun _ => rfl) (by decide) (by decide) (by omega) (Or.inl (by decide +kernel)) (by decide +kernel) dX11_init_57 ?_
  refine z_dup (C.grow _) dX11_init_60 rfl ?_
  refine z_aload_n (C.grow _) (i := 0) (k := 0) hl dX11_init_61 rfl rfl ?_
  refine z_getr (C.grow _) 0 2 4 fw_X11_28 (fc := [5, 7, 8, 15, 2, 2, 2, 2, 2, 2, 2]) (by decide +kernel) rfl dX11_init_62 ?_
  refine z_aload_n (C.grow _) (i := 0) (k := 0) hl dX11_init_65 rfl rfl ?_
  refine z_getr (C.grow _) 0 3 11 fw_X11_37 (fc := [5, 7, 8, 15, 2, 2, 2, 2, 2, 2, 2]) (by decide +kernel) rfl dX11_init_66 ?_
  refine z_callI (C.grow _) hAO [.ref (adB B 4), .ref (adB B 11)] [.ref (adB B 16), .ref (adB B 0)] n_X2_init_16 cw_X2_init im_X2_init rfl ml_X11_43 rfl rfl rfl hl.1 (Nat.le_of_ble_eq_true rfl) ⟨by decide, by decide⟩ ⟨by decide, by decide⟩ 17 (by decide +kernel) (by omega) (Or.inl (by decide +kernel)) dX11_init_69 ?_
  refine z_putF (C.grow _) hnm 0 4 16 pf_X11_46 (fc := [5, 7, 8, 15, 2, 2, 2, 2, 2, 2, 2]) (by decide +kernel) (by decide) ((SH.take 18).set 0 (0, 11, [5, 7, 8, 15, 20, 2, 2, 2, 2, 2, 2])) (by decide +kernel) dX11_init_72 ?_
  refine z_aload_n (C.grow _) (i := 0) (k := 0) hl dX11_init_75 rfl rfl ?_
  refine z_new (C.grow _) 3 (fc := [2, 2, 2, 2, 0, 0, 0]) (((SH.take 19).set 0 (0, 11, [5, 7, 8, 15, 20, 2, 2, 2, 2, 2, 2])).set 18 (0, 3, [2, 2, 2, 2, 0, 0, 0])) tyX3 rfl lay_X3 tyX3_ok nl_X11_50 ni_X3 nz_X3 (by decide +kernel) (by decide +kernel) 18 (by decide +kernel) (funext fun _ => rfl) (funext fun _ => rfl) (by decide) (by decide) (by omega) (Or.inl (by decide +kernel)) (by decide +kernel) dX11_init_76 ?_
  refine z_dup (C.grow _) dX11_init_79 rfl ?_
  refine z_aload_n (C.grow _) (i := 0) (k := 0) hl dX11_init_80 rfl rfl ?_
  refine z_getr (C.grow _) 0 2 4 fw_X11_28 (fc := [5, 7, 8, 15, 20, 2, 2, 2, 2, 2, 2]) (by decide +kernel) rfl dX11_init_81 ?_
  refine z_aload_n (C.grow _) (i := 0) (k := 0) hl dX11_init_84 rfl rfl ?_
  refine z_getr (C.grow _) 0 3 11 fw_X11_37 (fc := [5, 7, 8, 15, 20, 2, 2, 2, 2, 2, 2]) (by decide +kernel) rfl dX11_init_85 ?_
  refine z_callI (C.grow _) hAO [.ref (adB B 4), .ref (adB B 11)] [.ref (adB B 18), .ref (adB B 0)] n_X3_init_18 cw_X3_init im_X3_init rfl ml_X11_52 rfl rfl rfl hl.1 (Nat.le_of_ble_eq_true rfl) ⟨by decide, by decide⟩ ⟨by decide, by decide⟩ 19 (by decide +kernel) (by omega) (Or.inl (by decide +kernel)) dX11_init_88 ?_
  refine z_putF (C.grow _) hnm 0 5 18 pf_X11_53 (fc := [5, 7, 8, 15, 20, 2, 2, 2, 2, 2, 2]) (by decide +kernel) (by decide) ((SH.take 21).set 0 (0, 11, [5, 7, 8, 15, 20, 22, 2, 2, 2, 2, 2])) (by decide +kernel) dX11_init_91 ?_
  refine z_aload_n (C.grow _) (i := 0) (k := 0) hl dX11_init_94 rfl rfl ?_
  refine z_bipush (C.grow _) (12 : Int32) dX11_init_95 (by decide) ?_
  refine z_new_int (C.grow _) ac_int 12 ((SH.take 22).set 0 (0, 11, [5, 7, 8, 15, 20, 22, 2, 2, 2, 2, 2])) 21 (by decide +kernel) (funext fun _ => rfl) (by decide +kernel) (by decide +kernel) (by decide) (by decide) (by decide) (by omega) (Or.inl (by decide +kernel)) (by decide +kernel) dX11_init_97 ?_
  refine z_putF (C.grow _) hnm 0 6 21 pf_X11_57 (fc := [5, 7, 8, 15, 20, 22, 2, 2, 2, 2, 2]) (by decide +kernel) (by decide) ((SH.take 22).set 0 (0, 11, [5, 7, 8, 15, 20, 22, 25, 2, 2, 2, 2])) (by decide +kernel) dX11_init_99 ?_
  refine z_aload_n (C.grow _) (i := 0) (k := 0) hl dX11_init_102 rfl rfl ?_
  refine z_new (C.grow _) 4 (fc := [2, 2, 2, 2, 0, 0]) (((SH.take 23).set 0 (0, 11, [5, 7, 8, 15, 20, 22, 25, 2, 2, 2, 2])).set 22 (0, 4, [2, 2, 2, 2, 0, 0])) tyX4 rfl lay_X4 tyX4_ok nl_X11_61 ni_X4 nz_X4 (by decide +kernel) (by decide +kernel) 22 (by decide +kernel) (funext fun _ => rfl) (funext fun _ => rfl) (by decide) (by decide) (by omega) (Or.inl (by decide +kernel)) (by decide +kernel) dX11_init_103 ?_
  refine z_dup (C.grow _) dX11_init_106 rfl ?_
  refine z_callIN (C.grow _) hAO [] [.ref (adB B 22), .ref (adB B 0)] n_X4_init_22 cw_X4_init im_X4_init rfl mn_X11_63 rfl rfl rfl hl.1 (Nat.le_of_ble_eq_true rfl) ⟨by decide, by decide⟩ ⟨by decide, by decide⟩ 23 (by decide +kernel) (by omega) (Or.inl (by decide +kernel)) dX11_init_107 ?_
  refine z_putF (C.grow _) hnm 0 7 22 pf_X11_64 (fc := [5, 7, 8, 15, 20, 22, 25, 2, 2, 2, 2]) (by decide +kernel) (by decide) ((SH.take 27).set 0 (0, 11, [5, 7, 8, 15, 20, 22, 25, 26, 2, 2, 2])) (by decide +kernel) dX11_init_110 ?_
  refine z_aload_n (C.grow _) (i := 0) (k := 0) hl dX11_init_113 rfl rfl ?_
  refine z_new (C.grow _) 9 (fc := [2, 2, 2, 2, 2, 2, 0, 0, 0, 0, 0]) (((SH.take 28).set 0 (0, 11, [5, 7, 8, 15, 20, 22, 25, 26, 2, 2, 2])).set 27 (0, 9, [2, 2, 2, 2, 2, 2, 0, 0, 0, 0, 0])) tyX9 rfl lay_X9 tyX9_ok nl_X11_68 ni_X9 nz_X9 (by decide +kernel) (by decide +kernel) 27 (by decide +kernel) (funext fun _ => rfl) (funext fun _ => rfl) (by decide) (by decide) (by omega) (Or.inl (by decide +kernel)) (by decide +kernel) dX11_init_114 ?_
  refine z_dup (C.grow _) dX11_init_117 rfl ?_
  refine z_aload_n (C.grow _) (i := 0) (k := 0) hl dX11_init_118 rfl rfl ?_
  refine z_getr (C.grow _) 0 7 22 fw_X11_64 (fc := [5, 7, 8, 15, 20, 22, 25, 26, 2, 2, 2]) (by decide +kernel) rfl dX11_init_119 ?_
  refine z_callI (C.grow _) hAO [.ref (adB B 22)] [.ref (adB B 27), .ref (adB B 0)] n_X9_init_27 cw_X9_init im_X9_init rfl ml_X11_70 rfl rfl rfl hl.1 (Nat.le_of_ble_eq_true rfl) ⟨by decide, by decide⟩ ⟨by decide, by decide⟩ 28 (by decide +kernel) (by omega) (Or.inl (by decide +kernel)) dX11_init_122 ?_
  refine z_putF (C.grow _) hnm 0 8 27 pf_X11_73 (fc := [5, 7, 8, 15, 20, 22, 25, 26, 2, 2, 2]) (by decide +kernel) (by decide) ((SH.take 33).set 0 (0, 11, [5, 7, 8, 15, 20, 22, 25, 26, 31, 2, 2])) (by decide +kernel) dX11_init_125 ?_
  refine z_aload_n (C.grow _) (i := 0) (k := 0) hl dX11_init_128 rfl rfl ?_
  refine z_new (C.grow _) 8 (fc := [2, 2, 2, 0, 0, 0]) (((SH.take 34).set 0 (0, 11, [5, 7, 8, 15, 20, 22, 25, 26, 31, 2, 2])).set 33 (0, 8, [2, 2, 2, 0, 0, 0])) tyX8 rfl lay_X8 tyX8_ok nl_X11_77 ni_X8 nz_X8 (by decide +kernel) (by decide +kernel) 33 (by decide +kernel) (funext fun _ => rfl) (funext fun _ => rfl) (by decide) (by decide) (by omega) (Or.inl (by decide +kernel)) (by decide +kernel) dX11_init_129 ?_
  refine z_dup (C.grow _) dX11_init_132 rfl ?_
  refine z_aload_n (C.grow _) (i := 0) (k := 0) hl dX11_init_133 rfl rfl ?_
  refine z_getr (C.grow _) 0 7 22 fw_X11_64 (fc := [5, 7, 8, 15, 20, 22, 25, 26, 31, 2, 2]) (by decide +kernel) rfl dX11_init_134 ?_
  refine z_callI (C.grow _) hAO [.ref (adB B 22)] [.ref (adB B 33), .ref (adB B 0)] n_X8_init_33 cw_X8_init im_X8_init rfl ml_X11_79 rfl rfl rfl hl.1 (Nat.le_of_ble_eq_true rfl) ⟨by decide, by decide⟩ ⟨by decide, by decide⟩ 34 (by decide +kernel) (by omega) (Or.inl (by decide +kernel)) dX11_init_137 ?_
  refine z_putF (C.grow _) hnm 0 9 33 pf_X11_80 (fc := [5, 7, 8, 15, 20, 22, 25, 26, 31, 2, 2]) (by decide +kernel) (by decide) ((SH.take 46).set 0 (0, 11, [5, 7, 8, 15, 20, 22, 25, 26, 31, 37, 2])) (by decide +kernel) dX11_init_140 ?_
  refine z_aload_n (C.grow _) (i := 0) (k := 0) hl dX11_init_143 rfl rfl ?_
  refine z_new (C.grow _) 1 (fc := [2, 2, 2, 0, 0]) (((SH.take 47).set 0 (0, 11, [5, 7, 8, 15, 20, 22, 25, 26, 31, 37, 2])).set 46 (0, 1, [2, 2, 2, 0, 0])) tyX1 rfl lay_X1 tyX1_ok nl_X11_84 ni_X1 nz_X1 (by decide +kernel) (by decide +kernel) 46 (by decide +kernel) (funext fun _ => rfl) (funext fun _ => rfl) (by decide) (by decide) (by omega) (Or.inl (by decide +kernel)) (by decide +kernel) dX11_init_144 ?_
  refine z_dup (C.grow _) dX11_init_147 rfl ?_
  refine z_callIN (C.grow _) hAO [] [.ref (adB B 46), .ref (adB B 0)] n_X1_init_46 cw_X1_init im_X1_init rfl mn_X11_86 rfl rfl rfl hl.1 (Nat.le_of_ble_eq_true rfl) ⟨by decide, by decide⟩ ⟨by decide, by decide⟩ 47 (by decide +kernel) (by omega) (Or.inl (by decide +kernel)) dX11_init_148 ?_
  refine z_putD (C.grow _) 0 10 46 (by decide) pw_X11_87 (fc := [5, 7, 8, 15, 20, 22, 25, 26, 31, 37, 2]) (by decide +kernel) (by decide) (SH.take 50) (by decide +kernel) dX11_init_151 ?_
  exact z_vretG (C.grow _) (by decide) (by decide) dX11_init_154
theorem pf_X12_9 : Pf RX12 9 12 1 := ⟨RX12, TX12, 32, tyX12, rfl, by decide, lay_X12, LW_i 976 (by decide +kernel) rfl, tyX12_ok, nmX12, rfl, rfl, fun _ => ⟨rfl, rfl⟩⟩
theorem pf_X12_13 : Pf RX12 13 12 3 := ⟨RX12, TX12, 32, tyX12, rfl, by decide, lay_X12, LW_i 978 (by decide +kernel) rfl, tyX12_ok, nmX12, rfl, rfl, fun _ => ⟨rfl, rfl⟩⟩
theorem pf_X12_17 : Pf RX12 17 12 4 := ⟨RX12, TX12, 32, tyX12, rfl, by decide, lay_X12, LW_i 979 (by decide +kernel) rfl, tyX12_ok, nmX12, rfl, rfl, fun _ => ⟨rfl, rfl⟩⟩
theorem pf_X12_20 : Pf RX12 20 12 5 := ⟨RX12, TX12, 32, tyX12, rfl, by decide, lay_X12, LW_i 980 (by decide +kernel) rfl, tyX12_ok, nmX12, rfl, rfl, fun _ => ⟨rfl, rfl⟩⟩
theorem pf_X12_23 : Pf RX12 23 12 6 := ⟨RX12, TX12, 32, tyX12, rfl, by decide, lay_X12, LW_i 981 (by decide +kernel) rfl, tyX12_ok, nmX12, rfl, rfl, fun _ => ⟨rfl, rfl⟩⟩
theorem pf_X12_26 : Pf RX12 26 12 7 := ⟨RX12, TX12, 32, tyX12, rfl, by decide, lay_X12, LW_i 982 (by decide +kernel) rfl, tyX12_ok, nmX12, rfl, rfl, fun _ => ⟨rfl, rfl⟩⟩
theorem pf_X12_29 : Pf RX12 29 12 8 := ⟨RX12, TX12, 32, tyX12, rfl, by decide, lay_X12, LW_i 983 (by decide +kernel) rfl, tyX12_ok, nmX12, rfl, rfl, fun _ => ⟨rfl, rfl⟩⟩
theorem pf_X12_32 : Pf RX12 32 12 10 := ⟨RX12, TX12, 32, tyX12, rfl, by decide, lay_X12, LW_i 985 (by decide +kernel) rfl, tyX12_ok, nmX12, rfl, rfl, fun _ => ⟨rfl, rfl⟩⟩
theorem pf_X12_36 : Pf RX12 36 12 11 := ⟨RX12, TX12, 32, tyX12, rfl, by decide, lay_X12, LW_i 986 (by decide +kernel) rfl, tyX12_ok, nmX12, rfl, rfl, fun _ => ⟨rfl, rfl⟩⟩
theorem pf_X12_39 : Pf RX12 39 12 13 := ⟨RX12, TX12, 32, tyX12, rfl, by decide, lay_X12, LW_i 988 (by decide +kernel) rfl, tyX12_ok, nmX12, rfl, rfl, fun _ => ⟨rfl, rfl⟩⟩
theorem pf_X12_42 : Pf RX12 42 12 14 := ⟨RX12, TX12, 32, tyX12, rfl, by decide, lay_X12, LW_i 989 (by decide +kernel) rfl, tyX12_ok, nmX12, rfl, rfl, fun _ => ⟨rfl, rfl⟩⟩
theorem pf_X12_45 : Pf RX12 45 12 15 := ⟨RX12, TX12, 32, tyX12, rfl, by decide, lay_X12, LW_i 990 (by decide +kernel) rfl, tyX12_ok, nmX12, rfl, rfl, fun _ => ⟨rfl, rfl⟩⟩
theorem pf_X12_48 : Pf RX12 48 12 16 := ⟨RX12, TX12, 32, tyX12, rfl, by decide, lay_X12, LW_i 991 (by decide +kernel) rfl, tyX12_ok, nmX12, rfl, rfl, fun _ => ⟨rfl, rfl⟩⟩
theorem pf_X12_51 : Pf RX12 51 12 18 := ⟨RX12, TX12, 32, tyX12, rfl, by decide, lay_X12, LW_i 993 (by decide +kernel) rfl, tyX12_ok, nmX12, rfl, rfl, fun _ => ⟨rfl, rfl⟩⟩
theorem pf_X12_54 : Pf RX12 54 12 19 := ⟨RX12, TX12, 32, tyX12, rfl, by decide, lay_X12, LW_i 994 (by decide +kernel) rfl, tyX12_ok, nmX12, rfl, rfl, fun _ => ⟨rfl, rfl⟩⟩
theorem pf_X12_57 : Pf RX12 57 12 20 := ⟨RX12, TX12, 32, tyX12, rfl, by decide, lay_X12, LW_i 995 (by decide +kernel) rfl, tyX12_ok, nmX12, rfl, rfl, fun _ => ⟨rfl, rfl⟩⟩
theorem pf_X12_60 : Pf RX12 60 12 21 := ⟨RX12, TX12, 32, tyX12, rfl, by decide, lay_X12, LW_i 996 (by decide +kernel) rfl, tyX12_ok, nmX12, rfl, rfl, fun _ => ⟨rfl, rfl⟩⟩
theorem pf_X12_63 : Pf RX12 63 12 22 := ⟨RX12, TX12, 32, tyX12, rfl, by decide, lay_X12, LW_i 997 (by decide +kernel) rfl, tyX12_ok, nmX12, rfl, rfl, fun _ => ⟨rfl, rfl⟩⟩
theorem pf_X12_66 : Pf RX12 66 12 23 := ⟨RX12, TX12, 32, tyX12, rfl, by decide, lay_X12, LW_i 998 (by decide +kernel) rfl, tyX12_ok, nmX12, rfl, rfl, fun _ => ⟨rfl, rfl⟩⟩
theorem pf_X12_69 : Pf RX12 69 12 30 := ⟨RX12, TX12, 32, tyX12, rfl, by decide, lay_X12, LW_i 1005 (by decide +kernel) rfl, tyX12_ok, nmX12, rfl, rfl, fun _ => ⟨rfl, rfl⟩⟩
theorem pf_X12_72 : Pf RX12 72 12 31 := ⟨RX12, TX12, 32, tyX12, rfl, by decide, lay_X12, LW_i 1006 (by decide +kernel) rfl, tyX12_ok, nmX12, rfl, rfl, fun _ => ⟨rfl, rfl⟩⟩
def u0_8 : St := fil u0_7 52 12 (-1)
