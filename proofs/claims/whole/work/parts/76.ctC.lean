set_option maxHeartbeats 400000 in
theorem n_X12_init_50 : MtG yX12_init cX12_init 2 1 21 23638 (fun B => [.ref (adB B 50)]) ((SH.take 51).set 50 (0, 12, [0, 2, 0, 2, 2, 2, 2, 2, 2, 0, 2, 2, 0, 2, 2, 2, 2, 0, 2, 2, 2, 2, 2, 2, 0, 0, 0, 0, 1, 1, 2, 2])) u0_7 (SH.take 72) u0_8 := by
  refine MtG.of (by decide) (fun B => Nat.le_of_ble_eq_true rfl) ?_
  intro p l e s m args below meth c D cA B ls C hAO hnm hsz hl
  have hsz : s.heap.size = B + 51 := hsz.trans (congrArg (fun z => B + z) (by decide +kernel))
  have hl : lv_has ls 2 [(0, .ref (adB B 50))] := hl
  refine z_aload_n (C.grow _) (i := 0) (k := 0) hl dX12_init_0 rfl rfl ?_
  refine z_obj (C.grow _) ol_X12 ob_inst ob_code hl.1 ⟨by decide, by decide⟩ dX12_init_1 ?_
  refine z_aload_n (C.grow _) (i := 0) (k := 0) hl dX12_init_4 rfl rfl ?_
  refine z_sipush (C.grow _) (300 : Int32) dX12_init_5 (by decide) ?_
  refine z_new_byte (C.grow _) ac_byte 300 ((SH.take 52).set 50 (0, 12, [0, 2, 0, 2, 2, 2, 2, 2, 2, 0, 2, 2, 0, 2, 2, 2, 2, 0, 2, 2, 2, 2, 2, 2, 0, 0, 0, 0, 1, 1, 2, 2])) 51 (by decide +kernel) (funext fun _ => rfl) (by decide +kernel) (by decide +kernel) (by decide) (by decide) (by decide) (by omega) (Or.inl (by decide +kernel)) (by decide +kernel) dX12_init_8 ?_
  refine z_putF (C.grow _) hnm 50 1 51 pf_X12_9 (fc := [0, 2, 0, 2, 2, 2, 2, 2, 2, 0, 2, 2, 0, 2, 2, 2, 2, 0, 2, 2, 2, 2, 2, 2, 0, 0, 0, 0, 1, 1, 2, 2]) (by decide +kernel) (by decide) ((SH.take 52).set 50 (0, 12, [0, 55, 0, 2, 2, 2, 2, 2, 2, 0, 2, 2, 0, 2, 2, 2, 2, 0, 2, 2, 2, 2, 2, 2, 0, 0, 0, 0, 1, 1, 2, 2])) (by decide +kernel) dX12_init_10 ?_
  refine z_aload_n (C.grow _) (i := 0) (k := 0) hl dX12_init_13 rfl rfl ?_
  refine z_bipush (C.grow _) (12 : Int32) dX12_init_14 (by decide) ?_
  refine z_new_int (C.grow _) ac_int 12 ((SH.take 53).set 50 (0, 12, [0, 55, 0, 2, 2, 2, 2, 2, 2, 0, 2, 2, 0, 2, 2, 2, 2, 0, 2, 2, 2, 2, 2, 2, 0, 0, 0, 0, 1, 1, 2, 2])) 52 (by decide +kernel) (funext fun _ => rfl) (by decide +kernel) (by decide +kernel) (by decide) (by decide) (by decide) (by omega) (Or.inl (by decide +kernel)) (by decide +kernel) dX12_init_16 ?_
  refine z_putF (C.grow _) hnm 50 3 52 pf_X12_13 (fc := [0, 55, 0, 2, 2, 2, 2, 2, 2, 0, 2, 2, 0, 2, 2, 2, 2, 0, 2, 2, 2, 2, 2, 2, 0, 0, 0, 0, 1, 1, 2, 2]) (by decide +kernel) (by decide) ((SH.take 53).set 50 (0, 12, [0, 55, 0, 56, 2, 2, 2, 2, 2, 0, 2, 2, 0, 2, 2, 2, 2, 0, 2, 2, 2, 2, 2, 2, 0, 0, 0, 0, 1, 1, 2, 2])) (by decide +kernel) dX12_init_18 ?_
  refine z_aload_n (C.grow _) (i := 0) (k := 0) hl dX12_init_21 rfl rfl ?_
  refine z_sipush (C.grow _) (144 : Int32) dX12_init_22 (by decide) ?_
  refine z_new_int (C.grow _) ac_int 144 ((SH.take 54).set 50 (0, 12, [0, 55, 0, 56, 2, 2, 2, 2, 2, 0, 2, 2, 0, 2, 2, 2, 2, 0, 2, 2, 2, 2, 2, 2, 0, 0, 0, 0, 1, 1, 2, 2])) 53 (by decide +kernel) (funext fun _ => rfl) (by decide +kernel) (by decide +kernel) (by decide) (by decide) (by decide) (by omega) (Or.inl (by decide +kernel)) (by decide +kernel) dX12_init_25 ?_
  refine z_putF (C.grow _) hnm 50 4 53 pf_X12_17 (fc := [0, 55, 0, 56, 2, 2, 2, 2, 2, 0, 2, 2, 0, 2, 2, 2, 2, 0, 2, 2, 2, 2, 2, 2, 0, 0, 0, 0, 1, 1, 2, 2]) (by decide +kernel) (by decide) ((SH.take 54).set 50 (0, 12, [0, 55, 0, 56, 57, 2, 2, 2, 2, 0, 2, 2, 0, 2, 2, 2, 2, 0, 2, 2, 2, 2, 2, 2, 0, 0, 0, 0, 1, 1, 2, 2])) (by decide +kernel) dX12_init_27 ?_
  refine z_aload_n (C.grow _) (i := 0) (k := 0) hl dX12_init_30 rfl rfl ?_
  refine z_sipush (C.grow _) (144 : Int32) dX12_init_31 (by decide) ?_
  refine z_new_int (C.grow _) ac_int 144 ((SH.take 55).set 50 (0, 12, [0, 55, 0, 56, 57, 2, 2, 2, 2, 0, 2, 2, 0, 2, 2, 2, 2, 0, 2, 2, 2, 2, 2, 2, 0, 0, 0, 0, 1, 1, 2, 2])) 54 (by decide +kernel) (funext fun _ => rfl) (by decide +kernel) (by decide +kernel) (by decide) (by decide) (by decide) (by omega) (Or.inl (by decide +kernel)) (by decide +kernel) dX12_init_34 ?_
  refine z_putF (C.grow _) hnm 50 5 54 pf_X12_20 (fc := [0, 55, 0, 56, 57, 2, 2, 2, 2, 0, 2, 2, 0, 2, 2, 2, 2, 0, 2, 2, 2, 2, 2, 2, 0, 0, 0, 0, 1, 1, 2, 2]) (by decide +kernel) (by decide) ((SH.take 55).set 50 (0, 12, [0, 55, 0, 56, 57, 58, 2, 2, 2, 0, 2, 2, 0, 2, 2, 2, 2, 0, 2, 2, 2, 2, 2, 2, 0, 0, 0, 0, 1, 1, 2, 2])) (by decide +kernel) dX12_init_36 ?_
  refine z_aload_n (C.grow _) (i := 0) (k := 0) hl dX12_init_39 rfl rfl ?_
  refine z_bipush (C.grow _) (12 : Int32) dX12_init_40 (by decide) ?_
  refine z_new_int (C.grow _) ac_int 12 ((SH.take 56).set 50 (0, 12, [0, 55, 0, 56, 57, 58, 2, 2, 2, 0, 2, 2, 0, 2, 2, 2, 2, 0, 2, 2, 2, 2, 2, 2, 0, 0, 0, 0, 1, 1, 2, 2])) 55 (by decide +kernel) (funext fun _ => rfl) (by decide +kernel) (by decide +kernel) (by decide) (by decide) (by decide) (by omega) (Or.inl (by decide +kernel)) (by decide +kernel) dX12_init_42 ?_
  refine z_putF (C.grow _) hnm 50 6 55 pf_X12_23 (fc := [0, 55, 0, 56, 57, 58, 2, 2, 2, 0, 2, 2, 0, 2, 2, 2, 2, 0, 2, 2, 2, 2, 2, 2, 0, 0, 0, 0, 1, 1, 2, 2]) (by decide +kernel) (by decide) ((SH.take 56).set 50 (0, 12, [0, 55, 0, 56, 57, 58, 59, 2, 2, 0, 2, 2, 0, 2, 2, 2, 2, 0, 2, 2, 2, 2, 2, 2, 0, 0, 0, 0, 1, 1, 2, 2])) (by decide +kernel) dX12_init_44 ?_
  refine z_aload_n (C.grow _) (i := 0) (k := 0) hl dX12_init_47 rfl rfl ?_
  refine z_sipush (C.grow _) (144 : Int32) dX12_init_48 (by decide) ?_
  refine z_new_int (C.grow _) ac_int 144 ((SH.take 57).set 50 (0, 12, [0, 55, 0, 56, 57, 58, 59, 2, 2, 0, 2, 2, 0, 2, 2, 2, 2, 0, 2, 2, 2, 2, 2, 2, 0, 0, 0, 0, 1, 1, 2, 2])) 56 (by decide +kernel) (funext fun _ => rfl) (by decide +kernel) (by decide +kernel) (by decide) (by decide) (by decide) (by omega) (Or.inl (by decide +kernel)) (by decide +kernel) dX12_init_51 ?_
  refine z_putF (C.grow _) hnm 50 7 56 pf_X12_26 (fc := [0, 55, 0, 56, 57, 58, 59, 2, 2, 0, 2, 2, 0, 2, 2, 2, 2, 0, 2, 2, 2, 2, 2, 2, 0, 0, 0, 0, 1, 1, 2, 2]) (by decide +kernel) (by decide) ((SH.take 57).set 50 (0, 12, [0, 55, 0, 56, 57, 58, 59, 60, 2, 0, 2, 2, 0, 2, 2, 2, 2, 0, 2, 2, 2, 2, 2, 2, 0, 0, 0, 0, 1, 1, 2, 2])) (by decide +kernel) dX12_init_53 ?_
  refine z_aload_n (C.grow _) (i := 0) (k := 0) hl dX12_init_56 rfl rfl ?_
  refine z_sipush (C.grow _) (144 : Int32) dX12_init_57 (by decide) ?_
  refine z_new_int (C.grow _) ac_int 144 ((SH.take 58).set 50 (0, 12, [0, 55, 0, 56, 57, 58, 59, 60, 2, 0, 2, 2, 0, 2, 2, 2, 2, 0, 2, 2, 2, 2, 2, 2, 0, 0, 0, 0, 1, 1, 2, 2])) 57 (by decide +kernel) (funext fun _ => rfl) (by decide +kernel) (by decide +kernel) (by decide) (by decide) (by decide) (by omega) (Or.inl (by decide +kernel)) (by decide +kernel) dX12_init_60 ?_
  refine z_putF (C.grow _) hnm 50 8 57 pf_X12_29 (fc := [0, 55, 0, 56, 57, 58, 59, 60, 2, 0, 2, 2, 0, 2, 2, 2, 2, 0, 2, 2, 2, 2, 2, 2, 0, 0, 0, 0, 1, 1, 2, 2]) (by decide +kernel) (by decide) ((SH.take 58).set 50 (0, 12, [0, 55, 0, 56, 57, 58, 59, 60, 61, 0, 2, 2, 0, 2, 2, 2, 2, 0, 2, 2, 2, 2, 2, 2, 0, 0, 0, 0, 1, 1, 2, 2])) (by decide +kernel) dX12_init_62 ?_
  refine z_aload_n (C.grow _) (i := 0) (k := 0) hl dX12_init_65 rfl rfl ?_
  refine z_bipush (C.grow _) (12 : Int32) dX12_init_66 (by decide) ?_
  refine z_new_boolean (C.grow _) ac_boolean 12 ((SH.take 59).set 50 (0, 12, [0, 55, 0, 56, 57, 58, 59, 60, 61, 0, 2, 2, 0, 2, 2, 2, 2, 0, 2, 2, 2, 2, 2, 2, 0, 0, 0, 0, 1, 1, 2, 2])) 58 (by decide +kernel) (funext fun _ => rfl) (by decide +kernel) (by decide +kernel) (by decide) (by decide) (by decide) (by omega) (Or.inl (by decide +kernel)) (by decide +kernel) dX12_init_68 ?_
  refine z_putF (C.grow _) hnm 50 10 58 pf_X12_32 (fc := [0, 55, 0, 56, 57, 58, 59, 60, 61, 0, 2, 2, 0, 2, 2, 2, 2, 0, 2, 2, 2, 2, 2, 2, 0, 0, 0, 0, 1, 1, 2, 2]) (by decide +kernel) (by decide) ((SH.take 59).set 50 (0, 12, [0, 55, 0, 56, 57, 58, 59, 60, 61, 0, 62, 2, 0, 2, 2, 2, 2, 0, 2, 2, 2, 2, 2, 2, 0, 0, 0, 0, 1, 1, 2, 2])) (by decide +kernel) dX12_init_70 ?_
  refine z_aload_n (C.grow _) (i := 0) (k := 0) hl dX12_init_73 rfl rfl ?_
  refine z_sipush (C.grow _) (144 : Int32) dX12_init_74 (by decide) ?_
  refine z_new_boolean (C.grow _) ac_boolean 144 ((SH.take 60).set 50 (0, 12, [0, 55, 0, 56, 57, 58, 59, 60, 61, 0, 62, 2, 0, 2, 2, 2, 2, 0, 2, 2, 2, 2, 2, 2, 0, 0, 0, 0, 1, 1, 2, 2])) 59 (by decide +kernel) (funext fun _ => rfl) (by decide +kernel) (by decide +kernel) (by decide) (by decide) (by decide) (by omega) (Or.inl (by decide +kernel)) (by decide +kernel) dX12_init_77 ?_
  refine z_putF (C.grow _) hnm 50 11 59 pf_X12_36 (fc := [0, 55, 0, 56, 57, 58, 59, 60, 61, 0, 62, 2, 0, 2, 2, 2, 2, 0, 2, 2, 2, 2, 2, 2, 0, 0, 0, 0, 1, 1, 2, 2]) (by decide +kernel) (by decide) ((SH.take 60).set 50 (0, 12, [0, 55, 0, 56, 57, 58, 59, 60, 61, 0, 62, 63, 0, 2, 2, 2, 2, 0, 2, 2, 2, 2, 2, 2, 0, 0, 0, 0, 1, 1, 2, 2])) (by decide +kernel) dX12_init_79 ?_
  refine z_aload_n (C.grow _) (i := 0) (k := 0) hl dX12_init_82 rfl rfl ?_
  refine z_sipush (C.grow _) (4096 : Int32) dX12_init_83 (by decide) ?_
  refine z_new_int (C.grow _) ac_int 4096 ((SH.take 61).set 50 (0, 12, [0, 55, 0, 56, 57, 58, 59, 60, 61, 0, 62, 63, 0, 2, 2, 2, 2, 0, 2, 2, 2, 2, 2, 2, 0, 0, 0, 0, 1, 1, 2, 2])) 60 (by decide +kernel) (funext fun _ => rfl) (by decide +kernel) (by decide +kernel) (by decide) (by decide) (by decide) (by omega) (Or.inl (by decide +kernel)) (by decide +kernel) dX12_init_86 ?_
  refine z_putF (C.grow _) hnm 50 13 60 pf_X12_39 (fc := [0, 55, 0, 56, 57, 58, 59, 60, 61, 0, 62, 63, 0, 2, 2, 2, 2, 0, 2, 2, 2, 2, 2, 2, 0, 0, 0, 0, 1, 1, 2, 2]) (by decide +kernel) (by decide) ((SH.take 61).set 50 (0, 12, [0, 55, 0, 56, 57, 58, 59, 60, 61, 0, 62, 63, 0, 64, 2, 2, 2, 0, 2, 2, 2, 2, 2, 2, 0, 0, 0, 0, 1, 1, 2, 2])) (by decide +kernel) dX12_init_88 ?_
  refine z_aload_n (C.grow _) (i := 0) (k := 0) hl dX12_init_91 rfl rfl ?_
  refine z_sipush (C.grow _) (4096 : Int32) dX12_init_92 (by decide) ?_
  refine z_new_int (C.grow _) ac_int 4096 ((SH.take 62).set 50 (0, 12, [0, 55, 0, 56, 57, 58, 59, 60, 61, 0, 62, 63, 0, 64, 2, 2, 2, 0, 2, 2, 2, 2, 2, 2, 0, 0, 0, 0, 1, 1, 2, 2])) 61 (by decide +kernel) (funext fun _ => rfl) (by decide +kernel) (by decide +kernel) (by decide) (by decide) (by decide) (by omega) (Or.inl (by decide +kernel)) (by decide +kernel) dX12_init_95 ?_
  refine z_putF (C.grow _) hnm 50 14 61 pf_X12_42 (fc := [0, 55, 0, 56, 57, 58, 59, 60, 61, 0, 62, 63, 0, 64, 2, 2, 2, 0, 2, 2, 2, 2, 2, 2, 0, 0, 0, 0, 1, 1, 2, 2]) (by decide +kernel) (by decide) ((SH.take 62).set 50 (0, 12, [0, 55, 0, 56, 57, 58, 59, 60, 61, 0, 62, 63, 0, 64, 65, 2, 2, 0, 2, 2, 2, 2, 2, 2, 0, 0, 0, 0, 1, 1, 2, 2])) (by decide +kernel) dX12_init_97 ?_
  refine z_aload_n (C.grow _) (i := 0) (k := 0) hl dX12_init_100 rfl rfl ?_
  refine z_sipush (C.grow _) (4096 : Int32) dX12_init_101 (by decide) ?_
  refine z_new_int (C.grow _) ac_int 4096 ((SH.take 63).set 50 (0, 12, [0, 55, 0, 56, 57, 58, 59, 60, 61, 0, 62, 63, 0, 64, 65, 2, 2, 0, 2, 2, 2, 2, 2, 2, 0, 0, 0, 0, 1, 1, 2, 2])) 62 (by decide +kernel) (funext fun _ => rfl) (by decide +kernel) (by decide +kernel) (by decide) (by decide) (by decide) (by omega) (Or.inl (by decide +kernel)) (by decide +kernel) dX12_init_104 ?_
  refine z_putF (C.grow _) hnm 50 15 62 pf_X12_45 (fc := [0, 55, 0, 56, 57, 58, 59, 60, 61, 0, 62, 63, 0, 64, 65, 2, 2, 0, 2, 2, 2, 2, 2, 2, 0, 0, 0, 0, 1, 1, 2, 2]) (by decide +kernel) (by decide) ((SH.take 63).set 50 (0, 12, [0, 55, 0, 56, 57, 58, 59, 60, 61, 0, 62, 63, 0, 64, 65, 66, 2, 0, 2, 2, 2, 2, 2, 2, 0, 0, 0, 0, 1, 1, 2, 2])) (by decide +kernel) dX12_init_106 ?_
  refine z_aload_n (C.grow _) (i := 0) (k := 0) hl dX12_init_109 rfl rfl ?_
  refine z_sipush (C.grow _) (4096 : Int32) dX12_init_110 (by decide) ?_
  refine z_new_int (C.grow _) ac_int 4096 ((SH.take 64).set 50 (0, 12, [0, 55, 0, 56, 57, 58, 59, 60, 61, 0, 62, 63, 0, 64, 65, 66, 2, 0, 2, 2, 2, 2, 2, 2, 0, 0, 0, 0, 1, 1, 2, 2])) 63 (by decide +kernel) (funext fun _ => rfl) (by decide +kernel) (by decide +kernel) (by decide) (by decide) (by decide) (by omega) (Or.inl (by decide +kernel)) (by decide +kernel) dX12_init_113 ?_
  refine z_putF (C.grow _) hnm 50 16 63 pf_X12_48 (fc := [0, 55, 0, 56, 57, 58, 59, 60, 61, 0, 62, 63, 0, 64, 65, 66, 2, 0, 2, 2, 2, 2, 2, 2, 0, 0, 0, 0, 1, 1, 2, 2]) (by decide +kernel) (by decide) ((SH.take 64).set 50 (0, 12, [0, 55, 0, 56, 57, 58, 59, 60, 61, 0, 62, 63, 0, 64, 65, 66, 67, 0, 2, 2, 2, 2, 2, 2, 0, 0, 0, 0, 1, 1, 2, 2])) (by decide +kernel) dX12_init_115 ?_
  refine z_aload_n (C.grow _) (i := 0) (k := 0) hl dX12_init_118 rfl rfl ?_
  refine z_sipush (C.grow _) (4096 : Int32) dX12_init_119 (by decide) ?_
  refine z_new_boolean (C.grow _) ac_boolean 4096 ((SH.take 65).set 50 (0, 12, [0, 55, 0, 56, 57, 58, 59, 60, 61, 0, 62, 63, 0, 64, 65, 66, 67, 0, 2, 2, 2, 2, 2, 2, 0, 0, 0, 0, 1, 1, 2, 2])) 64 (by decide +kernel) (funext fun _ => rfl) (by decide +kernel) (by decide +kernel) (by decide) (by decide) (by decide) (by omega) (Or.inl (by decide +kernel)) (by decide +kernel) dX12_init_122 ?_
  refine z_putF (C.grow _) hnm 50 18 64 pf_X12_51 (fc := [0, 55, 0, 56, 57, 58, 59, 60, 61, 0, 62, 63, 0, 64, 65, 66, 67, 0, 2, 2, 2, 2, 2, 2, 0, 0, 0, 0, 1, 1, 2, 2]) (by decide +kernel) (by decide) ((SH.take 65).set 50 (0, 12, [0, 55, 0, 56, 57, 58, 59, 60, 61, 0, 62, 63, 0, 64, 65, 66, 67, 0, 68, 2, 2, 2, 2, 2, 0, 0, 0, 0, 1, 1, 2, 2])) (by decide +kernel) dX12_init_124 ?_
  refine z_aload_n (C.grow _) (i := 0) (k := 0) hl dX12_init_127 rfl rfl ?_
  refine z_bipush (C.grow _) (12 : Int32) dX12_init_128 (by decide) ?_
  refine z_new_int (C.grow _) ac_int 12 ((SH.take 66).set 50 (0, 12, [0, 55, 0, 56, 57, 58, 59, 60, 61, 0, 62, 63, 0, 64, 65, 66, 67, 0, 68, 2, 2, 2, 2, 2, 0, 0, 0, 0, 1, 1, 2, 2])) 65 (by decide +kernel) (funext fun _ => rfl) (by decide +kernel) (by decide +kernel) (by decide) (by decide) (by decide) (by omega) (Or.inl (by decide +kernel)) (by decide +kernel) dX12_init_130 ?_
  refine z_putF (C.grow _) hnm 50 19 65 pf_X12_54 (fc := [0, 55, 0, 56, 57, 58, 59, 60, 61, 0, 62, 63, 0, 64, 65, 66, 67, 0, 68, 2, 2, 2, 2, 2, 0, 0, 0, 0, 1, 1, 2, 2]) (by decide +kernel) (by decide) ((SH.take 66).set 50 (0, 12, [0, 55, 0, 56, 57, 58, 59, 60, 61, 0, 62, 63, 0, 64, 65, 66, 67, 0, 68, 69, 2, 2, 2, 2, 0, 0, 0, 0, 1, 1, 2, 2])) (by decide +kernel) dX12_init_132 ?_
  refine z_aload_n (C.grow _) (i := 0) (k := 0) hl dX12_init_135 rfl rfl ?_
  refine z_bipush (C.grow _) (10 : Int32) dX12_init_136 (by decide) ?_
  refine z_new_int (C.grow _) ac_int 10 ((SH.take 67).set 50 (0, 12, [0, 55, 0, 56, 57, 58, 59, 60, 61, 0, 62, 63, 0, 64, 65, 66, 67, 0, 68, 69, 2, 2, 2, 2, 0, 0, 0, 0, 1, 1, 2, 2])) 66 (by decide +kernel) (funext fun _ => rfl) (by decide +kernel) (by decide +kernel) (by decide) (by decide) (by decide) (by omega) (Or.inl (by decide +kernel)) (by decide +kernel) dX12_init_138 ?_
  refine z_putF (C.grow _) hnm 50 20 66 pf_X12_57 (fc := [0, 55, 0, 56, 57, 58, 59, 60, 61, 0, 62, 63, 0, 64, 65, 66, 67, 0, 68, 69, 2, 2, 2, 2, 0, 0, 0, 0, 1, 1, 2, 2]) (by decide +kernel) (by decide) ((SH.take 67).set 50 (0, 12, [0, 55, 0, 56, 57, 58, 59, 60, 61, 0, 62, 63, 0, 64, 65, 66, 67, 0, 68, 69, 70, 2, 2, 2, 0, 0, 0, 0, 1, 1, 2, 2])) (by decide +kernel) dX12_init_140 ?_
  refine z_aload_n (C.grow _) (i := 0) (k := 0) hl dX12_init_143 rfl rfl ?_
  refine z_bipush (C.grow _) (20 : Int32) dX12_init_144 (by decide) ?_
  refine z_new_int (C.grow _) ac_int 20 ((SH.take 68).set 50 (0, 12, [0, 55, 0, 56, 57, 58, 59, 60, 61, 0, 62, 63, 0, 64, 65, 66, 67, 0, 68, 69, 70, 2, 2, 2, 0, 0, 0, 0, 1, 1, 2, 2])) 67 (by decide +kernel) (funext fun _ => rfl) (by decide +kernel) (by decide +kernel) (by decide) (by decide) (by decide) (by omega) (Or.inl (by decide +kernel)) (by decide +kernel) dX12_init_146 ?_
  refine z_putF (C.grow _) hnm 50 21 67 pf_X12_60 (fc := [0, 55, 0, 56, 57, 58, 59, 60, 61, 0, 62, 63, 0, 64, 65, 66, 67, 0, 68, 69, 70, 2, 2, 2, 0, 0, 0, 0, 1, 1, 2, 2]) (by decide +kernel) (by decide) ((SH.take 68).set 50 (0, 12, [0, 55, 0, 56, 57, 58, 59, 60, 61, 0, 62, 63, 0, 64, 65, 66, 67, 0, 68, 69, 70, 71, 2, 2, 0, 0, 0, 0, 1, 1, 2, 2])) (by decide +kernel) dX12_init_148 ?_
  refine z_aload_n (C.grow _) (i := 0) (k := 0) hl dX12_init_151 rfl rfl ?_
  refine z_bipush (C.grow _) (20 : Int32) dX12_init_152 (by decide) ?_
  refine z_new_int (C.grow _) ac_int 20 ((SH.take 69).set 50 (0, 12, [0, 55, 0, 56, 57, 58, 59, 60, 61, 0, 62, 63, 0, 64, 65, 66, 67, 0, 68, 69, 70, 71, 2, 2, 0, 0, 0, 0, 1, 1, 2, 2])) 68 (by decide +kernel) (funext fun _ => rfl) (by decide +kernel) (by decide +kernel) (by decide) (by decide) (by decide) (by omega) (Or.inl (by decide +kernel)) (by decide +kernel) dX12_init_154 ?_
  refine z_putF (C.grow _) hnm 50 22 68 pf_X12_63 (fc := [0, 55, 0, 56, 57, 58, 59, 60, 61, 0, 62, 63, 0, 64, 65, 66, 67, 0, 68, 69, 70, 71, 2, 2, 0, 0, 0, 0, 1, 1, 2, 2]) (by decide +kernel) (by decide) ((SH.take 69).set 50 (0, 12, [0, 55, 0, 56, 57, 58, 59, 60, 61, 0, 62, 63, 0, 64, 65, 66, 67, 0, 68, 69, 70, 71, 72, 2, 0, 0, 0, 0, 1, 1, 2, 2])) (by decide +kernel) dX12_init_156 ?_
  refine z_aload_n (C.grow _) (i := 0) (k := 0) hl dX12_init_159 rfl rfl ?_
  refine z_bipush (C.grow _) (20 : Int32) dX12_init_160 (by decide) ?_
  refine z_new_int (C.grow _) ac_int 20 ((SH.take 70).set 50 (0, 12, [0, 55, 0, 56, 57, 58, 59, 60, 61, 0, 62, 63, 0, 64, 65, 66, 67, 0, 68, 69, 70, 71, 72, 2, 0, 0, 0, 0, 1, 1, 2, 2])) 69 (by decide +kernel) (funext fun _ => rfl) (by decide +kernel) (by decide +kernel) (by decide) (by decide) (by decide) (by omega) (Or.inl (by decide +kernel)) (by decide +kernel) dX12_init_162 ?_
  refine z_putF (C.grow _) hnm 50 23 69 pf_X12_66 (fc := [0, 55, 0, 56, 57, 58, 59, 60, 61, 0, 62, 63, 0, 64, 65, 66, 67, 0, 68, 69, 70, 71, 72, 2, 0, 0, 0, 0, 1, 1, 2, 2]) (by decide +kernel) (by decide) ((SH.take 70).set 50 (0, 12, [0, 55, 0, 56, 57, 58, 59, 60, 61, 0, 62, 63, 0, 64, 65, 66, 67, 0, 68, 69, 70, 71, 72, 73, 0, 0, 0, 0, 1, 1, 2, 2])) (by decide +kernel) dX12_init_164 ?_
  refine z_aload_n (C.grow _) (i := 0) (k := 0) hl dX12_init_167 rfl rfl ?_
  refine z_sipush (C.grow _) (2010 : Int32) dX12_init_168 (by decide) ?_
  refine z_new_int (C.grow _) ac_int 2010 ((SH.take 71).set 50 (0, 12, [0, 55, 0, 56, 57, 58, 59, 60, 61, 0, 62, 63, 0, 64, 65, 66, 67, 0, 68, 69, 70, 71, 72, 73, 0, 0, 0, 0, 1, 1, 2, 2])) 70 (by decide +kernel) (funext fun _ => rfl) (by decide +kernel) (by decide +kernel) (by decide) (by decide) (by decide) (by omega) (Or.inl (by decide +kernel)) (by decide +kernel) dX12_init_171 ?_
  refine z_putF (C.grow _) hnm 50 30 70 pf_X12_69 (fc := [0, 55, 0, 56, 57, 58, 59, 60, 61, 0, 62, 63, 0, 64, 65, 66, 67, 0, 68, 69, 70, 71, 72, 73, 0, 0, 0, 0, 1, 1, 2, 2]) (by decide +kernel) (by decide) ((SH.take 71).set 50 (0, 12, [0, 55, 0, 56, 57, 58, 59, 60, 61, 0, 62, 63, 0, 64, 65, 66, 67, 0, 68, 69, 70, 71, 72, 73, 0, 0, 0, 0, 1, 1, 74, 2])) (by decide +kernel) dX12_init_173 ?_
  refine z_aload_n (C.grow _) (i := 0) (k := 0) hl dX12_init_176 rfl rfl ?_
  refine z_bipush (C.grow _) (10 : Int32) dX12_init_177 (by decide) ?_
  refine z_new_int (C.grow _) ac_int 10 ((SH.take 72).set 50 (0, 12, [0, 55, 0, 56, 57, 58, 59, 60, 61, 0, 62, 63, 0, 64, 65, 66, 67, 0, 68, 69, 70, 71, 72, 73, 0, 0, 0, 0, 1, 1, 74, 2])) 71 (by decide +kernel) (funext fun _ => rfl) (by decide +kernel) (by decide +kernel) (by decide) (by decide) (by decide) (by omega) (Or.inl (by decide +kernel)) (by decide +kernel) dX12_init_179 ?_
  refine z_putF (C.grow _) hnm 50 31 71 pf_X12_72 (fc := [0, 55, 0, 56, 57, 58, 59, 60, 61, 0, 62, 63, 0, 64, 65, 66, 67, 0, 68, 69, 70, 71, 72, 73, 0, 0, 0, 0, 1, 1, 74, 2]) (by decide +kernel) (by decide) (SH.take 72) (by decide +kernel) dX12_init_181 ?_
  refine z_iconst (C.grow _) (0 : Int32) dX12_init_184 (by decide) ?_
  refine z_istore_n (C.grow _) (i := 1) [(1, .int 0), (0, .ref (adB B 50))] hl dX12_init_185 rfl (by decide) rfl (fun ls hl => ?_)
  have key : ∀ (t j : Nat), j + t = 12 → ∀ ls, lv_has ls 2 [(1, .int (nI j)), (0, .ref (adB B 50))] → Z (SH.take 72) p l e (rmG 1 21 23638) s m args below meth c D cA (adB B) (inB B) 21 23638 (MQ below (QG D cA B (SH.take 72) (fil u0_7 52 12 (-1))) args s 21 23638 (inB B)) (fil u0_7 52 j (-1)) 186 ls [] := by
    intro t
    induction t with
    | zero =>
      intro j hj ls hl
      have hj : j = 12 := by omega
      subst hj
      refine z_iload_n (C.grow _) (i := 1) (k := 0) hl dX12_init_186 rfl rfl ?_
      refine z_bipush (C.grow _) (12 : Int32) dX12_init_187 (by decide) ?_
      refine z_icmp_ge (C.grow _) 205 dX12_init_189 (by decide) (fun _ => ?_) (fun hc => absurd (show (12 : Int32) ≤ nI 12 by decide) hc)
      exact z_vretG (C.grow _) rfl rfl dX12_init_205
    | succ t ih =>
      intro j hj ls hl
      refine z_iload_n (C.grow _) (i := 1) (k := 0) hl dX12_init_186 rfl rfl ?_
      refine z_bipush (C.grow _) (12 : Int32) dX12_init_187 (by decide) ?_
      refine z_icmp_ge (C.grow _) 205 dX12_init_189 (by decide) (fun hc => absurd hc (nI_ge (b := 12) (by omega) (by decide))) (fun _ => ?_)
      refine z_aload_n (C.grow _) (i := 0) (k := 1) hl dX12_init_192 rfl rfl ?_
      refine z_getr (C.grow _) 50 3 52 fw_X12_13 (fc := [0, 55, 0, 56, 57, 58, 59, 60, 61, 0, 62, 63, 0, 64, 65, 66, 67, 0, 68, 69, 70, 71, 72, 73, 0, 0, 0, 0, 1, 1, 74, 75]) (by decide +kernel) rfl dX12_init_193 ?_
      refine z_iload_n (C.grow _) (i := 1) (k := 0) hl dX12_init_196 rfl rfl ?_
      refine z_iconst (C.grow _) (-1 : Int32) dX12_init_197 (by decide) ?_
      refine z_iast (C.grow _) 52 12 (xs := []) (by decide +kernel) (nI_in (by omega) (by decide)) dX12_init_198 ?_
      rw [nI_clamp (by omega), fil_s]
      refine z_iinc (C.grow _) (i := 1) (k := 0) (nI (j + 1)) [(1, .int (nI (j + 1))), (0, .ref (adB B 50))] hl dX12_init_199 rfl (by rw [nI_succ]; rfl) (by decide) rfl (fun ls hl => ?_)
      refine z_goto (C.grow _) 186 dX12_init_202 (by decide) ?_
      exact ih (j + 1) (by omega) ls hl
  have h1 := key 12 0 (by omega) ls hl
  rw [fil_0] at h1
  exact h1
