set_option maxHeartbeats 400000 in
theorem n_X7_init_1 : MtG yX7_init cX7_init 1 1 1 300 (fun B => [.ref (adB B 1)]) (((SH.take 2).set 0 (0, 11, [2, 2, 2, 2, 2, 2, 2, 2, 2, 2, 2])).set 1 (0, 7, [2, 0])) u0 ((SH.take 3).set 0 (0, 11, [2, 2, 2, 2, 2, 2, 2, 2, 2, 2, 2])) u0 := by
  refine MtG.of (by decide) (fun B => Nat.le_of_ble_eq_true rfl) ?_
  intro p l e s m args below meth c D cA B ls C hAO hnm hsz hl
  have hsz : s.heap.size = B + 2 := hsz.trans (congrArg (fun z => B + z) (by decide +kernel))
  have hl : lv_has ls 1 [(0, .ref (adB B 1))] := hl
  refine z_aload_n (C.grow _) (i := 0) (k := 0) hl dX7_init_0 rfl rfl ?_
  refine z_obj (C.grow _) ol_X7 ob_inst ob_code hl.1 ⟨by decide, by decide⟩ dX7_init_1 ?_
  refine z_aload_n (C.grow _) (i := 0) (k := 0) hl dX7_init_4 rfl rfl ?_
  refine z_sipush (C.grow _) (300 : Int32) dX7_init_5 (by decide) ?_
  refine z_new_int (C.grow _) ac_int 300 (((SH.take 3).set 0 (0, 11, [2, 2, 2, 2, 2, 2, 2, 2, 2, 2, 2])).set 1 (0, 7, [2, 0])) 2 (by decide +kernel) (funext fun _ => rfl) (by decide +kernel) (by decide +kernel) (by decide) (by decide) (by decide) (by omega) (Or.inl (by decide +kernel)) (by decide +kernel) dX7_init_8 ?_
  refine z_putF (C.grow _) hnm 1 0 2 pf_X7_9 (fc := [2, 0]) (by decide +kernel) (by decide) ((SH.take 3).set 0 (0, 11, [2, 2, 2, 2, 2, 2, 2, 2, 2, 2, 2])) (by decide +kernel) dX7_init_10 ?_
  exact z_vretG (C.grow _) (by decide) (by decide) dX7_init_13
theorem pf_X11_12 : Pf RX11 12 11 0 := ⟨RX11, TX11, 11, tyX11, rfl, by decide, lay_X11, LW_i 292 (by decide +kernel) rfl, tyX11_ok, nmX11, rfl, rfl, fun _ => ⟨rfl, rfl⟩⟩
theorem nl_X11_16 : Cond.classLink RX11 16 RX6 ∈ LW := LW_i 43 (by decide +kernel) rfl
theorem pf_X6_9 : Pf RX6 9 6 0 := ⟨RX6, TX6, 2, tyX6, rfl, by decide, lay_X6, LW_i 49 (by decide +kernel) rfl, tyX6_ok, nmX6, rfl, rfl, fun _ => ⟨rfl, rfl⟩⟩
