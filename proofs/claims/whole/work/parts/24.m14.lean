def f_X12_time (F : Nat) (x1 : Int32) (x2 : Int32) (u : St) : Option (Int32 × St) := (Option.bind (f_X12_isIn F x1 (0 : Int32) (((wr u 50 0 (1 : Int32)).1 50 24) - (1 : Int32)) (wr u 50 0 (1 : Int32))) (fun w4 => (if w4.1 = 0 then some ((0 : Int32), w4.2) else (Option.bind (f_X12_isIn F x2 (1 : Int32) (200 : Int32) w4.2) (fun w8 => (if w8.1 = 0 then some ((0 : Int32), w8.2) else (Option.bind (f_X12_times F x2 w8.2) (fun u9 => (if (((201 : Int32) * x1) + x2) < 0 ∨ 2010 ≤ (((201 : Int32) * x1) + x2).toNatClampNeg then none else (if (u9.1 70 (((201 : Int32) * x1) + x2).toNatClampNeg) = (-1 : Int32) then some ((0 : Int32), u9) else some ((u9.1 70 (((201 : Int32) * x1) + x2).toNatClampNeg), (wr u9 50 0 (0 : Int32)))))))))))))
set_option maxRecDepth 20000 in
set_option maxHeartbeats 4000000 in
theorem m_X12_time (F : Nat) (x1 : Int32) (x2 : Int32) (u : St) (r : Int32) (u' : St)  (h : f_X12_time F x1 x2 u = some (r, u')) : Mt yX12_time cX12_time 4 (some .int) 2 (fun ad => [.ref (ad 50), .int x1, .int x2]) u (fun _ => some (.int r)) u' := by
  refine Mt.of (by decide) (fun ad => Nat.le_of_ble_eq_true rfl) ?_
  intro p l e s m args below meth c D cA ad ls C hl
  have hl : lv_has ls 4 [(0, .ref (ad 50)), (1, .int x1), (2, .int x2)] := hl
  unfold f_X12_time at h
  refine z_aload_n C (i := 0) (k := 0) hl dX12_time_0 rfl rfl ?_
  refine z_iconst C (1 : Int32) dX12_time_1 (by decide) ?_
  refine z_puti C 50 0 pw_X12_75 sh_50 rfl dX12_time_2 ?_
  refine z_iload_n C (i := 1) (k := 1) hl dX12_time_5 rfl rfl ?_
  refine z_iconst C (0 : Int32) dX12_time_6 (by decide) ?_
  refine z_aload_n C (i := 0) (k := 0) hl dX12_time_7 rfl rfl ?_
  refine z_geti C 50 24 fw_X12_156 sh_50 rfl dX12_time_8 ?_
  refine z_iconst C (1 : Int32) dX12_time_11 (by decide) ?_
  refine z_isub C dX12_time_12 ?_
  obtain ⟨⟨r3, u1⟩, hc2, h⟩ := bnd h
  try dsimp only at h
  refine z_callS C [.int x1, .int (0 : Int32), .int (((wr u 50 0 (1 : Int32)).1 50 24) - (1 : Int32))] [] [.int r3] (m_X12_isIn F _ _ _ _ _ _ hc2) cw_X12_isIn sw_X12_isIn ml_X12_148 rfl rfl rfl hl.1 (Nat.le_of_ble_eq_true rfl) ⟨Nat.le_of_ble_eq_true rfl, Nat.le_of_ble_eq_true rfl⟩ ⟨Nat.le_refl _, Nat.le_refl _⟩ rfl dX12_time_13 ?_
  refine z_if_eq C 30 dX12_time_16 (by decide) (fun hc14 => ?_) (fun hc14 => ?_)
  · replace h := (if_pos hc14).symm.trans h
    refine z_iconst C (0 : Int32) dX12_time_30 (by decide) ?_
    obtain ⟨rfl, rfl⟩ := r2 h
    exact z_iret C dX12_time_31
  · replace h := (if_neg hc14).symm.trans h
    refine z_iload_n C (i := 2) (k := 2) hl dX12_time_19 rfl rfl ?_
    refine z_iconst C (1 : Int32) dX12_time_20 (by decide) ?_
    refine z_sipush C (200 : Int32) dX12_time_21 (by decide) ?_
    obtain ⟨⟨r7, u5⟩, hc6, h⟩ := bnd h
    try dsimp only at h
    refine z_callS C [.int x2, .int (1 : Int32), .int (200 : Int32)] [] [.int r7] (m_X12_isIn F _ _ _ _ _ _ hc6) cw_X12_isIn sw_X12_isIn ml_X12_148 rfl rfl rfl hl.1 (Nat.le_of_ble_eq_true rfl) ⟨Nat.le_of_ble_eq_true rfl, Nat.le_of_ble_eq_true rfl⟩ ⟨Nat.le_refl _, Nat.le_refl _⟩ rfl dX12_time_24 ?_
    refine z_if_ne C 32 dX12_time_27 (by decide) (fun hc13 => ?_) (fun hc13 => ?_)
    · replace h := (if_neg hc13).symm.trans h
      refine z_aload_n C (i := 0) (k := 0) hl dX12_time_32 rfl rfl ?_
      refine z_iload_n C (i := 2) (k := 2) hl dX12_time_33 rfl rfl ?_
      obtain ⟨u9, hc10, h⟩ := bnd h
      refine z_callV C (ci := 12) [.int x2] [] [] (m_X12_times F _ _ _ hc10) cw_X12_times vw_X12_times ml_X12_194 sh_50 rfl rfl rfl rfl hl.1 (Nat.le_of_ble_eq_true rfl) ⟨Nat.le_of_ble_eq_true rfl, Nat.le_of_ble_eq_true rfl⟩ ⟨Nat.le_refl _, Nat.le_refl _⟩ rfl dX12_time_34 ?_
      refine z_aload_n C (i := 0) (k := 0) hl dX12_time_37 rfl rfl ?_
      refine z_getr C 50 30 70 fw_X12_69 sh_50 rfl dX12_time_38 ?_
      refine z_sipush C (201 : Int32) dX12_time_41 (by decide) ?_
      refine z_iload_n C (i := 1) (k := 1) hl dX12_time_44 rfl rfl ?_
      refine z_imul C dX12_time_45 ?_
      refine z_iload_n C (i := 2) (k := 2) hl dX12_time_46 rfl rfl ?_
      refine z_iadd C dX12_time_47 ?_
      obtain ⟨hi11, h⟩ := gd h
      refine z_iald C 70 2010 sh_70 hi11 dX12_time_48 ?_
      refine z_istore_n C (i := 3) [(3, .int (u9.1 70 (((201 : Int32) * x1) + x2).toNatClampNeg)), (0, .ref (ad 50)), (1, .int x1), (2, .int x2)] hl dX12_time_49 rfl (by decide) rfl (fun ls hl => ?_)
      refine z_iload_n C (i := 3) (k := 0) hl dX12_time_50 rfl rfl ?_
      refine z_iconst C (-1 : Int32) dX12_time_51 (by decide) ?_
      refine z_icmp_ne C 57 dX12_time_52 (by decide) (fun hc12 => ?_) (fun hc12 => ?_)
      · replace h := (if_neg hc12).symm.trans h
        refine z_aload_n C (i := 0) (k := 1) hl dX12_time_57 rfl rfl ?_
        refine z_iconst C (0 : Int32) dX12_time_58 (by decide) ?_
        refine z_puti C 50 0 pw_X12_75 sh_50 rfl dX12_time_59 ?_
        refine z_iload_n C (i := 3) (k := 0) hl dX12_time_62 rfl rfl ?_
        obtain ⟨rfl, rfl⟩ := r2 h
        exact z_iret C dX12_time_63
      · replace h := (if_pos hc12).symm.trans h
        refine z_iconst C (0 : Int32) dX12_time_55 (by decide) ?_
        obtain ⟨rfl, rfl⟩ := r2 h
        exact z_iret C dX12_time_56
    · replace h := (if_pos hc13).symm.trans h
      refine z_iconst C (0 : Int32) dX12_time_30 (by decide) ?_
      obtain ⟨rfl, rfl⟩ := r2 h
      exact z_iret C dX12_time_31
def f_X12_tokens (F : Nat) (x1 : Int32) (x2 : Int32) (u : St) : Option (Int32 × St) := (Option.bind (f_X12_isIn F x1 (0 : Int32) (((wr u 50 0 (0 : Int32)).1 50 25) - (1 : Int32)) (wr u 50 0 (0 : Int32))) (fun w4 => (if w4.1 = 0 then some ((0 : Int32), w4.2) else (Option.bind (f_X12_isIn F x2 (0 : Int32) (9 : Int32) w4.2) (fun w8 => (if w8.1 = 0 then some ((0 : Int32), w8.2) else (if x1 < 0 ∨ 20 ≤ x1.toNatClampNeg then none else some ((1 : Int32), (wr w8.2 69 x1.toNatClampNeg x2)))))))))
set_option maxRecDepth 20000 in
set_option maxHeartbeats 4000000 in
theorem m_X12_tokens (F : Nat) (x1 : Int32) (x2 : Int32) (u : St) (r : Int32) (u' : St)  (h : f_X12_tokens F x1 x2 u = some (r, u')) : Mt yX12_tokens cX12_tokens 3 (some .boolean) 1 (fun ad => [.ref (ad 50), .int x1, .int x2]) u (fun _ => some (.int r)) u' := by
  refine Mt.of (by decide) (fun ad => Nat.le_of_ble_eq_true rfl) ?_
  intro p l e s m args below meth c D cA ad ls C hl
  have hl : lv_has ls 3 [(0, .ref (ad 50)), (1, .int x1), (2, .int x2)] := hl
  unfold f_X12_tokens at h
  refine z_aload_n C (i := 0) (k := 0) hl dX12_tokens_0 rfl rfl ?_
  refine z_iconst C (0 : Int32) dX12_tokens_1 (by decide) ?_
  refine z_puti C 50 0 pw_X12_75 sh_50 rfl dX12_tokens_2 ?_
  refine z_iload_n C (i := 1) (k := 1) hl dX12_tokens_5 rfl rfl ?_
  refine z_iconst C (0 : Int32) dX12_tokens_6 (by decide) ?_
  refine z_aload_n C (i := 0) (k := 0) hl dX12_tokens_7 rfl rfl ?_
  refine z_geti C 50 25 fw_X12_159 sh_50 rfl dX12_tokens_8 ?_
  refine z_iconst C (1 : Int32) dX12_tokens_11 (by decide) ?_
  refine z_isub C dX12_tokens_12 ?_
  obtain ⟨⟨r3, u1⟩, hc2, h⟩ := bnd h
  try dsimp only at h
  refine z_callS C [.int x1, .int (0 : Int32), .int (((wr u 50 0 (0 : Int32)).1 50 25) - (1 : Int32))] [] [.int r3] (m_X12_isIn F _ _ _ _ _ _ hc2) cw_X12_isIn sw_X12_isIn ml_X12_148 rfl rfl rfl hl.1 (Nat.le_of_ble_eq_true rfl) ⟨Nat.le_of_ble_eq_true rfl, Nat.le_of_ble_eq_true rfl⟩ ⟨Nat.le_refl _, Nat.le_refl _⟩ rfl dX12_tokens_13 ?_
  refine z_if_eq C 29 dX12_tokens_16 (by decide) (fun hc11 => ?_) (fun hc11 => ?_)
  · replace h := (if_pos hc11).symm.trans h
    refine z_iconst C (0 : Int32) dX12_tokens_29 (by decide) ?_
    obtain ⟨rfl, rfl⟩ := r2 h
    exact z_zret (by decide) C dX12_tokens_30
  · replace h := (if_neg hc11).symm.trans h
    refine z_iload_n C (i := 2) (k := 2) hl dX12_tokens_19 rfl rfl ?_
    refine z_iconst C (0 : Int32) dX12_tokens_20 (by decide) ?_
    refine z_bipush C (9 : Int32) dX12_tokens_21 (by decide) ?_
    obtain ⟨⟨r7, u5⟩, hc6, h⟩ := bnd h
    try dsimp only at h
    refine z_callS C [.int x2, .int (0 : Int32), .int (9 : Int32)] [] [.int r7] (m_X12_isIn F _ _ _ _ _ _ hc6) cw_X12_isIn sw_X12_isIn ml_X12_148 rfl rfl rfl hl.1 (Nat.le_of_ble_eq_true rfl) ⟨Nat.le_of_ble_eq_true rfl, Nat.le_of_ble_eq_true rfl⟩ ⟨Nat.le_refl _, Nat.le_refl _⟩ rfl dX12_tokens_23 ?_
    refine z_if_ne C 31 dX12_tokens_26 (by decide) (fun hc10 => ?_) (fun hc10 => ?_)
    · replace h := (if_neg hc10).symm.trans h
      refine z_aload_n C (i := 0) (k := 0) hl dX12_tokens_31 rfl rfl ?_
      refine z_getr C 50 23 69 fw_X12_66 sh_50 rfl dX12_tokens_32 ?_
      refine z_iload_n C (i := 1) (k := 1) hl dX12_tokens_35 rfl rfl ?_
      refine z_iload_n C (i := 2) (k := 2) hl dX12_tokens_36 rfl rfl ?_
      obtain ⟨hi9, h⟩ := gd h
      refine z_iast C 69 20 sh_69 hi9 dX12_tokens_37 ?_
      refine z_iconst C (1 : Int32) dX12_tokens_38 (by decide) ?_
      obtain ⟨rfl, rfl⟩ := r2 h
      exact z_zret (by decide) C dX12_tokens_39
    · replace h := (if_pos hc10).symm.trans h
      refine z_iconst C (0 : Int32) dX12_tokens_29 (by decide) ?_
      obtain ⟨rfl, rfl⟩ := r2 h
      exact z_zret (by decide) C dX12_tokens_30
def b_X12_turn_47 (F : Nat) (x1 : Int32) (rec : Int64 → Int64 → St → Option (Int64 × Int64 × St)) (x2 : Int64) (x4 : Int64) (u : St) : Option (Int64 × Int64 × St) := (if (lg_cmp x4 (0 : Int64)) = 0 then some (x2, x4, u) else (if x4 = 0 then none else rec x4 ((x2 - x2 / x4 * x4)) u))
def l_X12_turn_47 (F : Nat) (x1 : Int32) : Nat → Int64 → Int64 → St → Option (Int64 × Int64 × St)
  | 0, _, _, _ => none
  | k + 1, x2, x4, u => b_X12_turn_47 F x1 (l_X12_turn_47 F x1 k) x2 x4 u
def f_X12_turn (F : Nat) (x1 : Int32) (u : St) : Option (Int64 × St) := (Option.bind (f_X12_goRound F (wr u 50 0 (0 : Int32))) (fun u1 => (Option.bind (f_X12_isIn F x1 (0 : Int32) (1 : Int32) u1) (fun w6 => (if w6.1 = 0 then some ((-1 : Int64), w6.2) else (if (w6.2.1 50 26) = 0 then (if (w6.2.1 50 27) = 0 then some ((-1 : Int64), w6.2) else (Option.bind (l_X12_turn_47 F x1 F (w6.2.2 50 28) (w6.2.2 50 29) w6.2) (fun w9 => (if x1 = 0 then (if w9.1 = 0 then none else some (((w9.2.2.2 50 28) / w9.1), w9.2.2)) else (if w9.1 = 0 then none else some (((w9.2.2.2 50 29) / w9.1), w9.2.2)))))) else some ((-1 : Int64), w6.2)))))))
set_option maxRecDepth 20000 in
set_option maxHeartbeats 4000000 in
theorem zl_X12_turn_47 {p : Program} {l : Launch} {e : Env} {s : State} {m : MethodId} {args : Array Value} {below : List Frame} {meth : Method} {c : Code} {D : va_G} {cA : Nat → ClassId} {ad : Nat → Nat} {Q : State → Prop} (C : Cx SH p s m args meth c cX12_turn 8 (some .long) RX12 D cA ad (inAd ad)) (F : Nat) (x1 : Int32)  {out : Int64 × Int64 × St}  (K : ∀ ls : Array Slot, lv_has ls 8 [(0, .ref (ad 50)), (1, .int x1), (2, .long out.1), (4, .long out.2.1)] → Z SH p l e (rmD 14) s m args below meth c D cA ad (inAd ad) 0 0 Q out.2.2 70 ls []) : ∀ (k : Nat) (x2 : Int64) (x4 : Int64) (u : St), l_X12_turn_47 F x1 k x2 x4 u = some out → ∀ ls : Array Slot, lv_has ls 8 [(0, .ref (ad 50)), (1, .int x1), (2, .long x2), (4, .long x4)] → Z SH p l e (rmD 14) s m args below meth c D cA ad (inAd ad) 0 0 Q u 47 ls [] := by
  intro k
  induction k with
  | zero => intro x2 x4 u h; cases h
  | succ k ih =>
    intro x2 x4 u h ls hl
    replace h : b_X12_turn_47 F x1 (l_X12_turn_47 F x1 k) x2 x4 u = some out := h
    unfold b_X12_turn_47 at h
    refine z_lload C (i := 4) (k := 3) hl dX12_turn_47 rfl ?_
    refine z_lconst C (0 : Int64) dX12_turn_49 (by decide) ?_
    refine z_lcmp C dX12_turn_50 ?_
    refine z_if_eq C 70 dX12_turn_51 (by decide) (fun hc8 => ?_) (fun hc8 => ?_)
    · replace h := (if_pos hc8).symm.trans h
      obtain rfl := Option.some.inj h
      exact K _ (lv_sub hl [0, 1, 2, 3] rfl)
    · replace h := (if_neg hc8).symm.trans h
      refine z_lload_n C (i := 2) (k := 2) hl dX12_turn_54 rfl rfl ?_
      refine z_lload C (i := 4) (k := 3) hl dX12_turn_55 rfl ?_
      obtain ⟨hn7, h⟩ := gd h
      refine z_lrem C dX12_turn_57 hn7 ?_
      refine z_lstore C (i := 6) [(6, .long (x2 - x2 / x4 * x4)), (0, .ref (ad 50)), (1, .int x1), (2, .long x2), (4, .long x4)] hl dX12_turn_58 (by decide) rfl (fun ls hl => ?_)
      refine z_lload C (i := 4) (k := 4) hl dX12_turn_60 rfl ?_
      refine z_lstore_n C (i := 2) [(2, .long x4), (6, .long (x2 - x2 / x4 * x4)), (0, .ref (ad 50)), (1, .int x1), (4, .long x4)] hl dX12_turn_62 rfl (by decide) rfl (fun ls hl => ?_)
      refine z_lload C (i := 6) (k := 1) hl dX12_turn_63 rfl ?_
      refine z_lstore C (i := 4) [(4, .long (x2 - x2 / x4 * x4)), (2, .long x4), (6, .long (x2 - x2 / x4 * x4)), (0, .ref (ad 50)), (1, .int x1)] hl dX12_turn_65 (by decide) rfl (fun ls hl => ?_)
      refine z_goto C 47 dX12_turn_67 (by decide) ?_
      exact ih _ _ _ h _ (lv_sub hl [3, 4, 1, 0] rfl)
set_option maxRecDepth 20000 in
set_option maxHeartbeats 4000000 in
theorem m_X12_turn (F : Nat) (x1 : Int32) (u : St) (r : Int64) (u' : St)  (h : f_X12_turn F x1 u = some (r, u')) : Mt yX12_turn cX12_turn 8 (some .long) 14 (fun ad => [.ref (ad 50), .int x1]) u (fun _ => some (.long r)) u' := by
  refine Mt.of (by decide) (fun ad => Nat.le_of_ble_eq_true rfl) ?_
  intro p l e s m args below meth c D cA ad ls C hl
  have hl : lv_has ls 8 [(0, .ref (ad 50)), (1, .int x1)] := hl
  unfold f_X12_turn at h
  refine z_aload_n C (i := 0) (k := 0) hl dX12_turn_0 rfl rfl ?_
  refine z_iconst C (0 : Int32) dX12_turn_1 (by decide) ?_
  refine z_puti C 50 0 pw_X12_75 sh_50 rfl dX12_turn_2 ?_
  refine z_aload_n C (i := 0) (k := 0) hl dX12_turn_5 rfl rfl ?_
  obtain ⟨u1, hc2, h⟩ := bnd h
  refine z_callV C (ci := 12) [] [] [] (m_X12_goRound F  _ _ hc2) cw_X12_goRound vw_X12_goRound ml_X12_186 sh_50 rfl rfl rfl rfl hl.1 (Nat.le_of_ble_eq_true rfl) ⟨Nat.le_of_ble_eq_true rfl, Nat.le_of_ble_eq_true rfl⟩ ⟨Nat.le_refl _, Nat.le_refl _⟩ rfl dX12_turn_6 ?_
  refine z_iload_n C (i := 1) (k := 1) hl dX12_turn_9 rfl rfl ?_
  refine z_iconst C (0 : Int32) dX12_turn_10 (by decide) ?_
  refine z_iconst C (1 : Int32) dX12_turn_11 (by decide) ?_
  obtain ⟨⟨r5, u3⟩, hc4, h⟩ := bnd h
  try dsimp only at h
  refine z_callS C [.int x1, .int (0 : Int32), .int (1 : Int32)] [] [.int r5] (m_X12_isIn F _ _ _ _ _ _ hc4) cw_X12_isIn sw_X12_isIn ml_X12_148 rfl rfl rfl hl.1 (Nat.le_of_ble_eq_true rfl) ⟨Nat.le_of_ble_eq_true rfl, Nat.le_of_ble_eq_true rfl⟩ ⟨Nat.le_refl _, Nat.le_refl _⟩ rfl dX12_turn_12 ?_
  refine z_if_eq C 32 dX12_turn_15 (by decide) (fun hc16 => ?_) (fun hc16 => ?_)
  · replace h := (if_pos hc16).symm.trans h
    refine z_ldc2 C (v := (-1 : Int64)) kw_X12_184 dX12_turn_32 ?_
    obtain ⟨rfl, rfl⟩ := r2 h
    exact z_lret C dX12_turn_35
  · replace h := (if_neg hc16).symm.trans h
    refine z_aload_n C (i := 0) (k := 0) hl dX12_turn_18 rfl rfl ?_
    refine z_geti C 50 26 fw_X12_173 sh_50 rfl dX12_turn_19 ?_
    refine z_if_ne C 32 dX12_turn_22 (by decide) (fun hc15 => ?_) (fun hc15 => ?_)
    · replace h := (if_neg hc15).symm.trans h
      refine z_ldc2 C (v := (-1 : Int64)) kw_X12_184 dX12_turn_32 ?_
      obtain ⟨rfl, rfl⟩ := r2 h
      exact z_lret C dX12_turn_35
    · replace h := (if_pos hc15).symm.trans h
      refine z_aload_n C (i := 0) (k := 0) hl dX12_turn_25 rfl rfl ?_
      refine z_geti C 50 27 fw_X12_170 sh_50 rfl dX12_turn_26 ?_
      refine z_if_ne C 36 dX12_turn_29 (by decide) (fun hc14 => ?_) (fun hc14 => ?_)
      · replace h := (if_neg hc14).symm.trans h
        refine z_aload_n C (i := 0) (k := 0) hl dX12_turn_36 rfl rfl ?_
        refine z_getl C 50 28 fw_X12_181 sh_50 rfl dX12_turn_37 ?_
        refine z_lstore_n C (i := 2) [(2, .long (u3.2 50 28)), (0, .ref (ad 50)), (1, .int x1)] hl dX12_turn_40 rfl (by decide) rfl (fun ls hl => ?_)
        refine z_aload_n C (i := 0) (k := 1) hl dX12_turn_41 rfl rfl ?_
        refine z_getl C 50 29 fw_X12_177 sh_50 rfl dX12_turn_42 ?_
        refine z_lstore C (i := 4) [(4, .long (u3.2 50 29)), (2, .long (u3.2 50 28)), (0, .ref (ad 50)), (1, .int x1)] hl dX12_turn_45 (by decide) rfl (fun ls hl => ?_)
        obtain ⟨w9, hw10, h⟩ := bnd h
        refine zl_X12_turn_47 C F x1 (out := w9) (fun ls hl => ?_) F _ _ _ hw10 _ (lv_sub hl [2, 3, 1, 0] rfl)
        refine z_iload_n C (i := 1) (k := 1) hl dX12_turn_70 rfl rfl ?_
        refine z_if_ne C 83 dX12_turn_71 (by decide) (fun hc13 => ?_) (fun hc13 => ?_)
        · replace h := (if_neg hc13).symm.trans h
          refine z_aload_n C (i := 0) (k := 0) hl dX12_turn_83 rfl rfl ?_
          refine z_getl C 50 29 fw_X12_177 sh_50 rfl dX12_turn_84 ?_
          refine z_lload_n C (i := 2) (k := 2) hl dX12_turn_87 rfl rfl ?_
          obtain ⟨hn11, h⟩ := gd h
          refine z_ldiv C dX12_turn_88 hn11 ?_
          obtain ⟨rfl, rfl⟩ := r2 h
          exact z_lret C dX12_turn_89
        · replace h := (if_pos hc13).symm.trans h
          refine z_aload_n C (i := 0) (k := 0) hl dX12_turn_74 rfl rfl ?_
          refine z_getl C 50 28 fw_X12_181 sh_50 rfl dX12_turn_75 ?_
          refine z_lload_n C (i := 2) (k := 2) hl dX12_turn_78 rfl rfl ?_
          obtain ⟨hn12, h⟩ := gd h
          refine z_ldiv C dX12_turn_79 hn12 ?_
          refine z_goto C 89 dX12_turn_80 (by decide) ?_
          obtain ⟨rfl, rfl⟩ := r2 h
          exact z_lret C dX12_turn_89
      · replace h := (if_pos hc14).symm.trans h
        refine z_ldc2 C (v := (-1 : Int64)) kw_X12_184 dX12_turn_32 ?_
        obtain ⟨rfl, rfl⟩ := r2 h
        exact z_lret C dX12_turn_35
def f_X12_way (F : Nat) (x1 : Int32) (u : St) : Option (Int32 × St) := (Option.bind (f_X12_walks F u) (fun u1 => (Option.bind (f_X12_isState F x1 u1) (fun w6 => (if w6.1 = 0 then some ((-1 : Int32), w6.2) else (if x1 < 0 ∨ 4096 ≤ x1.toNatClampNeg then none else (if (w6.2.1 61 x1.toNatClampNeg) = (-1 : Int32) then some ((-1 : Int32), w6.2) else (Option.bind (f_X12_wayLong F x1 w6.2) (fun w11 => some (w11.1, w11.2))))))))))
set_option maxRecDepth 20000 in
set_option maxHeartbeats 4000000 in
theorem m_X12_way (F : Nat) (x1 : Int32) (u : St) (r : Int32) (u' : St)  (h : f_X12_way F x1 u = some (r, u')) : Mt yX12_way cX12_way 2 (some .int) 2 (fun ad => [.ref (ad 50), .int x1]) u (fun _ => some (.int r)) u' := by
  refine Mt.of (by decide) (fun ad => Nat.le_of_ble_eq_true rfl) ?_
  intro p l e s m args below meth c D cA ad ls C hl
  have hl : lv_has ls 2 [(0, .ref (ad 50)), (1, .int x1)] := hl
  unfold f_X12_way at h
  refine z_aload_n C (i := 0) (k := 0) hl dX12_way_0 rfl rfl ?_
  obtain ⟨u1, hc2, h⟩ := bnd h
  refine z_callV C (ci := 12) [] [] [] (m_X12_walks F  _ _ hc2) cw_X12_walks vw_X12_walks ml_X12_126 sh_50 rfl rfl rfl rfl hl.1 (Nat.le_of_ble_eq_true rfl) ⟨Nat.le_of_ble_eq_true rfl, Nat.le_of_ble_eq_true rfl⟩ ⟨Nat.le_refl _, Nat.le_refl _⟩ rfl dX12_way_1 ?_
  refine z_iload_n C (i := 1) (k := 1) hl dX12_way_4 rfl rfl ?_
  obtain ⟨⟨r5, u3⟩, hc4, h⟩ := bnd h
  try dsimp only at h
  refine z_callS C [.int x1] [] [.int r5] (m_X12_isState F _ _ _ _ hc4) cw_X12_isState sw_X12_isState ml_X12_111 rfl rfl rfl hl.1 (Nat.le_of_ble_eq_true rfl) ⟨Nat.le_of_ble_eq_true rfl, Nat.le_of_ble_eq_true rfl⟩ ⟨Nat.le_refl _, Nat.le_refl _⟩ rfl dX12_way_5 ?_
  refine z_if_eq C 29 dX12_way_8 (by decide) (fun hc13 => ?_) (fun hc13 => ?_)
  · replace h := (if_pos hc13).symm.trans h
    refine z_iconst C (-1 : Int32) dX12_way_29 (by decide) ?_
    obtain ⟨rfl, rfl⟩ := r2 h
    exact z_iret C dX12_way_30
  · replace h := (if_neg hc13).symm.trans h
    refine z_aload_n C (i := 0) (k := 0) hl dX12_way_11 rfl rfl ?_
    refine z_getr C 50 14 61 fw_X12_42 sh_50 rfl dX12_way_12 ?_
    refine z_iload_n C (i := 1) (k := 1) hl dX12_way_15 rfl rfl ?_
    obtain ⟨hi7, h⟩ := gd h
    refine z_iald C 61 4096 sh_61 hi7 dX12_way_16 ?_
    refine z_iconst C (-1 : Int32) dX12_way_17 (by decide) ?_
    refine z_icmp_eq C 29 dX12_way_18 (by decide) (fun hc12 => ?_) (fun hc12 => ?_)
    · replace h := (if_pos hc12).symm.trans h
      refine z_iconst C (-1 : Int32) dX12_way_29 (by decide) ?_
      obtain ⟨rfl, rfl⟩ := r2 h
      exact z_iret C dX12_way_30
    · replace h := (if_neg hc12).symm.trans h
      refine z_aload_n C (i := 0) (k := 0) hl dX12_way_21 rfl rfl ?_
      refine z_iload_n C (i := 1) (k := 1) hl dX12_way_22 rfl rfl ?_
      obtain ⟨⟨r10, u8⟩, hc9, h⟩ := bnd h
      try dsimp only at h
      refine z_callV C (ci := 12) [.int x1] [] [.int r10] (m_X12_wayLong F _ _ _ _ hc9) cw_X12_wayLong vw_X12_wayLong ml_X12_136 sh_50 rfl rfl rfl rfl hl.1 (Nat.le_of_ble_eq_true rfl) ⟨Nat.le_of_ble_eq_true rfl, Nat.le_of_ble_eq_true rfl⟩ ⟨Nat.le_refl _, Nat.le_refl _⟩ rfl dX12_way_23 ?_
      refine z_goto C 30 dX12_way_26 (by decide) ?_
      obtain ⟨rfl, rfl⟩ := r2 h
      exact z_iret C dX12_way_30
