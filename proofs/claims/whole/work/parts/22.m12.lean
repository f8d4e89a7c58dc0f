def f_X12_dead (F : Nat)  (u : St) : Option (Int32 × St) := (Option.bind (f_X12_goRound F (wr u 50 0 (0 : Int32))) (fun u1 => (if (u1.1 50 26) = 0 then some ((0 : Int32), u1) else some ((1 : Int32), u1))))
set_option maxRecDepth 20000 in
set_option maxHeartbeats 4000000 in
theorem m_X12_dead (F : Nat)  (u : St) (r : Int32) (u' : St)  (h : f_X12_dead F  u = some (r, u')) : Mt yX12_dead cX12_dead 1 (some .int) 14 (fun ad => [.ref (ad 50)]) u (fun _ => some (.int r)) u' := by
  refine Mt.of (by decide) (fun ad => Nat.le_of_ble_eq_true rfl) ?_
  intro p l e s m args below meth c D cA ad ls C hl
  have hl : lv_has ls 1 [(0, .ref (ad 50))] := hl
  unfold f_X12_dead at h
  refine z_aload_n C (i := 0) (k := 0) hl dX12_dead_0 rfl rfl ?_
  refine z_iconst C (0 : Int32) dX12_dead_1 (by decide) ?_
  refine z_puti C 50 0 pw_X12_75 sh_50 rfl dX12_dead_2 ?_
  refine z_aload_n C (i := 0) (k := 0) hl dX12_dead_5 rfl rfl ?_
  obtain ⟨u1, hc2, h⟩ := bnd h
  refine z_callV C (ci := 12) [] [] [] (m_X12_goRound F  _ _ hc2) cw_X12_goRound vw_X12_goRound ml_X12_186 sh_50 rfl rfl rfl rfl hl.1 (Nat.le_of_ble_eq_true rfl) ⟨Nat.le_of_ble_eq_true rfl, Nat.le_of_ble_eq_true rfl⟩ ⟨Nat.le_refl _, Nat.le_refl _⟩ rfl dX12_dead_6 ?_
  refine z_aload_n C (i := 0) (k := 0) hl dX12_dead_9 rfl rfl ?_
  refine z_geti C 50 26 fw_X12_173 sh_50 rfl dX12_dead_10 ?_
  refine z_if_eq C 20 dX12_dead_13 (by decide) (fun hc3 => ?_) (fun hc3 => ?_)
  · replace h := (if_pos hc3).symm.trans h
    refine z_iconst C (0 : Int32) dX12_dead_20 (by decide) ?_
    obtain ⟨rfl, rfl⟩ := r2 h
    exact z_iret C dX12_dead_21
  · replace h := (if_neg hc3).symm.trans h
    refine z_iconst C (1 : Int32) dX12_dead_16 (by decide) ?_
    refine z_goto C 21 dX12_dead_17 (by decide) ?_
    obtain ⟨rfl, rfl⟩ := r2 h
    exact z_iret C dX12_dead_21
def f_X12_end (F : Nat) (x1 : Int32) (u : St) : Option (Int32 × St) := (if x1 < 0 then some ((0 : Int32), (wr u 50 0 (0 : Int32))) else (if x1 ≤ ((wr u 50 0 (0 : Int32)).1 50 2) then some ((1 : Int32), (wr (wr u 50 0 (0 : Int32)) 50 2 x1)) else some ((0 : Int32), (wr u 50 0 (0 : Int32)))))
set_option maxRecDepth 20000 in
set_option maxHeartbeats 4000000 in
theorem m_X12_end (F : Nat) (x1 : Int32) (u : St) (r : Int32) (u' : St)  (h : f_X12_end F x1 u = some (r, u')) : Mt yX12_end cX12_end 2 (some .boolean) 0 (fun ad => [.ref (ad 50), .int x1]) u (fun _ => some (.int r)) u' := by
  refine Mt.of (by decide) (fun ad => Nat.le_of_ble_eq_true rfl) ?_
  intro p l e s m args below meth c D cA ad ls C hl
  have hl : lv_has ls 2 [(0, .ref (ad 50)), (1, .int x1)] := hl
  unfold f_X12_end at h
  refine z_aload_n C (i := 0) (k := 0) hl dX12_end_0 rfl rfl ?_
  refine z_iconst C (0 : Int32) dX12_end_1 (by decide) ?_
  refine z_puti C 50 0 pw_X12_75 sh_50 rfl dX12_end_2 ?_
  refine z_iload_n C (i := 1) (k := 1) hl dX12_end_5 rfl rfl ?_
  refine z_if_lt C 17 dX12_end_6 (by decide) (fun hc2 => ?_) (fun hc2 => ?_)
  · replace h := (if_pos hc2).symm.trans h
    refine z_iconst C (0 : Int32) dX12_end_17 (by decide) ?_
    obtain ⟨rfl, rfl⟩ := r2 h
    exact z_zret (by decide) C dX12_end_18
  · replace h := (if_neg hc2).symm.trans h
    refine z_iload_n C (i := 1) (k := 1) hl dX12_end_9 rfl rfl ?_
    refine z_aload_n C (i := 0) (k := 0) hl dX12_end_10 rfl rfl ?_
    refine z_geti C 50 2 fw_X12_79 sh_50 rfl dX12_end_11 ?_
    refine z_icmp_le C 19 dX12_end_14 (by decide) (fun hc1 => ?_) (fun hc1 => ?_)
    · replace h := (if_pos hc1).symm.trans h
      refine z_aload_n C (i := 0) (k := 0) hl dX12_end_19 rfl rfl ?_
      refine z_iload_n C (i := 1) (k := 1) hl dX12_end_20 rfl rfl ?_
      refine z_puti C 50 2 pw_X12_79 sh_50 rfl dX12_end_21 ?_
      refine z_iconst C (1 : Int32) dX12_end_24 (by decide) ?_
      obtain ⟨rfl, rfl⟩ := r2 h
      exact z_zret (by decide) C dX12_end_25
    · replace h := (if_neg hc1).symm.trans h
      refine z_iconst C (0 : Int32) dX12_end_17 (by decide) ?_
      obtain ⟨rfl, rfl⟩ := r2 h
      exact z_zret (by decide) C dX12_end_18
def f_X12_fault (F : Nat)  (u : St) : Option (Int32 × St) := (Option.bind (f_X12_read F (wr u 50 0 (0 : Int32))) (fun w4 => some (w4.1, w4.2)))
set_option maxRecDepth 20000 in
set_option maxHeartbeats 4000000 in
theorem m_X12_fault (F : Nat)  (u : St) (r : Int32) (u' : St)  (h : f_X12_fault F  u = some (r, u')) : Mt yX12_fault cX12_fault 1 (some .int) 4 (fun ad => [.ref (ad 50)]) u (fun _ => some (.int r)) u' := by
  refine Mt.of (by decide) (fun ad => Nat.le_of_ble_eq_true rfl) ?_
  intro p l e s m args below meth c D cA ad ls C hl
  have hl : lv_has ls 1 [(0, .ref (ad 50))] := hl
  unfold f_X12_fault at h
  refine z_aload_n C (i := 0) (k := 0) hl dX12_fault_0 rfl rfl ?_
  refine z_iconst C (0 : Int32) dX12_fault_1 (by decide) ?_
  refine z_puti C 50 0 pw_X12_75 sh_50 rfl dX12_fault_2 ?_
  refine z_aload_n C (i := 0) (k := 0) hl dX12_fault_5 rfl rfl ?_
  obtain ⟨⟨r3, u1⟩, hc2, h⟩ := bnd h
  try dsimp only at h
  refine z_callV C (ci := 12) [] [] [.int r3] (m_X12_read F  _ _ _ hc2) cw_X12_read vw_X12_read ml_X12_108 sh_50 rfl rfl rfl rfl hl.1 (Nat.le_of_ble_eq_true rfl) ⟨Nat.le_of_ble_eq_true rfl, Nat.le_of_ble_eq_true rfl⟩ ⟨Nat.le_refl _, Nat.le_refl _⟩ rfl dX12_fault_6 ?_
  obtain ⟨rfl, rfl⟩ := r2 h
  exact z_iret C dX12_fault_9
def b_X12_bytesIn_5 (F : Nat) (x0 : Int32) (rec : Int32 → Int32 → St → Option (Int32 × Int32 × St)) (x1 : Int32) (x2 : Int32) (u : St) : Option (Int32 × Int32 × St) := (if x2 < 0 then some (x1, x2, u) else (if ((x0 >>> (x2 &&& 31)) &&& (255 : Int32)) = 0 then rec ((x1 + (0 : Int32))) ((x2 + (-8 : Int32))) u else rec ((x1 + (1 : Int32))) ((x2 + (-8 : Int32))) u))
def l_X12_bytesIn_5 (F : Nat) (x0 : Int32) : Nat → Int32 → Int32 → St → Option (Int32 × Int32 × St)
  | 0, _, _, _ => none
  | k + 1, x1, x2, u => b_X12_bytesIn_5 F x0 (l_X12_bytesIn_5 F x0 k) x1 x2 u
def f_X12_bytesIn (F : Nat) (x0 : Int32) (u : St) : Option (Int32 × St) := (Option.bind (l_X12_bytesIn_5 F x0 F (0 : Int32) (24 : Int32) u) (fun w3 => some (w3.1, w3.2.2)))
set_option maxRecDepth 20000 in
set_option maxHeartbeats 4000000 in
theorem zl_X12_bytesIn_5 {p : Program} {l : Launch} {e : Env} {s : State} {m : MethodId} {args : Array Value} {below : List Frame} {meth : Method} {c : Code} {D : va_G} {cA : Nat → ClassId} {ad : Nat → Nat} {Q : State → Prop} (C : Cx SH p s m args meth c cX12_bytesIn 3 (some .int) RX12 D cA ad (inAd ad)) (F : Nat) (x0 : Int32)  {out : Int32 × Int32 × St}  (K : ∀ ls : Array Slot, lv_has ls 3 [(0, .int x0), (1, .int out.1), (2, .int out.2.1)] → Z SH p l e (rmD 0) s m args below meth c D cA ad (inAd ad) 0 0 Q out.2.2 33 ls []) : ∀ (k : Nat) (x1 : Int32) (x2 : Int32) (u : St), l_X12_bytesIn_5 F x0 k x1 x2 u = some out → ∀ ls : Array Slot, lv_has ls 3 [(0, .int x0), (1, .int x1), (2, .int x2)] → Z SH p l e (rmD 0) s m args below meth c D cA ad (inAd ad) 0 0 Q u 5 ls [] := by
  intro k
  induction k with
  | zero => intro x1 x2 u h; cases h
  | succ k ih =>
    intro x1 x2 u h ls hl
    replace h : b_X12_bytesIn_5 F x0 (l_X12_bytesIn_5 F x0 k) x1 x2 u = some out := h
    unfold b_X12_bytesIn_5 at h
    refine z_iload_n C (i := 2) (k := 2) hl dX12_bytesIn_5 rfl rfl ?_
    refine z_if_lt C 33 dX12_bytesIn_6 (by decide) (fun hc2 => ?_) (fun hc2 => ?_)
    · replace h := (if_pos hc2).symm.trans h
      obtain rfl := Option.some.inj h
      exact K _ (lv_sub hl [0, 1, 2] rfl)
    · replace h := (if_neg hc2).symm.trans h
      refine z_iload_n C (i := 1) (k := 1) hl dX12_bytesIn_9 rfl rfl ?_
      refine z_iload_n C (i := 0) (k := 0) hl dX12_bytesIn_10 rfl rfl ?_
      refine z_iload_n C (i := 2) (k := 2) hl dX12_bytesIn_11 rfl rfl ?_
      refine z_ishr C dX12_bytesIn_12 ?_
      refine z_sipush C (255 : Int32) dX12_bytesIn_13 (by decide) ?_
      refine z_iand C dX12_bytesIn_16 ?_
      refine z_if_eq C 24 dX12_bytesIn_17 (by decide) (fun hc1 => ?_) (fun hc1 => ?_)
      · replace h := (if_pos hc1).symm.trans h
        refine z_iconst C (0 : Int32) dX12_bytesIn_24 (by decide) ?_
        refine z_iadd C dX12_bytesIn_25 ?_
        refine z_istore_n C (i := 1) [(1, .int (x1 + (0 : Int32))), (0, .int x0), (2, .int x2)] hl dX12_bytesIn_26 rfl (by decide) rfl (fun ls hl => ?_)
        refine z_iinc C (i := 2) (k := 2) (x2 + (-8 : Int32)) [(2, .int (x2 + (-8 : Int32))), (1, .int (x1 + (0 : Int32))), (0, .int x0)] hl dX12_bytesIn_27 rfl rfl (by decide) rfl (fun ls hl => ?_)
        refine z_goto C 5 dX12_bytesIn_30 (by decide) ?_
        exact ih _ _ _ h _ (lv_sub hl [2, 1, 0] rfl)
      · replace h := (if_neg hc1).symm.trans h
        refine z_iconst C (1 : Int32) dX12_bytesIn_20 (by decide) ?_
        refine z_goto C 25 dX12_bytesIn_21 (by decide) ?_
        refine z_iadd C dX12_bytesIn_25 ?_
        refine z_istore_n C (i := 1) [(1, .int (x1 + (1 : Int32))), (0, .int x0), (2, .int x2)] hl dX12_bytesIn_26 rfl (by decide) rfl (fun ls hl => ?_)
        refine z_iinc C (i := 2) (k := 2) (x2 + (-8 : Int32)) [(2, .int (x2 + (-8 : Int32))), (1, .int (x1 + (1 : Int32))), (0, .int x0)] hl dX12_bytesIn_27 rfl rfl (by decide) rfl (fun ls hl => ?_)
        refine z_goto C 5 dX12_bytesIn_30 (by decide) ?_
        exact ih _ _ _ h _ (lv_sub hl [2, 1, 0] rfl)
set_option maxRecDepth 20000 in
set_option maxHeartbeats 4000000 in
theorem m_X12_bytesIn (F : Nat) (x0 : Int32) (u : St) (r : Int32) (u' : St)  (h : f_X12_bytesIn F x0 u = some (r, u')) : Mt yX12_bytesIn cX12_bytesIn 3 (some .int) 0 (fun ad => [.int x0]) u (fun _ => some (.int r)) u' := by
  refine Mt.of (by decide) (fun ad => Nat.le_of_ble_eq_true rfl) ?_
  intro p l e s m args below meth c D cA ad ls C hl
  have hl : lv_has ls 3 [(0, .int x0)] := hl
  unfold f_X12_bytesIn at h
  refine z_iconst C (0 : Int32) dX12_bytesIn_0 (by decide) ?_
  refine z_istore_n C (i := 1) [(1, .int (0 : Int32)), (0, .int x0)] hl dX12_bytesIn_1 rfl (by decide) rfl (fun ls hl => ?_)
  refine z_bipush C (24 : Int32) dX12_bytesIn_2 (by decide) ?_
  refine z_istore_n C (i := 2) [(2, .int (24 : Int32)), (1, .int (0 : Int32)), (0, .int x0)] hl dX12_bytesIn_4 rfl (by decide) rfl (fun ls hl => ?_)
  obtain ⟨w3, hw4, h⟩ := bnd h
  refine zl_X12_bytesIn_5 C F x0 (out := w3) (fun ls hl => ?_) F _ _ _ hw4 _ (lv_sub hl [2, 1, 0] rfl)
  refine z_iload_n C (i := 1) (k := 1) hl dX12_bytesIn_33 rfl rfl ?_
  obtain ⟨rfl, rfl⟩ := r2 h
  exact z_iret C dX12_bytesIn_34
def b_X12_put_3 (F : Nat) (x1 : Int32) (rec : Int32 → St → Option (Int32 × St)) (x2 : Int32) (u : St) : Option (Int32 × St) := (if x2 < 0 then some (x2, u) else (if ((x1 >>> (x2 &&& 31)) &&& (255 : Int32)) = 0 then rec ((x2 + (-8 : Int32))) u else (if (u.1 50 2) < 0 ∨ 300 ≤ (u.1 50 2).toNatClampNeg then none else rec ((x2 + (-8 : Int32))) (wr (wr u 51 (u.1 50 2).toNatClampNeg (vp_nar .byte ((x1 >>> (x2 &&& 31)).toInt8.toInt32))) 50 2 (((wr u 51 (u.1 50 2).toNatClampNeg (vp_nar .byte ((x1 >>> (x2 &&& 31)).toInt8.toInt32))).1 50 2) + (1 : Int32))))))
def l_X12_put_3 (F : Nat) (x1 : Int32) : Nat → Int32 → St → Option (Int32 × St)
  | 0, _, _ => none
  | k + 1, x2, u => b_X12_put_3 F x1 (l_X12_put_3 F x1 k) x2 u
def f_X12_put (F : Nat) (x1 : Int32) (u : St) : Option (St) := (Option.bind (l_X12_put_3 F x1 F (24 : Int32) u) (fun w4 => some w4.2))
set_option maxRecDepth 20000 in
set_option maxHeartbeats 4000000 in
theorem zl_X12_put_3 {p : Program} {l : Launch} {e : Env} {s : State} {m : MethodId} {args : Array Value} {below : List Frame} {meth : Method} {c : Code} {D : va_G} {cA : Nat → ClassId} {ad : Nat → Nat} {Q : State → Prop} (C : Cx SH p s m args meth c cX12_put 3 none RX12 D cA ad (inAd ad)) (F : Nat) (x1 : Int32)  {out : Int32 × St}  (K : ∀ ls : Array Slot, lv_has ls 3 [(0, .ref (ad 50)), (1, .int x1), (2, .int out.1)] → Z SH p l e (rmD 0) s m args below meth c D cA ad (inAd ad) 0 0 Q out.2 49 ls []) : ∀ (k : Nat) (x2 : Int32) (u : St), l_X12_put_3 F x1 k x2 u = some out → ∀ ls : Array Slot, lv_has ls 3 [(0, .ref (ad 50)), (1, .int x1), (2, .int x2)] → Z SH p l e (rmD 0) s m args below meth c D cA ad (inAd ad) 0 0 Q u 3 ls [] := by
  intro k
  induction k with
  | zero => intro x2 u h; cases h
  | succ k ih =>
    intro x2 u h ls hl
    replace h : b_X12_put_3 F x1 (l_X12_put_3 F x1 k) x2 u = some out := h
    unfold b_X12_put_3 at h
    refine z_iload_n C (i := 2) (k := 2) hl dX12_put_3 rfl rfl ?_
    refine z_if_lt C 49 dX12_put_4 (by decide) (fun hc3 => ?_) (fun hc3 => ?_)
    · replace h := (if_pos hc3).symm.trans h
      obtain rfl := Option.some.inj h
      exact K _ (lv_sub hl [0, 1, 2] rfl)
    · replace h := (if_neg hc3).symm.trans h
      refine z_iload_n C (i := 1) (k := 1) hl dX12_put_7 rfl rfl ?_
      refine z_iload_n C (i := 2) (k := 2) hl dX12_put_8 rfl rfl ?_
      refine z_ishr C dX12_put_9 ?_
      refine z_sipush C (255 : Int32) dX12_put_10 (by decide) ?_
      refine z_iand C dX12_put_13 ?_
      refine z_if_ne C 20 dX12_put_14 (by decide) (fun hc2 => ?_) (fun hc2 => ?_)
      · replace h := (if_neg hc2).symm.trans h
        refine z_aload_n C (i := 0) (k := 0) hl dX12_put_20 rfl rfl ?_
        refine z_getr C 50 1 51 fw_X12_9 sh_50 rfl dX12_put_21 ?_
        refine z_aload_n C (i := 0) (k := 0) hl dX12_put_24 rfl rfl ?_
        refine z_geti C 50 2 fw_X12_79 sh_50 rfl dX12_put_25 ?_
        refine z_iload_n C (i := 1) (k := 1) hl dX12_put_28 rfl rfl ?_
        refine z_iload_n C (i := 2) (k := 2) hl dX12_put_29 rfl rfl ?_
        refine z_ishr C dX12_put_30 ?_
        refine z_i2b C dX12_put_31 ?_
        obtain ⟨hi1, h⟩ := gd h
        refine z_bast C 51 300 sh_51 hi1 dX12_put_32 ?_
        refine z_aload_n C (i := 0) (k := 0) hl dX12_put_33 rfl rfl ?_
        refine z_dup C dX12_put_34 rfl ?_
        refine z_geti C 50 2 fw_X12_79 sh_50 rfl dX12_put_35 ?_
        refine z_iconst C (1 : Int32) dX12_put_38 (by decide) ?_
        refine z_iadd C dX12_put_39 ?_
        refine z_puti C 50 2 pw_X12_79 sh_50 rfl dX12_put_40 ?_
        refine z_iinc C (i := 2) (k := 2) (x2 + (-8 : Int32)) [(2, .int (x2 + (-8 : Int32))), (0, .ref (ad 50)), (1, .int x1)] hl dX12_put_43 rfl rfl (by decide) rfl (fun ls hl => ?_)
        refine z_goto C 3 dX12_put_46 (by decide) ?_
        exact ih _ _ h _ (lv_sub hl [1, 2, 0] rfl)
      · replace h := (if_pos hc2).symm.trans h
        refine z_goto C 43 dX12_put_17 (by decide) ?_
        refine z_iinc C (i := 2) (k := 2) (x2 + (-8 : Int32)) [(2, .int (x2 + (-8 : Int32))), (0, .ref (ad 50)), (1, .int x1)] hl dX12_put_43 rfl rfl (by decide) rfl (fun ls hl => ?_)
        refine z_goto C 3 dX12_put_46 (by decide) ?_
        exact ih _ _ h _ (lv_sub hl [1, 2, 0] rfl)
set_option maxRecDepth 20000 in
set_option maxHeartbeats 4000000 in
theorem m_X12_put (F : Nat) (x1 : Int32) (u : St) (u' : St)  (h : f_X12_put F x1 u = some u') : Mt yX12_put cX12_put 3 none 0 (fun ad => [.ref (ad 50), .int x1]) u (fun _ => none) u' := by
  refine Mt.of (by decide) (fun ad => Nat.le_of_ble_eq_true rfl) ?_
  intro p l e s m args below meth c D cA ad ls C hl
  have hl : lv_has ls 3 [(0, .ref (ad 50)), (1, .int x1)] := hl
  unfold f_X12_put at h
  refine z_bipush C (24 : Int32) dX12_put_0 (by decide) ?_
  refine z_istore_n C (i := 2) [(2, .int (24 : Int32)), (0, .ref (ad 50)), (1, .int x1)] hl dX12_put_2 rfl (by decide) rfl (fun ls hl => ?_)
  obtain ⟨w4, hw5, h⟩ := bnd h
  refine zl_X12_put_3 C F x1 (out := w4) (fun ls hl => ?_) F _ _ hw5 _ (lv_sub hl [1, 2, 0] rfl)
  obtain rfl := Option.some.inj h
  exact z_vret C dX12_put_49
def f_X12_feed (F : Nat) (x1 : Int32) (x2 : Int32) (x3 : Int32) (x4 : Int32) (x5 : Int32) (u : St) : Option (Int32 × St) := (Option.bind (f_X12_bytesIn F x1 (wr u 50 0 (0 : Int32))) (fun w4 => (Option.bind (f_X12_bytesIn F x2 w4.2) (fun w8 => (Option.bind (f_X12_bytesIn F x3 w8.2) (fun w12 => (Option.bind (f_X12_bytesIn F x4 w12.2) (fun w16 => (Option.bind (f_X12_bytesIn F x5 w16.2) (fun w20 => (if (((((((wr u 50 0 (0 : Int32)).1 50 2) + w4.1) + w8.1) + w12.1) + w16.1) + w20.1) ≤ (300 : Int32) then (Option.bind (f_X12_put F x1 w20.2) (fun u21 => (Option.bind (f_X12_put F x2 u21) (fun u23 => (Option.bind (f_X12_put F x3 u23) (fun u25 => (Option.bind (f_X12_put F x4 u25) (fun u27 => (Option.bind (f_X12_put F x5 u27) (fun u29 => some ((u29.1 50 2), u29))))))))))) else some ((-1 : Int32), w20.2))))))))))))
set_option maxRecDepth 20000 in
set_option maxHeartbeats 4000000 in
theorem m_X12_feed (F : Nat) (x1 : Int32) (x2 : Int32) (x3 : Int32) (x4 : Int32) (x5 : Int32) (u : St) (r : Int32) (u' : St)  (h : f_X12_feed F x1 x2 x3 x4 x5 u = some (r, u')) : Mt yX12_feed cX12_feed 6 (some .int) 1 (fun ad => [.ref (ad 50), .int x1, .int x2, .int x3, .int x4, .int x5]) u (fun _ => some (.int r)) u' := by
  refine Mt.of (by decide) (fun ad => Nat.le_of_ble_eq_true rfl) ?_
  intro p l e s m args below meth c D cA ad ls C hl
  have hl : lv_has ls 6 [(0, .ref (ad 50)), (1, .int x1), (2, .int x2), (3, .int x3), (4, .int x4), (5, .int x5)] := hl
  unfold f_X12_feed at h
  refine z_aload_n C (i := 0) (k := 0) hl dX12_feed_0 rfl rfl ?_
  refine z_iconst C (0 : Int32) dX12_feed_1 (by decide) ?_
  refine z_puti C 50 0 pw_X12_75 sh_50 rfl dX12_feed_2 ?_
  refine z_aload_n C (i := 0) (k := 0) hl dX12_feed_5 rfl rfl ?_
  refine z_geti C 50 2 fw_X12_79 sh_50 rfl dX12_feed_6 ?_
  refine z_iload_n C (i := 1) (k := 1) hl dX12_feed_9 rfl rfl ?_
  obtain ⟨⟨r3, u1⟩, hc2, h⟩ := bnd h
  try dsimp only at h
  refine z_callS C [.int x1] [.int ((wr u 50 0 (0 : Int32)).1 50 2)] [.int r3, .int ((wr u 50 0 (0 : Int32)).1 50 2)] (m_X12_bytesIn F _ _ _ _ hc2) cw_X12_bytesIn sw_X12_bytesIn ml_X12_82 rfl rfl rfl hl.1 (Nat.le_of_ble_eq_true rfl) ⟨Nat.le_of_ble_eq_true rfl, Nat.le_of_ble_eq_true rfl⟩ ⟨Nat.le_refl _, Nat.le_refl _⟩ rfl dX12_feed_10 ?_
  refine z_iadd C dX12_feed_13 ?_
  refine z_iload_n C (i := 2) (k := 2) hl dX12_feed_14 rfl rfl ?_
  obtain ⟨⟨r7, u5⟩, hc6, h⟩ := bnd h
  try dsimp only at h
  refine z_callS C [.int x2] [.int (((wr u 50 0 (0 : Int32)).1 50 2) + r3)] [.int r7, .int (((wr u 50 0 (0 : Int32)).1 50 2) + r3)] (m_X12_bytesIn F _ _ _ _ hc6) cw_X12_bytesIn sw_X12_bytesIn ml_X12_82 rfl rfl rfl hl.1 (Nat.le_of_ble_eq_true rfl) ⟨Nat.le_of_ble_eq_true rfl, Nat.le_of_ble_eq_true rfl⟩ ⟨Nat.le_refl _, Nat.le_refl _⟩ rfl dX12_feed_15 ?_
  refine z_iadd C dX12_feed_18 ?_
  refine z_iload_n C (i := 3) (k := 3) hl dX12_feed_19 rfl rfl ?_
  obtain ⟨⟨r11, u9⟩, hc10, h⟩ := bnd h
  try dsimp only at h
  refine z_callS C [.int x3] [.int ((((wr u 50 0 (0 : Int32)).1 50 2) + r3) + r7)] [.int r11, .int ((((wr u 50 0 (0 : Int32)).1 50 2) + r3) + r7)] (m_X12_bytesIn F _ _ _ _ hc10) cw_X12_bytesIn sw_X12_bytesIn ml_X12_82 rfl rfl rfl hl.1 (Nat.le_of_ble_eq_true rfl) ⟨Nat.le_of_ble_eq_true rfl, Nat.le_of_ble_eq_true rfl⟩ ⟨Nat.le_refl _, Nat.le_refl _⟩ rfl dX12_feed_20 ?_
  refine z_iadd C dX12_feed_23 ?_
  refine z_iload C (i := 4) (k := 4) hl dX12_feed_24 rfl ?_
  obtain ⟨⟨r15, u13⟩, hc14, h⟩ := bnd h
  try dsimp only at h
  refine z_callS C [.int x4] [.int (((((wr u 50 0 (0 : Int32)).1 50 2) + r3) + r7) + r11)] [.int r15, .int (((((wr u 50 0 (0 : Int32)).1 50 2) + r3) + r7) + r11)] (m_X12_bytesIn F _ _ _ _ hc14) cw_X12_bytesIn sw_X12_bytesIn ml_X12_82 rfl rfl rfl hl.1 (Nat.le_of_ble_eq_true rfl) ⟨Nat.le_of_ble_eq_true rfl, Nat.le_of_ble_eq_true rfl⟩ ⟨Nat.le_refl _, Nat.le_refl _⟩ rfl dX12_feed_26 ?_
  refine z_iadd C dX12_feed_29 ?_
  refine z_iload C (i := 5) (k := 5) hl dX12_feed_30 rfl ?_
  obtain ⟨⟨r19, u17⟩, hc18, h⟩ := bnd h
  try dsimp only at h
  refine z_callS C [.int x5] [.int ((((((wr u 50 0 (0 : Int32)).1 50 2) + r3) + r7) + r11) + r15)] [.int r19, .int ((((((wr u 50 0 (0 : Int32)).1 50 2) + r3) + r7) + r11) + r15)] (m_X12_bytesIn F _ _ _ _ hc18) cw_X12_bytesIn sw_X12_bytesIn ml_X12_82 rfl rfl rfl hl.1 (Nat.le_of_ble_eq_true rfl) ⟨Nat.le_of_ble_eq_true rfl, Nat.le_of_ble_eq_true rfl⟩ ⟨Nat.le_refl _, Nat.le_refl _⟩ rfl dX12_feed_32 ?_
  refine z_iadd C dX12_feed_35 ?_
  refine z_sipush C (300 : Int32) dX12_feed_36 (by decide) ?_
  refine z_icmp_le C 44 dX12_feed_39 (by decide) (fun hc31 => ?_) (fun hc31 => ?_)
  · replace h := (if_pos hc31).symm.trans h
    refine z_aload_n C (i := 0) (k := 0) hl dX12_feed_44 rfl rfl ?_
    refine z_iload_n C (i := 1) (k := 1) hl dX12_feed_45 rfl rfl ?_
    obtain ⟨u21, hc22, h⟩ := bnd h
    refine z_callV C (ci := 12) [.int x1] [] [] (m_X12_put F _ _ _ hc22) cw_X12_put vw_X12_put ml_X12_86 sh_50 rfl rfl rfl rfl hl.1 (Nat.le_of_ble_eq_true rfl) ⟨Nat.le_of_ble_eq_true rfl, Nat.le_of_ble_eq_true rfl⟩ ⟨Nat.le_refl _, Nat.le_refl _⟩ rfl dX12_feed_46 ?_
    refine z_aload_n C (i := 0) (k := 0) hl dX12_feed_49 rfl rfl ?_
    refine z_iload_n C (i := 2) (k := 2) hl dX12_feed_50 rfl rfl ?_
    obtain ⟨u23, hc24, h⟩ := bnd h
    refine z_callV C (ci := 12) [.int x2] [] [] (m_X12_put F _ _ _ hc24) cw_X12_put vw_X12_put ml_X12_86 sh_50 rfl rfl rfl rfl hl.1 (Nat.le_of_ble_eq_true rfl) ⟨Nat.le_of_ble_eq_true rfl, Nat.le_of_ble_eq_true rfl⟩ ⟨Nat.le_refl _, Nat.le_refl _⟩ rfl dX12_feed_51 ?_
    refine z_aload_n C (i := 0) (k := 0) hl dX12_feed_54 rfl rfl ?_
    refine z_iload_n C (i := 3) (k := 3) hl dX12_feed_55 rfl rfl ?_
    obtain ⟨u25, hc26, h⟩ := bnd h
    refine z_callV C (ci := 12) [.int x3] [] [] (m_X12_put F _ _ _ hc26) cw_X12_put vw_X12_put ml_X12_86 sh_50 rfl rfl rfl rfl hl.1 (Nat.le_of_ble_eq_true rfl) ⟨Nat.le_of_ble_eq_true rfl, Nat.le_of_ble_eq_true rfl⟩ ⟨Nat.le_refl _, Nat.le_refl _⟩ rfl dX12_feed_56 ?_
    refine z_aload_n C (i := 0) (k := 0) hl dX12_feed_59 rfl rfl ?_
    refine z_iload C (i := 4) (k := 4) hl dX12_feed_60 rfl ?_
    obtain ⟨u27, hc28, h⟩ := bnd h
    refine z_callV C (ci := 12) [.int x4] [] [] (m_X12_put F _ _ _ hc28) cw_X12_put vw_X12_put ml_X12_86 sh_50 rfl rfl rfl rfl hl.1 (Nat.le_of_ble_eq_true rfl) ⟨Nat.le_of_ble_eq_true rfl, Nat.le_of_ble_eq_true rfl⟩ ⟨Nat.le_refl _, Nat.le_refl _⟩ rfl dX12_feed_62 ?_
    refine z_aload_n C (i := 0) (k := 0) hl dX12_feed_65 rfl rfl ?_
    refine z_iload C (i := 5) (k := 5) hl dX12_feed_66 rfl ?_
    obtain ⟨u29, hc30, h⟩ := bnd h
    refine z_callV C (ci := 12) [.int x5] [] [] (m_X12_put F _ _ _ hc30) cw_X12_put vw_X12_put ml_X12_86 sh_50 rfl rfl rfl rfl hl.1 (Nat.le_of_ble_eq_true rfl) ⟨Nat.le_of_ble_eq_true rfl, Nat.le_of_ble_eq_true rfl⟩ ⟨Nat.le_refl _, Nat.le_refl _⟩ rfl dX12_feed_68 ?_
    refine z_aload_n C (i := 0) (k := 0) hl dX12_feed_71 rfl rfl ?_
    refine z_geti C 50 2 fw_X12_79 sh_50 rfl dX12_feed_72 ?_
    obtain ⟨rfl, rfl⟩ := r2 h
    exact z_iret C dX12_feed_75
  · replace h := (if_neg hc31).symm.trans h
    refine z_iconst C (-1 : Int32) dX12_feed_42 (by decide) ?_
    obtain ⟨rfl, rfl⟩ := r2 h
    exact z_iret C dX12_feed_43
def f_X12_hazard (F : Nat) (x1 : Int32) (x2 : Int32) (u : St) : Option (Int32 × St) := (if 0 ≤ x1 then (Option.bind (f_X12_hazardOf F x1 x2 (wr u 50 0 (0 : Int32))) (fun w4 => some (w4.1, w4.2))) else some ((-1 : Int32), (wr u 50 0 (0 : Int32))))
set_option maxRecDepth 20000 in
set_option maxHeartbeats 4000000 in
theorem m_X12_hazard (F : Nat) (x1 : Int32) (x2 : Int32) (u : St) (r : Int32) (u' : St)  (h : f_X12_hazard F x1 x2 u = some (r, u')) : Mt yX12_hazard cX12_hazard 3 (some .int) 3 (fun ad => [.ref (ad 50), .int x1, .int x2]) u (fun _ => some (.int r)) u' := by
  refine Mt.of (by decide) (fun ad => Nat.le_of_ble_eq_true rfl) ?_
  intro p l e s m args below meth c D cA ad ls C hl
  have hl : lv_has ls 3 [(0, .ref (ad 50)), (1, .int x1), (2, .int x2)] := hl
  unfold f_X12_hazard at h
  refine z_aload_n C (i := 0) (k := 0) hl dX12_hazard_0 rfl rfl ?_
  refine z_iconst C (0 : Int32) dX12_hazard_1 (by decide) ?_
  refine z_puti C 50 0 pw_X12_75 sh_50 rfl dX12_hazard_2 ?_
  refine z_iload_n C (i := 1) (k := 1) hl dX12_hazard_5 rfl rfl ?_
  refine z_if_ge C 13 dX12_hazard_6 (by decide) (fun hc5 => ?_) (fun hc5 => ?_)
  · replace h := (if_pos hc5).symm.trans h
    refine z_aload_n C (i := 0) (k := 0) hl dX12_hazard_13 rfl rfl ?_
    refine z_iload_n C (i := 1) (k := 1) hl dX12_hazard_14 rfl rfl ?_
    refine z_iload_n C (i := 2) (k := 2) hl dX12_hazard_15 rfl rfl ?_
    obtain ⟨⟨r3, u1⟩, hc2, h⟩ := bnd h
    try dsimp only at h
    refine z_callV C (ci := 12) [.int x1, .int x2] [] [.int r3] (m_X12_hazardOf F _ _ _ _ _ hc2) cw_X12_hazardOf vw_X12_hazardOf ml_X12_129 sh_50 rfl rfl rfl rfl hl.1 (Nat.le_of_ble_eq_true rfl) ⟨Nat.le_of_ble_eq_true rfl, Nat.le_of_ble_eq_true rfl⟩ ⟨Nat.le_refl _, Nat.le_refl _⟩ rfl dX12_hazard_16 ?_
    obtain ⟨rfl, rfl⟩ := r2 h
    exact z_iret C dX12_hazard_19
  · replace h := (if_neg hc5).symm.trans h
    refine z_iconst C (-1 : Int32) dX12_hazard_9 (by decide) ?_
    refine z_goto C 19 dX12_hazard_10 (by decide) ?_
    obtain ⟨rfl, rfl⟩ := r2 h
    exact z_iret C dX12_hazard_19
def b_X12_helps_41 (F : Nat)  (rec : Int32 → Int64 → Int64 → Int32 → St → Option (Int32 × Int64 × Int64 × Int32 × St)) (x1 : Int32) (x2 : Int64) (x4 : Int64) (x6 : Int32) (u : St) : Option (Int32 × Int64 × Int64 × Int32 × St) := (if (u.1 50 25) ≤ x6 then some (x1, x2, x4, x6, u) else (if x6 < 0 ∨ 20 ≤ x6.toNatClampNeg then none else (if x6 < 0 ∨ 20 ≤ x6.toNatClampNeg then none else (Option.bind (f_X12_goRound F (wr u 69 x6.toNatClampNeg ((u.1 69 x6.toNatClampNeg) + (1 : Int32)))) (fun u5 => (if x6 < 0 ∨ 20 ≤ x6.toNatClampNeg then none else (if x6 < 0 ∨ 20 ≤ x6.toNatClampNeg then none else (if (lg_cmp (((wr u5 69 x6.toNatClampNeg ((u5.1 69 x6.toNatClampNeg) - (1 : Int32))).2 50 28) * x4) (x2 * ((wr u5 69 x6.toNatClampNeg ((u5.1 69 x6.toNatClampNeg) - (1 : Int32))).2 50 29))) < 0 then rec x6 (((wr u5 69 x6.toNatClampNeg ((u5.1 69 x6.toNatClampNeg) - (1 : Int32))).2 50 28)) (((wr u5 69 x6.toNatClampNeg ((u5.1 69 x6.toNatClampNeg) - (1 : Int32))).2 50 29)) ((x6 + (1 : Int32))) (wr u5 69 x6.toNatClampNeg ((u5.1 69 x6.toNatClampNeg) - (1 : Int32))) else rec x1 x2 x4 ((x6 + (1 : Int32))) (wr u5 69 x6.toNatClampNeg ((u5.1 69 x6.toNatClampNeg) - (1 : Int32)))))))))))
def l_X12_helps_41 (F : Nat)  : Nat → Int32 → Int64 → Int64 → Int32 → St → Option (Int32 × Int64 × Int64 × Int32 × St)
  | 0, _, _, _, _, _ => none
  | k + 1, x1, x2, x4, x6, u => b_X12_helps_41 F  (l_X12_helps_41 F  k) x1 x2 x4 x6 u
def f_X12_helps (F : Nat)  (u : St) : Option (Int32 × St) := (Option.bind (f_X12_goRound F (wr u 50 0 (0 : Int32))) (fun u1 => (if (u1.1 50 26) = 0 then (if (u1.1 50 27) = 0 then some ((-1 : Int32), u1) else (Option.bind (l_X12_helps_41 F  F (-1 : Int32) (u1.2 50 28) (u1.2 50 29) (0 : Int32) u1) (fun w11 => some (w11.1, w11.2.2.2.2)))) else some ((-1 : Int32), u1))))
set_option maxRecDepth 20000 in
set_option maxHeartbeats 4000000 in
theorem zl_X12_helps_41 {p : Program} {l : Launch} {e : Env} {s : State} {m : MethodId} {args : Array Value} {below : List Frame} {meth : Method} {c : Code} {D : va_G} {cA : Nat → ClassId} {ad : Nat → Nat} {Q : State → Prop} (C : Cx SH p s m args meth c cX12_helps 7 (some .int) RX12 D cA ad (inAd ad)) (F : Nat)   {out : Int32 × Int64 × Int64 × Int32 × St}  (K : ∀ ls : Array Slot, lv_has ls 7 [(0, .ref (ad 50)), (1, .int out.1), (2, .long out.2.1), (4, .long out.2.2.1), (6, .int out.2.2.2.1)] → Z SH p l e (rmD 14) s m args below meth c D cA ad (inAd ad) 0 0 Q out.2.2.2.2 116 ls []) : ∀ (k : Nat) (x1 : Int32) (x2 : Int64) (x4 : Int64) (x6 : Int32) (u : St), l_X12_helps_41 F  k x1 x2 x4 x6 u = some out → ∀ ls : Array Slot, lv_has ls 7 [(0, .ref (ad 50)), (1, .int x1), (2, .long x2), (4, .long x4), (6, .int x6)] → Z SH p l e (rmD 14) s m args below meth c D cA ad (inAd ad) 0 0 Q u 41 ls [] := by
  intro k
  induction k with
  | zero => intro x1 x2 x4 x6 u h; cases h
  | succ k ih =>
    intro x1 x2 x4 x6 u h ls hl
    replace h : b_X12_helps_41 F  (l_X12_helps_41 F  k) x1 x2 x4 x6 u = some out := h
    unfold b_X12_helps_41 at h
    refine z_iload C (i := 6) (k := 4) hl dX12_helps_41 rfl ?_
    refine z_aload_n C (i := 0) (k := 0) hl dX12_helps_43 rfl rfl ?_
    refine z_geti C 50 25 fw_X12_159 sh_50 rfl dX12_helps_44 ?_
    refine z_icmp_ge C 116 dX12_helps_47 (by decide) (fun hc10 => ?_) (fun hc10 => ?_)
    · replace h := (if_pos hc10).symm.trans h
      obtain rfl := Option.some.inj h
      exact K _ (lv_sub hl [0, 1, 2, 3, 4] rfl)
    · replace h := (if_neg hc10).symm.trans h
      refine z_aload_n C (i := 0) (k := 0) hl dX12_helps_50 rfl rfl ?_
      refine z_getr C 50 23 69 fw_X12_66 sh_50 rfl dX12_helps_51 ?_
      refine z_iload C (i := 6) (k := 4) hl dX12_helps_54 rfl ?_
      refine z_dup2 C dX12_helps_56 rfl rfl ?_
      obtain ⟨hi3, h⟩ := gd h
      refine z_iald C 69 20 sh_69 hi3 dX12_helps_57 ?_
      refine z_iconst C (1 : Int32) dX12_helps_58 (by decide) ?_
      refine z_iadd C dX12_helps_59 ?_
      obtain ⟨hi4, h⟩ := gd h
      refine z_iast C 69 20 sh_69 hi4 dX12_helps_60 ?_
      refine z_aload_n C (i := 0) (k := 0) hl dX12_helps_61 rfl rfl ?_
      obtain ⟨u5, hc6, h⟩ := bnd h
      refine z_callV C (ci := 12) [] [] [] (m_X12_goRound F  _ _ hc6) cw_X12_goRound vw_X12_goRound ml_X12_186 sh_50 rfl rfl rfl rfl hl.1 (Nat.le_of_ble_eq_true rfl) ⟨Nat.le_of_ble_eq_true rfl, Nat.le_of_ble_eq_true rfl⟩ ⟨Nat.le_refl _, Nat.le_refl _⟩ rfl dX12_helps_62 ?_
      refine z_aload_n C (i := 0) (k := 0) hl dX12_helps_65 rfl rfl ?_
      refine z_getr C 50 23 69 fw_X12_66 sh_50 rfl dX12_helps_66 ?_
      refine z_iload C (i := 6) (k := 4) hl dX12_helps_69 rfl ?_
      refine z_dup2 C dX12_helps_71 rfl rfl ?_
      obtain ⟨hi7, h⟩ := gd h
      refine z_iald C 69 20 sh_69 hi7 dX12_helps_72 ?_
      refine z_iconst C (1 : Int32) dX12_helps_73 (by decide) ?_
      refine z_isub C dX12_helps_74 ?_
      obtain ⟨hi8, h⟩ := gd h
      refine z_iast C 69 20 sh_69 hi8 dX12_helps_75 ?_
      refine z_aload_n C (i := 0) (k := 0) hl dX12_helps_76 rfl rfl ?_
      refine z_getl C 50 28 fw_X12_181 sh_50 rfl dX12_helps_77 ?_
      refine z_lload C (i := 4) (k := 3) hl dX12_helps_80 rfl ?_
      refine z_lmul C dX12_helps_82 ?_
      refine z_lload_n C (i := 2) (k := 2) hl dX12_helps_83 rfl rfl ?_
      refine z_aload_n C (i := 0) (k := 0) hl dX12_helps_84 rfl rfl ?_
      refine z_getl C 50 29 fw_X12_177 sh_50 rfl dX12_helps_85 ?_
      refine z_lmul C dX12_helps_88 ?_
      refine z_lcmp C dX12_helps_89 ?_
      refine z_if_lt C 96 dX12_helps_90 (by decide) (fun hc9 => ?_) (fun hc9 => ?_)
      · replace h := (if_pos hc9).symm.trans h
        refine z_iload C (i := 6) (k := 4) hl dX12_helps_96 rfl ?_
        refine z_istore_n C (i := 1) [(1, .int x6), (0, .ref (ad 50)), (2, .long x2), (4, .long x4), (6, .int x6)] hl dX12_helps_98 rfl (by decide) rfl (fun ls hl => ?_)
        refine z_aload_n C (i := 0) (k := 1) hl dX12_helps_99 rfl rfl ?_
        refine z_getl C 50 28 fw_X12_181 sh_50 rfl dX12_helps_100 ?_
        refine z_lstore_n C (i := 2) [(2, .long ((wr u5 69 x6.toNatClampNeg ((u5.1 69 x6.toNatClampNeg) - (1 : Int32))).2 50 28)), (1, .int x6), (0, .ref (ad 50)), (4, .long x4), (6, .int x6)] hl dX12_helps_103 rfl (by decide) rfl (fun ls hl => ?_)
        refine z_aload_n C (i := 0) (k := 2) hl dX12_helps_104 rfl rfl ?_
        refine z_getl C 50 29 fw_X12_177 sh_50 rfl dX12_helps_105 ?_
        refine z_lstore C (i := 4) [(4, .long ((wr u5 69 x6.toNatClampNeg ((u5.1 69 x6.toNatClampNeg) - (1 : Int32))).2 50 29)), (2, .long ((wr u5 69 x6.toNatClampNeg ((u5.1 69 x6.toNatClampNeg) - (1 : Int32))).2 50 28)), (1, .int x6), (0, .ref (ad 50)), (6, .int x6)] hl dX12_helps_108 (by decide) rfl (fun ls hl => ?_)
        refine z_iinc C (i := 6) (k := 4) (x6 + (1 : Int32)) [(6, .int (x6 + (1 : Int32))), (4, .long ((wr u5 69 x6.toNatClampNeg ((u5.1 69 x6.toNatClampNeg) - (1 : Int32))).2 50 29)), (2, .long ((wr u5 69 x6.toNatClampNeg ((u5.1 69 x6.toNatClampNeg) - (1 : Int32))).2 50 28)), (1, .int x6), (0, .ref (ad 50))] hl dX12_helps_110 rfl rfl (by decide) rfl (fun ls hl => ?_)
        refine z_goto C 41 dX12_helps_113 (by decide) ?_
        exact ih _ _ _ _ _ h _ (lv_sub hl [4, 3, 2, 1, 0] rfl)
      · replace h := (if_neg hc9).symm.trans h
        refine z_goto C 110 dX12_helps_93 (by decide) ?_
        refine z_iinc C (i := 6) (k := 4) (x6 + (1 : Int32)) [(6, .int (x6 + (1 : Int32))), (0, .ref (ad 50)), (1, .int x1), (2, .long x2), (4, .long x4)] hl dX12_helps_110 rfl rfl (by decide) rfl (fun ls hl => ?_)
        refine z_goto C 41 dX12_helps_113 (by decide) ?_
        exact ih _ _ _ _ _ h _ (lv_sub hl [1, 2, 3, 4, 0] rfl)
set_option maxRecDepth 20000 in
set_option maxHeartbeats 4000000 in
theorem m_X12_helps (F : Nat)  (u : St) (r : Int32) (u' : St)  (h : f_X12_helps F  u = some (r, u')) : Mt yX12_helps cX12_helps 7 (some .int) 14 (fun ad => [.ref (ad 50)]) u (fun _ => some (.int r)) u' := by
  refine Mt.of (by decide) (fun ad => Nat.le_of_ble_eq_true rfl) ?_
  intro p l e s m args below meth c D cA ad ls C hl
  have hl : lv_has ls 7 [(0, .ref (ad 50))] := hl
  unfold f_X12_helps at h
  refine z_aload_n C (i := 0) (k := 0) hl dX12_helps_0 rfl rfl ?_
  refine z_iconst C (0 : Int32) dX12_helps_1 (by decide) ?_
  refine z_puti C 50 0 pw_X12_75 sh_50 rfl dX12_helps_2 ?_
  refine z_aload_n C (i := 0) (k := 0) hl dX12_helps_5 rfl rfl ?_
  obtain ⟨u1, hc2, h⟩ := bnd h
  refine z_callV C (ci := 12) [] [] [] (m_X12_goRound F  _ _ hc2) cw_X12_goRound vw_X12_goRound ml_X12_186 sh_50 rfl rfl rfl rfl hl.1 (Nat.le_of_ble_eq_true rfl) ⟨Nat.le_of_ble_eq_true rfl, Nat.le_of_ble_eq_true rfl⟩ ⟨Nat.le_refl _, Nat.le_refl _⟩ rfl dX12_helps_6 ?_
  refine z_aload_n C (i := 0) (k := 0) hl dX12_helps_9 rfl rfl ?_
  refine z_geti C 50 26 fw_X12_173 sh_50 rfl dX12_helps_10 ?_
  refine z_if_ne C 23 dX12_helps_13 (by decide) (fun hc14 => ?_) (fun hc14 => ?_)
  · replace h := (if_neg hc14).symm.trans h
    refine z_iconst C (-1 : Int32) dX12_helps_23 (by decide) ?_
    obtain ⟨rfl, rfl⟩ := r2 h
    exact z_iret C dX12_helps_24
  · replace h := (if_pos hc14).symm.trans h
    refine z_aload_n C (i := 0) (k := 0) hl dX12_helps_16 rfl rfl ?_
    refine z_geti C 50 27 fw_X12_170 sh_50 rfl dX12_helps_17 ?_
    refine z_if_ne C 25 dX12_helps_20 (by decide) (fun hc13 => ?_) (fun hc13 => ?_)
    · replace h := (if_neg hc13).symm.trans h
      refine z_iconst C (-1 : Int32) dX12_helps_25 (by decide) ?_
      refine z_istore_n C (i := 1) [(1, .int (-1 : Int32)), (0, .ref (ad 50))] hl dX12_helps_26 rfl (by decide) rfl (fun ls hl => ?_)
      refine z_aload_n C (i := 0) (k := 1) hl dX12_helps_27 rfl rfl ?_
      refine z_getl C 50 28 fw_X12_181 sh_50 rfl dX12_helps_28 ?_
      refine z_lstore_n C (i := 2) [(2, .long (u1.2 50 28)), (1, .int (-1 : Int32)), (0, .ref (ad 50))] hl dX12_helps_31 rfl (by decide) rfl (fun ls hl => ?_)
      refine z_aload_n C (i := 0) (k := 2) hl dX12_helps_32 rfl rfl ?_
      refine z_getl C 50 29 fw_X12_177 sh_50 rfl dX12_helps_33 ?_
      refine z_lstore C (i := 4) [(4, .long (u1.2 50 29)), (2, .long (u1.2 50 28)), (1, .int (-1 : Int32)), (0, .ref (ad 50))] hl dX12_helps_36 (by decide) rfl (fun ls hl => ?_)
      refine z_iconst C (0 : Int32) dX12_helps_38 (by decide) ?_
      refine z_istore C (i := 6) [(6, .int (0 : Int32)), (4, .long (u1.2 50 29)), (2, .long (u1.2 50 28)), (1, .int (-1 : Int32)), (0, .ref (ad 50))] hl dX12_helps_39 (by decide) rfl (fun ls hl => ?_)
      obtain ⟨w11, hw12, h⟩ := bnd h
      refine zl_X12_helps_41 C F (out := w11) (fun ls hl => ?_) F _ _ _ _ _ hw12 _ (lv_sub hl [4, 3, 2, 1, 0] rfl)
      refine z_iload_n C (i := 1) (k := 1) hl dX12_helps_116 rfl rfl ?_
      obtain ⟨rfl, rfl⟩ := r2 h
      exact z_iret C dX12_helps_117
    · replace h := (if_pos hc13).symm.trans h
      refine z_iconst C (-1 : Int32) dX12_helps_23 (by decide) ?_
      obtain ⟨rfl, rfl⟩ := r2 h
      exact z_iret C dX12_helps_24
def b_X12_live_20 (F : Nat) (x1 : Int32) (rec : Int32 → St → Option (Int32 × St)) (x2 : Int32) (u : St) : Option (Int32 × St) := (if (u.1 50 17) ≤ x2 then some (x2, u) else (if x2 < 0 ∨ 4096 ≤ x2.toNatClampNeg then none else (if (u.1 60 x2.toNatClampNeg) < 0 ∨ 4096 ≤ (u.1 60 x2.toNatClampNeg).toNatClampNeg then none else rec ((x2 + (1 : Int32))) (wr u 64 (u.1 60 x2.toNatClampNeg).toNatClampNeg (vp_nar .boolean (0 : Int32))))))
def l_X12_live_20 (F : Nat) (x1 : Int32) : Nat → Int32 → St → Option (Int32 × St)
  | 0, _, _ => none
  | k + 1, x2, u => b_X12_live_20 F x1 (l_X12_live_20 F x1 k) x2 u
def b_X12_live_114 (F : Nat) (x1 : Int32) (x2 : Int32) (x3 : Int32) (x4 : Int32) (x5 : Int32) (rec : Int32 → Int32 → St → Option (Int32 × Int32 × St)) (x6 : Int32) (x7 : Int32) (u : St) : Option (Int32 × Int32 × St) := (if (12 : Int32) ≤ x7 then some (x6, x7, u) else (if x6 = 0 then (if ((x5 >>> (x7 &&& 31)) &&& (1 : Int32)) = (1 : Int32) then (if (x4 ^^^ ((1 : Int32) <<< (x7 &&& 31))) < 0 ∨ 4096 ≤ (x4 ^^^ ((1 : Int32) <<< (x7 &&& 31))).toNatClampNeg then none else (if (u.1 64 (x4 ^^^ ((1 : Int32) <<< (x7 &&& 31))).toNatClampNeg) = 0 then rec ((0 : Int32)) ((x7 + (1 : Int32))) u else rec ((1 : Int32)) ((x7 + (1 : Int32))) u)) else rec ((0 : Int32)) ((x7 + (1 : Int32))) u) else rec ((1 : Int32)) ((x7 + (1 : Int32))) u))
def l_X12_live_114 (F : Nat) (x1 : Int32) (x2 : Int32) (x3 : Int32) (x4 : Int32) (x5 : Int32) : Nat → Int32 → Int32 → St → Option (Int32 × Int32 × St)
  | 0, _, _, _ => none
  | k + 1, x6, x7, u => b_X12_live_114 F x1 x2 x3 x4 x5 (l_X12_live_114 F x1 x2 x3 x4 x5 k) x6 x7 u
def b_X12_live_61 (F : Nat) (x1 : Int32) (rec : Int32 → Int32 → St → Option (Int32 × Int32 × St)) (x2 : Int32) (x3 : Int32) (u : St) : Option (Int32 × Int32 × St) := (if x3 < 0 then some (x2, x3, u) else (if x3 < 0 ∨ 4096 ≤ x3.toNatClampNeg then none else (if (u.1 60 x3.toNatClampNeg) < 0 ∨ 4096 ≤ (u.1 60 x3.toNatClampNeg).toNatClampNeg then none else (if (u.1 64 (u.1 60 x3.toNatClampNeg).toNatClampNeg) = 0 then (Option.bind (f_X12_askedIn F (u.1 60 x3.toNatClampNeg) u) (fun w17 => (if ((w17.1 >>> (x1 &&& 31)) &&& (1 : Int32)) = (1 : Int32) then (Option.bind (l_X12_live_114 F x1 x2 x3 (u.1 60 x3.toNatClampNeg) w17.1 F (1 : Int32) (0 : Int32) w17.2) (fun w28 => (if (u.1 60 x3.toNatClampNeg) < 0 ∨ 4096 ≤ (u.1 60 x3.toNatClampNeg).toNatClampNeg then none else (if x2 = 0 then (if w28.1 = 0 then rec ((0 : Int32)) ((x3 + (-1 : Int32))) (wr w28.2.2 64 (u.1 60 x3.toNatClampNeg).toNatClampNeg (vp_nar .boolean w28.1)) else rec ((1 : Int32)) ((x3 + (-1 : Int32))) (wr w28.2.2 64 (u.1 60 x3.toNatClampNeg).toNatClampNeg (vp_nar .boolean w28.1))) else rec ((1 : Int32)) ((x3 + (-1 : Int32))) (wr w28.2.2 64 (u.1 60 x3.toNatClampNeg).toNatClampNeg (vp_nar .boolean w28.1)))))) else (Option.bind (l_X12_live_114 F x1 x2 x3 (u.1 60 x3.toNatClampNeg) w17.1 F (0 : Int32) (0 : Int32) w17.2) (fun w23 => (if (u.1 60 x3.toNatClampNeg) < 0 ∨ 4096 ≤ (u.1 60 x3.toNatClampNeg).toNatClampNeg then none else (if x2 = 0 then (if w23.1 = 0 then rec ((0 : Int32)) ((x3 + (-1 : Int32))) (wr w23.2.2 64 (u.1 60 x3.toNatClampNeg).toNatClampNeg (vp_nar .boolean w23.1)) else rec ((1 : Int32)) ((x3 + (-1 : Int32))) (wr w23.2.2 64 (u.1 60 x3.toNatClampNeg).toNatClampNeg (vp_nar .boolean w23.1))) else rec ((1 : Int32)) ((x3 + (-1 : Int32))) (wr w23.2.2 64 (u.1 60 x3.toNatClampNeg).toNatClampNeg (vp_nar .boolean w23.1))))))))) else rec x2 ((x3 + (-1 : Int32))) u))))
def l_X12_live_61 (F : Nat) (x1 : Int32) : Nat → Int32 → Int32 → St → Option (Int32 × Int32 × St)
  | 0, _, _, _ => none
  | k + 1, x2, x3, u => b_X12_live_61 F x1 (l_X12_live_61 F x1 k) x2 x3 u
def b_X12_live_48 (F : Nat) (x1 : Int32) (rec : Int32 → St → Option (Int32 × St)) (x2 : Int32) (u : St) : Option (Int32 × St) := (if x2 = 0 then some (x2, u) else (Option.bind (l_X12_live_61 F x1 F (0 : Int32) ((u.1 50 17) - (1 : Int32)) u) (fun w36 => rec w36.1 w36.2.2)))
def l_X12_live_48 (F : Nat) (x1 : Int32) : Nat → Int32 → St → Option (Int32 × St)
  | 0, _, _ => none
  | k + 1, x2, u => b_X12_live_48 F x1 (l_X12_live_48 F x1 k) x2 u
def b_X12_live_200 (F : Nat)  (rec : Int32 → St → Option ((Int32 × St) ⊕ (Int32 × St))) (x3 : Int32) (u : St) : Option ((Int32 × St) ⊕ (Int32 × St)) := (if (u.1 50 17) ≤ x3 then some (Sum.inr (x3, u)) else (if x3 < 0 ∨ 4096 ≤ x3.toNatClampNeg then none else (if (u.1 60 x3.toNatClampNeg) < 0 ∨ 4096 ≤ (u.1 60 x3.toNatClampNeg).toNatClampNeg then none else (if (u.1 64 (u.1 60 x3.toNatClampNeg).toNatClampNeg) = 0 then some (Sum.inl ((0 : Int32), u)) else rec ((x3 + (1 : Int32))) u))))
def l_X12_live_200 (F : Nat)  : Nat → Int32 → St → Option ((Int32 × St) ⊕ (Int32 × St))
  | 0, _, _ => none
  | k + 1, x3, u => b_X12_live_200 F  (l_X12_live_200 F  k) x3 u
def f_X12_live (F : Nat) (x1 : Int32) (u : St) : Option (Int32 × St) := (Option.bind (f_X12_isSignal F x1 (wr u 50 0 (0 : Int32))) (fun w4 => (if w4.1 = 0 then some ((-1 : Int32), w4.2) else (Option.bind (f_X12_walks F w4.2) (fun u5 => (Option.bind (l_X12_live_20 F x1 F (0 : Int32) u5) (fun w10 => (Option.bind (l_X12_live_48 F x1 F (1 : Int32) w10.2) (fun w39 => (Option.bind (l_X12_live_200 F  F (0 : Int32) w39.2) (fun w45 => Sum.elim (fun r => some r) (fun v47 => some ((1 : Int32), v47.2)) w45)))))))))))
set_option maxRecDepth 20000 in
set_option maxHeartbeats 4000000 in
theorem zl_X12_live_20 {p : Program} {l : Launch} {e : Env} {s : State} {m : MethodId} {args : Array Value} {below : List Frame} {meth : Method} {c : Code} {D : va_G} {cA : Nat → ClassId} {ad : Nat → Nat} {Q : State → Prop} (C : Cx SH p s m args meth c cX12_live 8 (some .int) RX12 D cA ad (inAd ad)) (F : Nat) (x1 : Int32)  {out : Int32 × St}  (K : ∀ ls : Array Slot, lv_has ls 8 [(0, .ref (ad 50)), (1, .int x1), (2, .int out.1)] → Z SH p l e (rmD 2) s m args below meth c D cA ad (inAd ad) 0 0 Q out.2 46 ls []) : ∀ (k : Nat) (x2 : Int32) (u : St), l_X12_live_20 F x1 k x2 u = some out → ∀ ls : Array Slot, lv_has ls 8 [(0, .ref (ad 50)), (1, .int x1), (2, .int x2)] → Z SH p l e (rmD 2) s m args below meth c D cA ad (inAd ad) 0 0 Q u 20 ls [] := by
  intro k
  induction k with
  | zero => intro x2 u h; cases h
  | succ k ih =>
    intro x2 u h ls hl
    replace h : b_X12_live_20 F x1 (l_X12_live_20 F x1 k) x2 u = some out := h
    unfold b_X12_live_20 at h
    refine z_iload_n C (i := 2) (k := 2) hl dX12_live_20 rfl rfl ?_
    refine z_aload_n C (i := 0) (k := 0) hl dX12_live_21 rfl rfl ?_
    refine z_geti C 50 17 fw_X12_123 sh_50 rfl dX12_live_22 ?_
    refine z_icmp_ge C 46 dX12_live_25 (by decide) (fun hc9 => ?_) (fun hc9 => ?_)
    · replace h := (if_pos hc9).symm.trans h
      obtain rfl := Option.some.inj h
      exact K _ (lv_sub hl [0, 1, 2] rfl)
    · replace h := (if_neg hc9).symm.trans h
      refine z_aload_n C (i := 0) (k := 0) hl dX12_live_28 rfl rfl ?_
      refine z_getr C 50 18 64 fw_X12_51 sh_50 rfl dX12_live_29 ?_
      refine z_aload_n C (i := 0) (k := 0) hl dX12_live_32 rfl rfl ?_
      refine z_getr C 50 13 60 fw_X12_39 sh_50 rfl dX12_live_33 ?_
      refine z_iload_n C (i := 2) (k := 2) hl dX12_live_36 rfl rfl ?_
      obtain ⟨hi7, h⟩ := gd h
      refine z_iald C 60 4096 sh_60 hi7 dX12_live_37 ?_
      refine z_iconst C (0 : Int32) dX12_live_38 (by decide) ?_
      obtain ⟨hi8, h⟩ := gd h
      refine z_zast C 64 4096 sh_64 hi8 dX12_live_39 ?_
      refine z_iinc C (i := 2) (k := 2) (x2 + (1 : Int32)) [(2, .int (x2 + (1 : Int32))), (0, .ref (ad 50)), (1, .int x1)] hl dX12_live_40 rfl rfl (by decide) rfl (fun ls hl => ?_)
      refine z_goto C 20 dX12_live_43 (by decide) ?_
      exact ih _ _ h _ (lv_sub hl [1, 2, 0] rfl)
set_option maxRecDepth 20000 in
set_option maxHeartbeats 4000000 in
theorem zl_X12_live_114 {p : Program} {l : Launch} {e : Env} {s : State} {m : MethodId} {args : Array Value} {below : List Frame} {meth : Method} {c : Code} {D : va_G} {cA : Nat → ClassId} {ad : Nat → Nat} {Q : State → Prop} (C : Cx SH p s m args meth c cX12_live 8 (some .int) RX12 D cA ad (inAd ad)) (F : Nat) (x1 : Int32) (x2 : Int32) (x3 : Int32) (x4 : Int32) (x5 : Int32)  {out : Int32 × Int32 × St}  (K : ∀ ls : Array Slot, lv_has ls 8 [(0, .ref (ad 50)), (1, .int x1), (2, .int x2), (3, .int x3), (4, .int x4), (5, .int x5), (6, .int out.1), (7, .int out.2.1)] → Z SH p l e (rmD 2) s m args below meth c D cA ad (inAd ad) 0 0 Q out.2.2 165 ls []) : ∀ (k : Nat) (x6 : Int32) (x7 : Int32) (u : St), l_X12_live_114 F x1 x2 x3 x4 x5 k x6 x7 u = some out → ∀ ls : Array Slot, lv_has ls 8 [(0, .ref (ad 50)), (1, .int x1), (2, .int x2), (3, .int x3), (4, .int x4), (5, .int x5), (6, .int x6), (7, .int x7)] → Z SH p l e (rmD 2) s m args below meth c D cA ad (inAd ad) 0 0 Q u 114 ls [] := by
  intro k
  induction k with
  | zero => intro x6 x7 u h; cases h
  | succ k ih =>
    intro x6 x7 u h ls hl
    replace h : b_X12_live_114 F x1 x2 x3 x4 x5 (l_X12_live_114 F x1 x2 x3 x4 x5 k) x6 x7 u = some out := h
    unfold b_X12_live_114 at h
    refine z_iload C (i := 7) (k := 7) hl dX12_live_114 rfl ?_
    refine z_bipush C (12 : Int32) dX12_live_116 (by decide) ?_
    refine z_icmp_ge C 165 dX12_live_118 (by decide) (fun hc22 => ?_) (fun hc22 => ?_)
    · replace h := (if_pos hc22).symm.trans h
      obtain rfl := Option.some.inj h
      exact K _ (lv_sub hl [0, 1, 2, 3, 4, 5, 6, 7] rfl)
    · replace h := (if_neg hc22).symm.trans h
      refine z_iload C (i := 6) (k := 6) hl dX12_live_121 rfl ?_
      refine z_if_ne C 152 dX12_live_123 (by decide) (fun hc21 => ?_) (fun hc21 => ?_)
      · replace h := (if_neg hc21).symm.trans h
        refine z_iconst C (1 : Int32) dX12_live_152 (by decide) ?_
        refine z_goto C 157 dX12_live_153 (by decide) ?_
        refine z_istore C (i := 6) [(6, .int (1 : Int32)), (0, .ref (ad 50)), (1, .int x1), (2, .int x2), (3, .int x3), (4, .int x4), (5, .int x5), (7, .int x7)] hl dX12_live_157 (by decide) rfl (fun ls hl => ?_)
        refine z_iinc C (i := 7) (k := 7) (x7 + (1 : Int32)) [(7, .int (x7 + (1 : Int32))), (6, .int (1 : Int32)), (0, .ref (ad 50)), (1, .int x1), (2, .int x2), (3, .int x3), (4, .int x4), (5, .int x5)] hl dX12_live_159 rfl rfl (by decide) rfl (fun ls hl => ?_)
        refine z_goto C 114 dX12_live_162 (by decide) ?_
        exact ih _ _ _ h _ (lv_sub hl [2, 3, 4, 5, 6, 7, 1, 0] rfl)
      · replace h := (if_pos hc21).symm.trans h
        refine z_iload C (i := 5) (k := 5) hl dX12_live_126 rfl ?_
        refine z_iload C (i := 7) (k := 7) hl dX12_live_128 rfl ?_
        refine z_ishr C dX12_live_130 ?_
        refine z_iconst C (1 : Int32) dX12_live_131 (by decide) ?_
        refine z_iand C dX12_live_132 ?_
        refine z_iconst C (1 : Int32) dX12_live_133 (by decide) ?_
        refine z_icmp_ne C 156 dX12_live_134 (by decide) (fun hc20 => ?_) (fun hc20 => ?_)
        · replace h := (if_neg hc20).symm.trans h
          refine z_iconst C (0 : Int32) dX12_live_156 (by decide) ?_
          refine z_istore C (i := 6) [(6, .int (0 : Int32)), (0, .ref (ad 50)), (1, .int x1), (2, .int x2), (3, .int x3), (4, .int x4), (5, .int x5), (7, .int x7)] hl dX12_live_157 (by decide) rfl (fun ls hl => ?_)
          refine z_iinc C (i := 7) (k := 7) (x7 + (1 : Int32)) [(7, .int (x7 + (1 : Int32))), (6, .int (0 : Int32)), (0, .ref (ad 50)), (1, .int x1), (2, .int x2), (3, .int x3), (4, .int x4), (5, .int x5)] hl dX12_live_159 rfl rfl (by decide) rfl (fun ls hl => ?_)
          refine z_goto C 114 dX12_live_162 (by decide) ?_
          exact ih _ _ _ h _ (lv_sub hl [2, 3, 4, 5, 6, 7, 1, 0] rfl)
        · replace h := (if_pos hc20).symm.trans h
          refine z_aload_n C (i := 0) (k := 0) hl dX12_live_137 rfl rfl ?_
          refine z_getr C 50 18 64 fw_X12_51 sh_50 rfl dX12_live_138 ?_
          refine z_iload C (i := 4) (k := 4) hl dX12_live_141 rfl ?_
          refine z_iconst C (1 : Int32) dX12_live_143 (by decide) ?_
          refine z_iload C (i := 7) (k := 7) hl dX12_live_144 rfl ?_
          refine z_ishl C dX12_live_146 ?_
          refine z_ixor C dX12_live_147 ?_
          obtain ⟨hi18, h⟩ := gd h
          refine z_zald C 64 4096 sh_64 hi18 dX12_live_148 ?_
          refine z_if_eq C 156 dX12_live_149 (by decide) (fun hc19 => ?_) (fun hc19 => ?_)
          · replace h := (if_pos hc19).symm.trans h
            refine z_iconst C (0 : Int32) dX12_live_156 (by decide) ?_
            refine z_istore C (i := 6) [(6, .int (0 : Int32)), (0, .ref (ad 50)), (1, .int x1), (2, .int x2), (3, .int x3), (4, .int x4), (5, .int x5), (7, .int x7)] hl dX12_live_157 (by decide) rfl (fun ls hl => ?_)
            refine z_iinc C (i := 7) (k := 7) (x7 + (1 : Int32)) [(7, .int (x7 + (1 : Int32))), (6, .int (0 : Int32)), (0, .ref (ad 50)), (1, .int x1), (2, .int x2), (3, .int x3), (4, .int x4), (5, .int x5)] hl dX12_live_159 rfl rfl (by decide) rfl (fun ls hl => ?_)
            refine z_goto C 114 dX12_live_162 (by decide) ?_
            exact ih _ _ _ h _ (lv_sub hl [2, 3, 4, 5, 6, 7, 1, 0] rfl)
          · replace h := (if_neg hc19).symm.trans h
            refine z_iconst C (1 : Int32) dX12_live_152 (by decide) ?_
            refine z_goto C 157 dX12_live_153 (by decide) ?_
            refine z_istore C (i := 6) [(6, .int (1 : Int32)), (0, .ref (ad 50)), (1, .int x1), (2, .int x2), (3, .int x3), (4, .int x4), (5, .int x5), (7, .int x7)] hl dX12_live_157 (by decide) rfl (fun ls hl => ?_)
            refine z_iinc C (i := 7) (k := 7) (x7 + (1 : Int32)) [(7, .int (x7 + (1 : Int32))), (6, .int (1 : Int32)), (0, .ref (ad 50)), (1, .int x1), (2, .int x2), (3, .int x3), (4, .int x4), (5, .int x5)] hl dX12_live_159 rfl rfl (by decide) rfl (fun ls hl => ?_)
            refine z_goto C 114 dX12_live_162 (by decide) ?_
            exact ih _ _ _ h _ (lv_sub hl [2, 3, 4, 5, 6, 7, 1, 0] rfl)
set_option maxRecDepth 20000 in
set_option maxHeartbeats 4000000 in
theorem zl_X12_live_61 {p : Program} {l : Launch} {e : Env} {s : State} {m : MethodId} {args : Array Value} {below : List Frame} {meth : Method} {c : Code} {D : va_G} {cA : Nat → ClassId} {ad : Nat → Nat} {Q : State → Prop} (C : Cx SH p s m args meth c cX12_live 8 (some .int) RX12 D cA ad (inAd ad)) (F : Nat) (x1 : Int32)  {out : Int32 × Int32 × St}  (K : ∀ ls : Array Slot, lv_has ls 8 [(0, .ref (ad 50)), (1, .int x1), (2, .int out.1), (3, .int out.2.1)] → Z SH p l e (rmD 2) s m args below meth c D cA ad (inAd ad) 0 0 Q out.2.2 195 ls []) : ∀ (k : Nat) (x2 : Int32) (x3 : Int32) (u : St), l_X12_live_61 F x1 k x2 x3 u = some out → ∀ ls : Array Slot, lv_has ls 8 [(0, .ref (ad 50)), (1, .int x1), (2, .int x2), (3, .int x3)] → Z SH p l e (rmD 2) s m args below meth c D cA ad (inAd ad) 0 0 Q u 61 ls [] := by
  intro k
  induction k with
  | zero => intro x2 x3 u h; cases h
  | succ k ih =>
    intro x2 x3 u h ls hl
    replace h : b_X12_live_61 F x1 (l_X12_live_61 F x1 k) x2 x3 u = some out := h
    unfold b_X12_live_61 at h
    refine z_iload_n C (i := 3) (k := 3) hl dX12_live_61 rfl rfl ?_
    refine z_if_lt C 195 dX12_live_62 (by decide) (fun hc35 => ?_) (fun hc35 => ?_)
    · replace h := (if_pos hc35).symm.trans h
      obtain rfl := Option.some.inj h
      exact K _ (lv_sub hl [0, 1, 2, 3] rfl)
    · replace h := (if_neg hc35).symm.trans h
      refine z_aload_n C (i := 0) (k := 0) hl dX12_live_65 rfl rfl ?_
      refine z_getr C 50 13 60 fw_X12_39 sh_50 rfl dX12_live_66 ?_
      refine z_iload_n C (i := 3) (k := 3) hl dX12_live_69 rfl rfl ?_
      obtain ⟨hi12, h⟩ := gd h
      refine z_iald C 60 4096 sh_60 hi12 dX12_live_70 ?_
      refine z_istore C (i := 4) [(4, .int (u.1 60 x3.toNatClampNeg)), (0, .ref (ad 50)), (1, .int x1), (2, .int x2), (3, .int x3)] hl dX12_live_71 (by decide) rfl (fun ls hl => ?_)
      refine z_aload_n C (i := 0) (k := 1) hl dX12_live_73 rfl rfl ?_
      refine z_getr C 50 18 64 fw_X12_51 sh_50 rfl dX12_live_74 ?_
      refine z_iload C (i := 4) (k := 0) hl dX12_live_77 rfl ?_
      obtain ⟨hi13, h⟩ := gd h
      refine z_zald C 64 4096 sh_64 hi13 dX12_live_79 ?_
      refine z_if_eq C 86 dX12_live_80 (by decide) (fun hc34 => ?_) (fun hc34 => ?_)
      · replace h := (if_pos hc34).symm.trans h
        refine z_aload_n C (i := 0) (k := 1) hl dX12_live_86 rfl rfl ?_
        refine z_iload C (i := 4) (k := 0) hl dX12_live_87 rfl ?_
        obtain ⟨⟨r16, u14⟩, hc15, h⟩ := bnd h
        try dsimp only at h
        refine z_callV C (ci := 12) [.int (u.1 60 x3.toNatClampNeg)] [] [.int r16] (m_X12_askedIn F _ _ _ _ hc15) cw_X12_askedIn vw_X12_askedIn ml_X12_120 sh_50 rfl rfl rfl rfl hl.1 (Nat.le_of_ble_eq_true rfl) ⟨Nat.le_of_ble_eq_true rfl, Nat.le_of_ble_eq_true rfl⟩ ⟨Nat.le_refl _, Nat.le_refl _⟩ rfl dX12_live_89 ?_
        refine z_istore C (i := 5) [(5, .int r16), (4, .int (u.1 60 x3.toNatClampNeg)), (0, .ref (ad 50)), (1, .int x1), (2, .int x2), (3, .int x3)] hl dX12_live_92 (by decide) rfl (fun ls hl => ?_)
        refine z_iload C (i := 5) (k := 0) hl dX12_live_94 rfl ?_
        refine z_iload_n C (i := 1) (k := 3) hl dX12_live_96 rfl rfl ?_
        refine z_ishr C dX12_live_97 ?_
        refine z_iconst C (1 : Int32) dX12_live_98 (by decide) ?_
        refine z_iand C dX12_live_99 ?_
        refine z_iconst C (1 : Int32) dX12_live_100 (by decide) ?_
        refine z_icmp_ne C 108 dX12_live_101 (by decide) (fun hc33 => ?_) (fun hc33 => ?_)
        · replace h := (if_neg hc33).symm.trans h
          refine z_iconst C (0 : Int32) dX12_live_108 (by decide) ?_
          refine z_istore C (i := 6) [(6, .int (0 : Int32)), (5, .int r16), (4, .int (u.1 60 x3.toNatClampNeg)), (0, .ref (ad 50)), (1, .int x1), (2, .int x2), (3, .int x3)] hl dX12_live_109 (by decide) rfl (fun ls hl => ?_)
          refine z_iconst C (0 : Int32) dX12_live_111 (by decide) ?_
          refine z_istore C (i := 7) [(7, .int (0 : Int32)), (6, .int (0 : Int32)), (5, .int r16), (4, .int (u.1 60 x3.toNatClampNeg)), (0, .ref (ad 50)), (1, .int x1), (2, .int x2), (3, .int x3)] hl dX12_live_112 (by decide) rfl (fun ls hl => ?_)
          obtain ⟨w23, hw24, h⟩ := bnd h
          refine zl_X12_live_114 C F x1 x2 x3 (u.1 60 x3.toNatClampNeg) r16 (out := w23) (fun ls hl => ?_) F _ _ _ hw24 _ (lv_sub hl [4, 5, 6, 7, 3, 2, 1, 0] rfl)
          refine z_aload_n C (i := 0) (k := 0) hl dX12_live_165 rfl rfl ?_
          refine z_getr C 50 18 64 fw_X12_51 sh_50 rfl dX12_live_166 ?_
          refine z_iload C (i := 4) (k := 4) hl dX12_live_169 rfl ?_
          refine z_iload C (i := 6) (k := 6) hl dX12_live_171 rfl ?_
          obtain ⟨hi25, h⟩ := gd h
          refine z_zast C 64 4096 sh_64 hi25 dX12_live_173 ?_
          refine z_iload_n C (i := 2) (k := 2) hl dX12_live_174 rfl rfl ?_
          refine z_if_ne C 183 dX12_live_175 (by decide) (fun hc27 => ?_) (fun hc27 => ?_)
          · replace h := (if_neg hc27).symm.trans h
            refine z_iconst C (1 : Int32) dX12_live_183 (by decide) ?_
            refine z_goto C 188 dX12_live_184 (by decide) ?_
            refine z_istore_n C (i := 2) [(2, .int (1 : Int32)), (0, .ref (ad 50)), (1, .int x1), (3, .int x3), (4, .int (u.1 60 x3.toNatClampNeg)), (5, .int r16), (6, .int w23.1), (7, .int w23.2.1)] hl dX12_live_188 rfl (by decide) rfl (fun ls hl => ?_)
            refine z_iinc C (i := 3) (k := 3) (x3 + (-1 : Int32)) [(3, .int (x3 + (-1 : Int32))), (2, .int (1 : Int32)), (0, .ref (ad 50)), (1, .int x1), (4, .int (u.1 60 x3.toNatClampNeg)), (5, .int r16), (6, .int w23.1), (7, .int w23.2.1)] hl dX12_live_189 rfl rfl (by decide) rfl (fun ls hl => ?_)
            refine z_goto C 61 dX12_live_192 (by decide) ?_
            exact ih _ _ _ h _ (lv_sub hl [2, 3, 1, 0] rfl)
          · replace h := (if_pos hc27).symm.trans h
            refine z_iload C (i := 6) (k := 6) hl dX12_live_178 rfl ?_
            refine z_if_eq C 187 dX12_live_180 (by decide) (fun hc26 => ?_) (fun hc26 => ?_)
            · replace h := (if_pos hc26).symm.trans h
              refine z_iconst C (0 : Int32) dX12_live_187 (by decide) ?_
              refine z_istore_n C (i := 2) [(2, .int (0 : Int32)), (0, .ref (ad 50)), (1, .int x1), (3, .int x3), (4, .int (u.1 60 x3.toNatClampNeg)), (5, .int r16), (6, .int w23.1), (7, .int w23.2.1)] hl dX12_live_188 rfl (by decide) rfl (fun ls hl => ?_)
              refine z_iinc C (i := 3) (k := 3) (x3 + (-1 : Int32)) [(3, .int (x3 + (-1 : Int32))), (2, .int (0 : Int32)), (0, .ref (ad 50)), (1, .int x1), (4, .int (u.1 60 x3.toNatClampNeg)), (5, .int r16), (6, .int w23.1), (7, .int w23.2.1)] hl dX12_live_189 rfl rfl (by decide) rfl (fun ls hl => ?_)
              refine z_goto C 61 dX12_live_192 (by decide) ?_
              exact ih _ _ _ h _ (lv_sub hl [2, 3, 1, 0] rfl)
            · replace h := (if_neg hc26).symm.trans h
              refine z_iconst C (1 : Int32) dX12_live_183 (by decide) ?_
              refine z_goto C 188 dX12_live_184 (by decide) ?_
              refine z_istore_n C (i := 2) [(2, .int (1 : Int32)), (0, .ref (ad 50)), (1, .int x1), (3, .int x3), (4, .int (u.1 60 x3.toNatClampNeg)), (5, .int r16), (6, .int w23.1), (7, .int w23.2.1)] hl dX12_live_188 rfl (by decide) rfl (fun ls hl => ?_)
              refine z_iinc C (i := 3) (k := 3) (x3 + (-1 : Int32)) [(3, .int (x3 + (-1 : Int32))), (2, .int (1 : Int32)), (0, .ref (ad 50)), (1, .int x1), (4, .int (u.1 60 x3.toNatClampNeg)), (5, .int r16), (6, .int w23.1), (7, .int w23.2.1)] hl dX12_live_189 rfl rfl (by decide) rfl (fun ls hl => ?_)
              refine z_goto C 61 dX12_live_192 (by decide) ?_
              exact ih _ _ _ h _ (lv_sub hl [2, 3, 1, 0] rfl)
        · replace h := (if_pos hc33).symm.trans h
          refine z_iconst C (1 : Int32) dX12_live_104 (by decide) ?_
          refine z_goto C 109 dX12_live_105 (by decide) ?_
          refine z_istore C (i := 6) [(6, .int (1 : Int32)), (5, .int r16), (4, .int (u.1 60 x3.toNatClampNeg)), (0, .ref (ad 50)), (1, .int x1), (2, .int x2), (3, .int x3)] hl dX12_live_109 (by decide) rfl (fun ls hl => ?_)
          refine z_iconst C (0 : Int32) dX12_live_111 (by decide) ?_
          refine z_istore C (i := 7) [(7, .int (0 : Int32)), (6, .int (1 : Int32)), (5, .int r16), (4, .int (u.1 60 x3.toNatClampNeg)), (0, .ref (ad 50)), (1, .int x1), (2, .int x2), (3, .int x3)] hl dX12_live_112 (by decide) rfl (fun ls hl => ?_)
          obtain ⟨w28, hw29, h⟩ := bnd h
          refine zl_X12_live_114 C F x1 x2 x3 (u.1 60 x3.toNatClampNeg) r16 (out := w28) (fun ls hl => ?_) F _ _ _ hw29 _ (lv_sub hl [4, 5, 6, 7, 3, 2, 1, 0] rfl)
          refine z_aload_n C (i := 0) (k := 0) hl dX12_live_165 rfl rfl ?_
          refine z_getr C 50 18 64 fw_X12_51 sh_50 rfl dX12_live_166 ?_
          refine z_iload C (i := 4) (k := 4) hl dX12_live_169 rfl ?_
          refine z_iload C (i := 6) (k := 6) hl dX12_live_171 rfl ?_
          obtain ⟨hi30, h⟩ := gd h
          refine z_zast C 64 4096 sh_64 hi30 dX12_live_173 ?_
          refine z_iload_n C (i := 2) (k := 2) hl dX12_live_174 rfl rfl ?_
          refine z_if_ne C 183 dX12_live_175 (by decide) (fun hc32 => ?_) (fun hc32 => ?_)
          · replace h := (if_neg hc32).symm.trans h
            refine z_iconst C (1 : Int32) dX12_live_183 (by decide) ?_
            refine z_goto C 188 dX12_live_184 (by decide) ?_
            refine z_istore_n C (i := 2) [(2, .int (1 : Int32)), (0, .ref (ad 50)), (1, .int x1), (3, .int x3), (4, .int (u.1 60 x3.toNatClampNeg)), (5, .int r16), (6, .int w28.1), (7, .int w28.2.1)] hl dX12_live_188 rfl (by decide) rfl (fun ls hl => ?_)
            refine z_iinc C (i := 3) (k := 3) (x3 + (-1 : Int32)) [(3, .int (x3 + (-1 : Int32))), (2, .int (1 : Int32)), (0, .ref (ad 50)), (1, .int x1), (4, .int (u.1 60 x3.toNatClampNeg)), (5, .int r16), (6, .int w28.1), (7, .int w28.2.1)] hl dX12_live_189 rfl rfl (by decide) rfl (fun ls hl => ?_)
            refine z_goto C 61 dX12_live_192 (by decide) ?_
            exact ih _ _ _ h _ (lv_sub hl [2, 3, 1, 0] rfl)
          · replace h := (if_pos hc32).symm.trans h
            refine z_iload C (i := 6) (k := 6) hl dX12_live_178 rfl ?_
            refine z_if_eq C 187 dX12_live_180 (by decide) (fun hc31 => ?_) (fun hc31 => ?_)
            · replace h := (if_pos hc31).symm.trans h
              refine z_iconst C (0 : Int32) dX12_live_187 (by decide) ?_
              refine z_istore_n C (i := 2) [(2, .int (0 : Int32)), (0, .ref (ad 50)), (1, .int x1), (3, .int x3), (4, .int (u.1 60 x3.toNatClampNeg)), (5, .int r16), (6, .int w28.1), (7, .int w28.2.1)] hl dX12_live_188 rfl (by decide) rfl (fun ls hl => ?_)
              refine z_iinc C (i := 3) (k := 3) (x3 + (-1 : Int32)) [(3, .int (x3 + (-1 : Int32))), (2, .int (0 : Int32)), (0, .ref (ad 50)), (1, .int x1), (4, .int (u.1 60 x3.toNatClampNeg)), (5, .int r16), (6, .int w28.1), (7, .int w28.2.1)] hl dX12_live_189 rfl rfl (by decide) rfl (fun ls hl => ?_)
              refine z_goto C 61 dX12_live_192 (by decide) ?_
              exact ih _ _ _ h _ (lv_sub hl [2, 3, 1, 0] rfl)
            · replace h := (if_neg hc31).symm.trans h
              refine z_iconst C (1 : Int32) dX12_live_183 (by decide) ?_
              refine z_goto C 188 dX12_live_184 (by decide) ?_
              refine z_istore_n C (i := 2) [(2, .int (1 : Int32)), (0, .ref (ad 50)), (1, .int x1), (3, .int x3), (4, .int (u.1 60 x3.toNatClampNeg)), (5, .int r16), (6, .int w28.1), (7, .int w28.2.1)] hl dX12_live_188 rfl (by decide) rfl (fun ls hl => ?_)
              refine z_iinc C (i := 3) (k := 3) (x3 + (-1 : Int32)) [(3, .int (x3 + (-1 : Int32))), (2, .int (1 : Int32)), (0, .ref (ad 50)), (1, .int x1), (4, .int (u.1 60 x3.toNatClampNeg)), (5, .int r16), (6, .int w28.1), (7, .int w28.2.1)] hl dX12_live_189 rfl rfl (by decide) rfl (fun ls hl => ?_)
              refine z_goto C 61 dX12_live_192 (by decide) ?_
              exact ih _ _ _ h _ (lv_sub hl [2, 3, 1, 0] rfl)
      · replace h := (if_neg hc34).symm.trans h
        refine z_goto C 189 dX12_live_83 (by decide) ?_
        refine z_iinc C (i := 3) (k := 4) (x3 + (-1 : Int32)) [(3, .int (x3 + (-1 : Int32))), (4, .int (u.1 60 x3.toNatClampNeg)), (0, .ref (ad 50)), (1, .int x1), (2, .int x2)] hl dX12_live_189 rfl rfl (by decide) rfl (fun ls hl => ?_)
        refine z_goto C 61 dX12_live_192 (by decide) ?_
        exact ih _ _ _ h _ (lv_sub hl [2, 3, 4, 0] rfl)
set_option maxRecDepth 20000 in
set_option maxHeartbeats 4000000 in
theorem zl_X12_live_48 {p : Program} {l : Launch} {e : Env} {s : State} {m : MethodId} {args : Array Value} {below : List Frame} {meth : Method} {c : Code} {D : va_G} {cA : Nat → ClassId} {ad : Nat → Nat} {Q : State → Prop} (C : Cx SH p s m args meth c cX12_live 8 (some .int) RX12 D cA ad (inAd ad)) (F : Nat) (x1 : Int32)  {out : Int32 × St}  (K : ∀ ls : Array Slot, lv_has ls 8 [(0, .ref (ad 50)), (1, .int x1), (2, .int out.1)] → Z SH p l e (rmD 2) s m args below meth c D cA ad (inAd ad) 0 0 Q out.2 198 ls []) : ∀ (k : Nat) (x2 : Int32) (u : St), l_X12_live_48 F x1 k x2 u = some out → ∀ ls : Array Slot, lv_has ls 8 [(0, .ref (ad 50)), (1, .int x1), (2, .int x2)] → Z SH p l e (rmD 2) s m args below meth c D cA ad (inAd ad) 0 0 Q u 48 ls [] := by
  intro k
  induction k with
  | zero => intro x2 u h; cases h
  | succ k ih =>
    intro x2 u h ls hl
    replace h : b_X12_live_48 F x1 (l_X12_live_48 F x1 k) x2 u = some out := h
    unfold b_X12_live_48 at h
    refine z_iload_n C (i := 2) (k := 2) hl dX12_live_48 rfl rfl ?_
    refine z_if_eq C 198 dX12_live_49 (by decide) (fun hc38 => ?_) (fun hc38 => ?_)
    · replace h := (if_pos hc38).symm.trans h
      obtain rfl := Option.some.inj h
      exact K _ (lv_sub hl [0, 1, 2] rfl)
    · replace h := (if_neg hc38).symm.trans h
      refine z_iconst C (0 : Int32) dX12_live_52 (by decide) ?_
      refine z_istore_n C (i := 2) [(2, .int (0 : Int32)), (0, .ref (ad 50)), (1, .int x1)] hl dX12_live_53 rfl (by decide) rfl (fun ls hl => ?_)
      refine z_aload_n C (i := 0) (k := 1) hl dX12_live_54 rfl rfl ?_
      refine z_geti C 50 17 fw_X12_123 sh_50 rfl dX12_live_55 ?_
      refine z_iconst C (1 : Int32) dX12_live_58 (by decide) ?_
      refine z_isub C dX12_live_59 ?_
      refine z_istore_n C (i := 3) [(3, .int ((u.1 50 17) - (1 : Int32))), (2, .int (0 : Int32)), (0, .ref (ad 50)), (1, .int x1)] hl dX12_live_60 rfl (by decide) rfl (fun ls hl => ?_)
      obtain ⟨w36, hw37, h⟩ := bnd h
      refine zl_X12_live_61 C F x1 (out := w36) (fun ls hl => ?_) F _ _ _ hw37 _ (lv_sub hl [2, 3, 1, 0] rfl)
      refine z_goto C 48 dX12_live_195 (by decide) ?_
      exact ih _ _ h _ (lv_sub hl [0, 1, 2] rfl)
set_option maxRecDepth 20000 in
set_option maxHeartbeats 4000000 in
theorem zl_X12_live_200 {p : Program} {l : Launch} {e : Env} {s : State} {m : MethodId} {args : Array Value} {below : List Frame} {meth : Method} {c : Code} {D : va_G} {cA : Nat → ClassId} {ad : Nat → Nat} {Q : State → Prop} (C : Cx SH p s m args meth c cX12_live 8 (some .int) RX12 D cA ad (inAd ad)) (F : Nat)   {out : (Int32 × St) ⊕ (Int32 × St)} (K1 : ∀ (r : Int32) (u' : St), out = .inl (r, u') → ∀ (pc : Nat) (ls : Array Slot), decode cX12_live pc = .ok (.ireturn, 1) → Z SH p l e (rmD 2) s m args below meth c D cA ad (inAd ad) 0 0 Q u' pc ls [.int r]) (K : ∀ (v : Int32 × St), out = .inr v → ∀ ls : Array Slot, lv_has ls 8 [(0, .ref (ad 50)), (3, .int v.1)] → Z SH p l e (rmD 2) s m args below meth c D cA ad (inAd ad) 0 0 Q v.2 230 ls []) : ∀ (k : Nat) (x3 : Int32) (u : St), l_X12_live_200 F  k x3 u = some out → ∀ ls : Array Slot, lv_has ls 8 [(0, .ref (ad 50)), (3, .int x3)] → Z SH p l e (rmD 2) s m args below meth c D cA ad (inAd ad) 0 0 Q u 200 ls [] := by
  intro k
  induction k with
  | zero => intro x3 u h; cases h
  | succ k ih =>
    intro x3 u h ls hl
    replace h : b_X12_live_200 F  (l_X12_live_200 F  k) x3 u = some out := h
    unfold b_X12_live_200 at h
    refine z_iload_n C (i := 3) (k := 1) hl dX12_live_200 rfl rfl ?_
    refine z_aload_n C (i := 0) (k := 0) hl dX12_live_201 rfl rfl ?_
    refine z_geti C 50 17 fw_X12_123 sh_50 rfl dX12_live_202 ?_
    refine z_icmp_ge C 230 dX12_live_205 (by decide) (fun hc44 => ?_) (fun hc44 => ?_)
    · replace h := (if_pos hc44).symm.trans h
      exact K _ (Option.some.inj h).symm _ (lv_sub hl [0, 1] rfl)
    · replace h := (if_neg hc44).symm.trans h
      refine z_aload_n C (i := 0) (k := 0) hl dX12_live_208 rfl rfl ?_
      refine z_getr C 50 18 64 fw_X12_51 sh_50 rfl dX12_live_209 ?_
      refine z_aload_n C (i := 0) (k := 0) hl dX12_live_212 rfl rfl ?_
      refine z_getr C 50 13 60 fw_X12_39 sh_50 rfl dX12_live_213 ?_
      refine z_iload_n C (i := 3) (k := 1) hl dX12_live_216 rfl rfl ?_
      obtain ⟨hi41, h⟩ := gd h
      refine z_iald C 60 4096 sh_60 hi41 dX12_live_217 ?_
      obtain ⟨hi42, h⟩ := gd h
      refine z_zald C 64 4096 sh_64 hi42 dX12_live_218 ?_
      refine z_if_ne C 224 dX12_live_219 (by decide) (fun hc43 => ?_) (fun hc43 => ?_)
      · replace h := (if_neg hc43).symm.trans h
        refine z_iinc C (i := 3) (k := 1) (x3 + (1 : Int32)) [(3, .int (x3 + (1 : Int32))), (0, .ref (ad 50))] hl dX12_live_224 rfl rfl (by decide) rfl (fun ls hl => ?_)
        refine z_goto C 200 dX12_live_227 (by decide) ?_
        exact ih _ _ h _ (lv_sub hl [1, 0] rfl)
      · replace h := (if_pos hc43).symm.trans h
        refine z_iconst C (0 : Int32) dX12_live_222 (by decide) ?_
        exact K1 _ _ (Option.some.inj h).symm _ _ dX12_live_223
set_option maxRecDepth 20000 in
set_option maxHeartbeats 4000000 in
theorem m_X12_live (F : Nat) (x1 : Int32) (u : St) (r : Int32) (u' : St)  (h : f_X12_live F x1 u = some (r, u')) : Mt yX12_live cX12_live 8 (some .int) 2 (fun ad => [.ref (ad 50), .int x1]) u (fun _ => some (.int r)) u' := by
  refine Mt.of (by decide) (fun ad => Nat.le_of_ble_eq_true rfl) ?_
  intro p l e s m args below meth c D cA ad ls C hl
  have hl : lv_has ls 8 [(0, .ref (ad 50)), (1, .int x1)] := hl
  unfold f_X12_live at h
  refine z_aload_n C (i := 0) (k := 0) hl dX12_live_0 rfl rfl ?_
  refine z_iconst C (0 : Int32) dX12_live_1 (by decide) ?_
  refine z_puti C 50 0 pw_X12_75 sh_50 rfl dX12_live_2 ?_
  refine z_iload_n C (i := 1) (k := 1) hl dX12_live_5 rfl rfl ?_
  obtain ⟨⟨r3, u1⟩, hc2, h⟩ := bnd h
  try dsimp only at h
  refine z_callS C [.int x1] [] [.int r3] (m_X12_isSignal F _ _ _ _ hc2) cw_X12_isSignal sw_X12_isSignal ml_X12_117 rfl rfl rfl hl.1 (Nat.le_of_ble_eq_true rfl) ⟨Nat.le_of_ble_eq_true rfl, Nat.le_of_ble_eq_true rfl⟩ ⟨Nat.le_refl _, Nat.le_refl _⟩ rfl dX12_live_6 ?_
  refine z_if_ne C 14 dX12_live_9 (by decide) (fun hc49 => ?_) (fun hc49 => ?_)
  · replace h := (if_neg hc49).symm.trans h
    refine z_aload_n C (i := 0) (k := 0) hl dX12_live_14 rfl rfl ?_
    obtain ⟨u5, hc6, h⟩ := bnd h
    refine z_callV C (ci := 12) [] [] [] (m_X12_walks F  _ _ hc6) cw_X12_walks vw_X12_walks ml_X12_126 sh_50 rfl rfl rfl rfl hl.1 (Nat.le_of_ble_eq_true rfl) ⟨Nat.le_of_ble_eq_true rfl, Nat.le_of_ble_eq_true rfl⟩ ⟨Nat.le_refl _, Nat.le_refl _⟩ rfl dX12_live_15 ?_
    refine z_iconst C (0 : Int32) dX12_live_18 (by decide) ?_
    refine z_istore_n C (i := 2) [(2, .int (0 : Int32)), (0, .ref (ad 50)), (1, .int x1)] hl dX12_live_19 rfl (by decide) rfl (fun ls hl => ?_)
    obtain ⟨w10, hw11, h⟩ := bnd h
    refine zl_X12_live_20 C F x1 (out := w10) (fun ls hl => ?_) F _ _ hw11 _ (lv_sub hl [1, 2, 0] rfl)
    refine z_iconst C (1 : Int32) dX12_live_46 (by decide) ?_
    refine z_istore_n C (i := 2) [(2, .int (1 : Int32)), (0, .ref (ad 50)), (1, .int x1)] hl dX12_live_47 rfl (by decide) rfl (fun ls hl => ?_)
    obtain ⟨w39, hw40, h⟩ := bnd h
    refine zl_X12_live_48 C F x1 (out := w39) (fun ls hl => ?_) F _ _ hw40 _ (lv_sub hl [1, 2, 0] rfl)
    refine z_iconst C (0 : Int32) dX12_live_198 (by decide) ?_
    refine z_istore_n C (i := 3) [(3, .int (0 : Int32)), (0, .ref (ad 50)), (1, .int x1), (2, .int w39.1)] hl dX12_live_199 rfl (by decide) rfl (fun ls hl => ?_)
    obtain ⟨w45, hw46, h⟩ := bnd h
    refine zl_X12_live_200 C F (out := w45) (fun r8 u8 e48 pc ls hd => ?_) (fun v47 e48 ls hl => ?_) F _ _ hw46 _ (lv_sub hl [1, 0] rfl)
    · subst e48
      obtain ⟨rfl, rfl⟩ := r2 h
      exact z_iret C hd
    · subst e48
      try dsimp only [Sum.elim] at h
      refine z_iconst C (1 : Int32) dX12_live_230 (by decide) ?_
      obtain ⟨rfl, rfl⟩ := r2 h
      exact z_iret C dX12_live_231
  · replace h := (if_pos hc49).symm.trans h
    refine z_iconst C (-1 : Int32) dX12_live_12 (by decide) ?_
    obtain ⟨rfl, rfl⟩ := r2 h
    exact z_iret C dX12_live_13
