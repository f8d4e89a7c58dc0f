def b_X12_runs_3 (F : Nat) (x1 : Int32) (x2 : Int64) (rec : Int32 → St → Option (Int32 × St)) (x4 : Int32) (u : St) : Option (Int32 × St) := (if (12 : Int32) ≤ x4 then some (x4, u) else (if x4 < 0 ∨ 12 ≤ x4.toNatClampNeg then none else rec ((x4 + (1 : Int32))) (wr u 65 x4.toNatClampNeg (0 : Int32))))
def l_X12_runs_3 (F : Nat) (x1 : Int32) (x2 : Int64) : Nat → Int32 → St → Option (Int32 × St)
  | 0, _, _ => none
  | k + 1, x4, u => b_X12_runs_3 F x1 x2 (l_X12_runs_3 F x1 x2 k) x4 u
def b_X12_runs_88 (F : Nat) (x1 : Int32) (x4 : Int32) (x5 : Int64) (x7 : Int32) (x8 : Int32) (rec : Int32 → Int32 → St → Option (Int32 × Int32 × St)) (x9 : Int32) (x10 : Int32) (u : St) : Option (Int32 × Int32 × St) := (if ((x8 >>> (x10 &&& 31)) &&& (1 : Int32)) = 0 then rec ((x9 - ((x8 >>> (x10 &&& 31)) &&& (1 : Int32)))) ((x10 + (1 : Int32))) u else (if x9 ≤ 0 then some (x9, x10, u) else rec ((x9 - ((x8 >>> (x10 &&& 31)) &&& (1 : Int32)))) ((x10 + (1 : Int32))) u))
def l_X12_runs_88 (F : Nat) (x1 : Int32) (x4 : Int32) (x5 : Int64) (x7 : Int32) (x8 : Int32) : Nat → Int32 → Int32 → St → Option (Int32 × Int32 × St)
  | 0, _, _, _ => none
  | k + 1, x9, x10, u => b_X12_runs_88 F x1 x4 x5 x7 x8 (l_X12_runs_88 F x1 x4 x5 x7 x8 k) x9 x10 u
def b_X12_runs_36 (F : Nat) (x1 : Int32) (rec : Int32 → Int64 → Int32 → St → Option ((Int32 × St) ⊕ (Int32 × Int64 × Int32 × St))) (x4 : Int32) (x5 : Int64) (x7 : Int32) (u : St) : Option ((Int32 × St) ⊕ (Int32 × Int64 × Int32 × St)) := (if x1 ≤ x7 then some (Sum.inr (x4, x5, x7, u)) else (Option.bind (f_X12_askedIn F x4 u) (fun w8 => (if w8.1 = 0 then some (Sum.inl (x4, w8.2)) else (Option.bind (f_J6_bitCount_0f7a4 F w8.1 w8.2) (fun w12 => (if (w12.1.toInt64) = 0 then none else (Option.bind (l_X12_runs_88 F x1 x4 ((x5 * (6364136223846793005 : Int64)) + (1442695040888963407 : Int64)) x7 w8.1 F (((lushr ((x5 * (6364136223846793005 : Int64)) + (1442695040888963407 : Int64)) (33 : Int32)) - (lushr ((x5 * (6364136223846793005 : Int64)) + (1442695040888963407 : Int64)) (33 : Int32)) / (w12.1.toInt64) * (w12.1.toInt64)).toInt32) (0 : Int32) w12.2) (fun w16 => (if w16.2.1 < 0 ∨ 12 ≤ w16.2.1.toNatClampNeg then none else (if w16.2.1 < 0 ∨ 12 ≤ w16.2.1.toNatClampNeg then none else rec ((x4 ^^^ ((1 : Int32) <<< (w16.2.1 &&& 31)))) (((x5 * (6364136223846793005 : Int64)) + (1442695040888963407 : Int64))) ((x7 + (1 : Int32))) (wr w16.2.2 65 w16.2.1.toNatClampNeg ((w16.2.2.1 65 w16.2.1.toNatClampNeg) + (1 : Int32))))))))))))))
def l_X12_runs_36 (F : Nat) (x1 : Int32) : Nat → Int32 → Int64 → Int32 → St → Option ((Int32 × St) ⊕ (Int32 × Int64 × Int32 × St))
  | 0, _, _, _, _ => none
  | k + 1, x4, x5, x7, u => b_X12_runs_36 F x1 (l_X12_runs_36 F x1 k) x4 x5 x7 u
def f_X12_runs (F : Nat) (x1 : Int32) (x2 : Int64) (u : St) : Option (Int32 × St) := (Option.bind (l_X12_runs_3 F x1 x2 F (0 : Int32) u) (fun w3 => (Option.bind (l_X12_runs_36 F x1 F (w3.2.1 50 9) x2 (0 : Int32) w3.2) (fun w22 => Sum.elim (fun r => some r) (fun v24 => some (v24.1, v24.2.2.2)) w22))))
set_option maxRecDepth 20000 in
set_option maxHeartbeats 4000000 in
theorem zl_X12_runs_3 {p : Program} {l : Launch} {e : Env} {s : State} {m : MethodId} {args : Array Value} {below : List Frame} {meth : Method} {c : Code} {D : va_G} {cA : Nat → ClassId} {ad : Nat → Nat} {Q : State → Prop} (C : Cx SH p s m args meth c cX12_runs 11 (some .int) RX12 D cA ad (inAd ad)) (F : Nat) (x1 : Int32) (x2 : Int64)  {out : Int32 × St}  (K : ∀ ls : Array Slot, lv_has ls 11 [(0, .ref (ad 50)), (1, .int x1), (2, .long x2), (4, .int out.1)] → Z SH p l e (rmD 1) s m args below meth c D cA ad (inAd ad) 0 0 Q out.2 24 ls []) : ∀ (k : Nat) (x4 : Int32) (u : St), l_X12_runs_3 F x1 x2 k x4 u = some out → ∀ ls : Array Slot, lv_has ls 11 [(0, .ref (ad 50)), (1, .int x1), (2, .long x2), (4, .int x4)] → Z SH p l e (rmD 1) s m args below meth c D cA ad (inAd ad) 0 0 Q u 3 ls [] := by
  intro k
  induction k with
  | zero => intro x4 u h; cases h
  | succ k ih =>
    intro x4 u h ls hl
    replace h : b_X12_runs_3 F x1 x2 (l_X12_runs_3 F x1 x2 k) x4 u = some out := h
    unfold b_X12_runs_3 at h
    refine z_iload C (i := 4) (k := 3) hl dX12_runs_3 rfl ?_
    refine z_bipush C (12 : Int32) dX12_runs_5 (by decide) ?_
    refine z_icmp_ge C 24 dX12_runs_7 (by decide) (fun hc2 => ?_) (fun hc2 => ?_)
    · replace h := (if_pos hc2).symm.trans h
      obtain rfl := Option.some.inj h
      exact K _ (lv_sub hl [0, 1, 2, 3] rfl)
    · replace h := (if_neg hc2).symm.trans h
      refine z_aload_n C (i := 0) (k := 0) hl dX12_runs_10 rfl rfl ?_
      refine z_getr C 50 19 65 fw_X12_54 sh_50 rfl dX12_runs_11 ?_
      refine z_iload C (i := 4) (k := 3) hl dX12_runs_14 rfl ?_
      refine z_iconst C (0 : Int32) dX12_runs_16 (by decide) ?_
      obtain ⟨hi1, h⟩ := gd h
      refine z_iast C 65 12 sh_65 hi1 dX12_runs_17 ?_
      refine z_iinc C (i := 4) (k := 3) (x4 + (1 : Int32)) [(4, .int (x4 + (1 : Int32))), (0, .ref (ad 50)), (1, .int x1), (2, .long x2)] hl dX12_runs_18 rfl rfl (by decide) rfl (fun ls hl => ?_)
      refine z_goto C 3 dX12_runs_21 (by decide) ?_
      exact ih _ _ h _ (lv_sub hl [1, 2, 3, 0] rfl)
set_option maxRecDepth 20000 in
set_option maxHeartbeats 4000000 in
theorem zl_X12_runs_88 {p : Program} {l : Launch} {e : Env} {s : State} {m : MethodId} {args : Array Value} {below : List Frame} {meth : Method} {c : Code} {D : va_G} {cA : Nat → ClassId} {ad : Nat → Nat} {Q : State → Prop} (C : Cx SH p s m args meth c cX12_runs 11 (some .int) RX12 D cA ad (inAd ad)) (F : Nat) (x1 : Int32) (x4 : Int32) (x5 : Int64) (x7 : Int32) (x8 : Int32)  {out : Int32 × Int32 × St}  (K : ∀ ls : Array Slot, lv_has ls 11 [(0, .ref (ad 50)), (1, .int x1), (4, .int x4), (5, .long x5), (7, .int x7), (8, .int x8), (9, .int out.1), (10, .int out.2.1)] → Z SH p l e (rmD 1) s m args below meth c D cA ad (inAd ad) 0 0 Q out.2.2 121 ls []) : ∀ (k : Nat) (x9 : Int32) (x10 : Int32) (u : St), l_X12_runs_88 F x1 x4 x5 x7 x8 k x9 x10 u = some out → ∀ ls : Array Slot, lv_has ls 11 [(0, .ref (ad 50)), (1, .int x1), (4, .int x4), (5, .long x5), (7, .int x7), (8, .int x8), (9, .int x9), (10, .int x10)] → Z SH p l e (rmD 1) s m args below meth c D cA ad (inAd ad) 0 0 Q u 88 ls [] := by
  intro k
  induction k with
  | zero => intro x9 x10 u h; cases h
  | succ k ih =>
    intro x9 x10 u h ls hl
    replace h : b_X12_runs_88 F x1 x4 x5 x7 x8 (l_X12_runs_88 F x1 x4 x5 x7 x8 k) x9 x10 u = some out := h
    unfold b_X12_runs_88 at h
    refine z_iload C (i := 8) (k := 5) hl dX12_runs_88 rfl ?_
    refine z_iload C (i := 10) (k := 7) hl dX12_runs_90 rfl ?_
    refine z_ishr C dX12_runs_92 ?_
    refine z_iconst C (1 : Int32) dX12_runs_93 (by decide) ?_
    refine z_iand C dX12_runs_94 ?_
    refine z_if_eq C 103 dX12_runs_95 (by decide) (fun hc15 => ?_) (fun hc15 => ?_)
    · replace h := (if_pos hc15).symm.trans h
      refine z_iload C (i := 9) (k := 6) hl dX12_runs_103 rfl ?_
      refine z_iload C (i := 8) (k := 5) hl dX12_runs_105 rfl ?_
      refine z_iload C (i := 10) (k := 7) hl dX12_runs_107 rfl ?_
      refine z_ishr C dX12_runs_109 ?_
      refine z_iconst C (1 : Int32) dX12_runs_110 (by decide) ?_
      refine z_iand C dX12_runs_111 ?_
      refine z_isub C dX12_runs_112 ?_
      refine z_istore C (i := 9) [(9, .int (x9 - ((x8 >>> (x10 &&& 31)) &&& (1 : Int32)))), (0, .ref (ad 50)), (1, .int x1), (4, .int x4), (5, .long x5), (7, .int x7), (8, .int x8), (10, .int x10)] hl dX12_runs_113 (by decide) rfl (fun ls hl => ?_)
      refine z_iinc C (i := 10) (k := 7) (x10 + (1 : Int32)) [(10, .int (x10 + (1 : Int32))), (9, .int (x9 - ((x8 >>> (x10 &&& 31)) &&& (1 : Int32)))), (0, .ref (ad 50)), (1, .int x1), (4, .int x4), (5, .long x5), (7, .int x7), (8, .int x8)] hl dX12_runs_115 rfl rfl (by decide) rfl (fun ls hl => ?_)
      refine z_goto C 88 dX12_runs_118 (by decide) ?_
      exact ih _ _ _ h _ (lv_sub hl [2, 3, 4, 5, 6, 7, 1, 0] rfl)
    · replace h := (if_neg hc15).symm.trans h
      refine z_iload C (i := 9) (k := 6) hl dX12_runs_98 rfl ?_
      refine z_if_le C 121 dX12_runs_100 (by decide) (fun hc14 => ?_) (fun hc14 => ?_)
      · replace h := (if_pos hc14).symm.trans h
        obtain rfl := Option.some.inj h
        exact K _ (lv_sub hl [0, 1, 2, 3, 4, 5, 6, 7] rfl)
      · replace h := (if_neg hc14).symm.trans h
        refine z_iload C (i := 9) (k := 6) hl dX12_runs_103 rfl ?_
        refine z_iload C (i := 8) (k := 5) hl dX12_runs_105 rfl ?_
        refine z_iload C (i := 10) (k := 7) hl dX12_runs_107 rfl ?_
        refine z_ishr C dX12_runs_109 ?_
        refine z_iconst C (1 : Int32) dX12_runs_110 (by decide) ?_
        refine z_iand C dX12_runs_111 ?_
        refine z_isub C dX12_runs_112 ?_
        refine z_istore C (i := 9) [(9, .int (x9 - ((x8 >>> (x10 &&& 31)) &&& (1 : Int32)))), (0, .ref (ad 50)), (1, .int x1), (4, .int x4), (5, .long x5), (7, .int x7), (8, .int x8), (10, .int x10)] hl dX12_runs_113 (by decide) rfl (fun ls hl => ?_)
        refine z_iinc C (i := 10) (k := 7) (x10 + (1 : Int32)) [(10, .int (x10 + (1 : Int32))), (9, .int (x9 - ((x8 >>> (x10 &&& 31)) &&& (1 : Int32)))), (0, .ref (ad 50)), (1, .int x1), (4, .int x4), (5, .long x5), (7, .int x7), (8, .int x8)] hl dX12_runs_115 rfl rfl (by decide) rfl (fun ls hl => ?_)
        refine z_goto C 88 dX12_runs_118 (by decide) ?_
        exact ih _ _ _ h _ (lv_sub hl [2, 3, 4, 5, 6, 7, 1, 0] rfl)
set_option maxRecDepth 20000 in
set_option maxHeartbeats 4000000 in
theorem zl_X12_runs_36 {p : Program} {l : Launch} {e : Env} {s : State} {m : MethodId} {args : Array Value} {below : List Frame} {meth : Method} {c : Code} {D : va_G} {cA : Nat → ClassId} {ad : Nat → Nat} {Q : State → Prop} (C : Cx SH p s m args meth c cX12_runs 11 (some .int) RX12 D cA ad (inAd ad)) (F : Nat) (x1 : Int32)  {out : (Int32 × St) ⊕ (Int32 × Int64 × Int32 × St)} (K1 : ∀ (r : Int32) (u' : St), out = .inl (r, u') → ∀ (pc : Nat) (ls : Array Slot), decode cX12_runs pc = .ok (.ireturn, 1) → Z SH p l e (rmD 1) s m args below meth c D cA ad (inAd ad) 0 0 Q u' pc ls [.int r]) (K : ∀ (v : Int32 × Int64 × Int32 × St), out = .inr v → ∀ ls : Array Slot, lv_has ls 11 [(0, .ref (ad 50)), (1, .int x1), (4, .int v.1), (5, .long v.2.1), (7, .int v.2.2.1)] → Z SH p l e (rmD 1) s m args below meth c D cA ad (inAd ad) 0 0 Q v.2.2.2 147 ls []) : ∀ (k : Nat) (x4 : Int32) (x5 : Int64) (x7 : Int32) (u : St), l_X12_runs_36 F x1 k x4 x5 x7 u = some out → ∀ ls : Array Slot, lv_has ls 11 [(0, .ref (ad 50)), (1, .int x1), (4, .int x4), (5, .long x5), (7, .int x7)] → Z SH p l e (rmD 1) s m args below meth c D cA ad (inAd ad) 0 0 Q u 36 ls [] := by
  intro k
  induction k with
  | zero => intro x4 x5 x7 u h; cases h
  | succ k ih =>
    intro x4 x5 x7 u h ls hl
    replace h : b_X12_runs_36 F x1 (l_X12_runs_36 F x1 k) x4 x5 x7 u = some out := h
    unfold b_X12_runs_36 at h
    refine z_iload C (i := 7) (k := 4) hl dX12_runs_36 rfl ?_
    refine z_iload_n C (i := 1) (k := 1) hl dX12_runs_38 rfl rfl ?_
    refine z_icmp_ge C 147 dX12_runs_39 (by decide) (fun hc21 => ?_) (fun hc21 => ?_)
    · replace h := (if_pos hc21).symm.trans h
      exact K _ (Option.some.inj h).symm _ (lv_sub hl [0, 1, 2, 3, 4] rfl)
    · replace h := (if_neg hc21).symm.trans h
      refine z_aload_n C (i := 0) (k := 0) hl dX12_runs_42 rfl rfl ?_
      refine z_iload C (i := 4) (k := 2) hl dX12_runs_43 rfl ?_
      obtain ⟨⟨r7, u5⟩, hc6, h⟩ := bnd h
      try dsimp only at h
      refine z_callV C (ci := 12) [.int x4] [] [.int r7] (m_X12_askedIn F _ _ _ _ hc6) cw_X12_askedIn vw_X12_askedIn ml_X12_120 sh_50 rfl rfl rfl rfl hl.1 (Nat.le_of_ble_eq_true rfl) ⟨Nat.le_of_ble_eq_true rfl, Nat.le_of_ble_eq_true rfl⟩ ⟨Nat.le_refl _, Nat.le_refl _⟩ rfl dX12_runs_45 ?_
      refine z_istore C (i := 8) [(8, .int r7), (0, .ref (ad 50)), (1, .int x1), (4, .int x4), (5, .long x5), (7, .int x7)] hl dX12_runs_48 (by decide) rfl (fun ls hl => ?_)
      refine z_iload C (i := 8) (k := 0) hl dX12_runs_50 rfl ?_
      refine z_if_ne C 58 dX12_runs_52 (by decide) (fun hc20 => ?_) (fun hc20 => ?_)
      · replace h := (if_neg hc20).symm.trans h
        refine z_lload C (i := 5) (k := 4) hl dX12_runs_58 rfl ?_
        refine z_ldc2 C (v := (6364136223846793005 : Int64)) kw_X12_139 dX12_runs_60 ?_
        refine z_lmul C dX12_runs_63 ?_
        refine z_ldc2 C (v := (1442695040888963407 : Int64)) kw_X12_141 dX12_runs_64 ?_
        refine z_ladd C dX12_runs_67 ?_
        refine z_lstore C (i := 5) [(5, .long ((x5 * (6364136223846793005 : Int64)) + (1442695040888963407 : Int64))), (8, .int r7), (0, .ref (ad 50)), (1, .int x1), (4, .int x4), (7, .int x7)] hl dX12_runs_68 (by decide) rfl (fun ls hl => ?_)
        refine z_lload C (i := 5) (k := 0) hl dX12_runs_70 rfl ?_
        refine z_bipush C (33 : Int32) dX12_runs_72 (by decide) ?_
        refine z_lushr C dX12_runs_74 ?_
        refine z_iload C (i := 8) (k := 1) hl dX12_runs_75 rfl ?_
        obtain ⟨⟨r11, u9⟩, hc10, h⟩ := bnd h
        try dsimp only at h
        refine z_callS C [.int r7] [.long (lushr ((x5 * (6364136223846793005 : Int64)) + (1442695040888963407 : Int64)) (33 : Int32))] [.int r11, .long (lushr ((x5 * (6364136223846793005 : Int64)) + (1442695040888963407 : Int64)) (33 : Int32))] (m_J6_bitCount_0f7a4 F _ _ _ _ hc10) cw_J6_bitCount_0f7a4 sw_J6_bitCount_0f7a4 ml_X12_143 rfl rfl rfl hl.1 (Nat.le_of_ble_eq_true rfl) ⟨Nat.le_of_ble_eq_true rfl, Nat.le_of_ble_eq_true rfl⟩ ⟨Nat.le_refl _, Nat.le_refl _⟩ rfl dX12_runs_77 ?_
        refine z_i2l C dX12_runs_80 ?_
        obtain ⟨hn13, h⟩ := gd h
        refine z_lrem C dX12_runs_81 hn13 ?_
        refine z_l2i C dX12_runs_82 ?_
        refine z_istore C (i := 9) [(9, .int (((lushr ((x5 * (6364136223846793005 : Int64)) + (1442695040888963407 : Int64)) (33 : Int32)) - (lushr ((x5 * (6364136223846793005 : Int64)) + (1442695040888963407 : Int64)) (33 : Int32)) / (r11.toInt64) * (r11.toInt64)).toInt32)), (5, .long ((x5 * (6364136223846793005 : Int64)) + (1442695040888963407 : Int64))), (8, .int r7), (0, .ref (ad 50)), (1, .int x1), (4, .int x4), (7, .int x7)] hl dX12_runs_83 (by decide) rfl (fun ls hl => ?_)
        refine z_iconst C (0 : Int32) dX12_runs_85 (by decide) ?_
        refine z_istore C (i := 10) [(10, .int (0 : Int32)), (9, .int (((lushr ((x5 * (6364136223846793005 : Int64)) + (1442695040888963407 : Int64)) (33 : Int32)) - (lushr ((x5 * (6364136223846793005 : Int64)) + (1442695040888963407 : Int64)) (33 : Int32)) / (r11.toInt64) * (r11.toInt64)).toInt32)), (5, .long ((x5 * (6364136223846793005 : Int64)) + (1442695040888963407 : Int64))), (8, .int r7), (0, .ref (ad 50)), (1, .int x1), (4, .int x4), (7, .int x7)] hl dX12_runs_86 (by decide) rfl (fun ls hl => ?_)
        obtain ⟨w16, hw17, h⟩ := bnd h
        refine zl_X12_runs_88 C F x1 x4 ((x5 * (6364136223846793005 : Int64)) + (1442695040888963407 : Int64)) x7 r7 (out := w16) (fun ls hl => ?_) F _ _ _ hw17 _ (lv_sub hl [4, 5, 6, 2, 7, 3, 1, 0] rfl)
        refine z_iload C (i := 4) (k := 2) hl dX12_runs_121 rfl ?_
        refine z_iconst C (1 : Int32) dX12_runs_123 (by decide) ?_
        refine z_iload C (i := 10) (k := 7) hl dX12_runs_124 rfl ?_
        refine z_ishl C dX12_runs_126 ?_
        refine z_ixor C dX12_runs_127 ?_
        refine z_istore C (i := 4) [(4, .int (x4 ^^^ ((1 : Int32) <<< (w16.2.1 &&& 31)))), (0, .ref (ad 50)), (1, .int x1), (5, .long ((x5 * (6364136223846793005 : Int64)) + (1442695040888963407 : Int64))), (7, .int x7), (8, .int r7), (9, .int w16.1), (10, .int w16.2.1)] hl dX12_runs_128 (by decide) rfl (fun ls hl => ?_)
        refine z_aload_n C (i := 0) (k := 1) hl dX12_runs_130 rfl rfl ?_
        refine z_getr C 50 19 65 fw_X12_54 sh_50 rfl dX12_runs_131 ?_
        refine z_iload C (i := 10) (k := 7) hl dX12_runs_134 rfl ?_
        refine z_dup2 C dX12_runs_136 rfl rfl ?_
        obtain ⟨hi18, h⟩ := gd h
        refine z_iald C 65 12 sh_65 hi18 dX12_runs_137 ?_
        refine z_iconst C (1 : Int32) dX12_runs_138 (by decide) ?_
        refine z_iadd C dX12_runs_139 ?_
        obtain ⟨hi19, h⟩ := gd h
        refine z_iast C 65 12 sh_65 hi19 dX12_runs_140 ?_
        refine z_iinc C (i := 7) (k := 4) (x7 + (1 : Int32)) [(7, .int (x7 + (1 : Int32))), (4, .int (x4 ^^^ ((1 : Int32) <<< (w16.2.1 &&& 31)))), (0, .ref (ad 50)), (1, .int x1), (5, .long ((x5 * (6364136223846793005 : Int64)) + (1442695040888963407 : Int64))), (8, .int r7), (9, .int w16.1), (10, .int w16.2.1)] hl dX12_runs_141 rfl rfl (by decide) rfl (fun ls hl => ?_)
        refine z_goto C 36 dX12_runs_144 (by decide) ?_
        exact ih _ _ _ _ h _ (lv_sub hl [2, 3, 1, 4, 0] rfl)
      · replace h := (if_pos hc20).symm.trans h
        refine z_iload C (i := 4) (k := 3) hl dX12_runs_55 rfl ?_
        exact K1 _ _ (Option.some.inj h).symm _ _ dX12_runs_57
set_option maxRecDepth 20000 in
set_option maxHeartbeats 4000000 in
theorem m_X12_runs (F : Nat) (x1 : Int32) (x2 : Int64) (u : St) (r : Int32) (u' : St)  (h : f_X12_runs F x1 x2 u = some (r, u')) : Mt yX12_runs cX12_runs 11 (some .int) 1 (fun ad => [.ref (ad 50), .int x1, .long x2]) u (fun _ => some (.int r)) u' := by
  refine Mt.of (by decide) (fun ad => Nat.le_of_ble_eq_true rfl) ?_
  intro p l e s m args below meth c D cA ad ls C hl
  have hl : lv_has ls 11 [(0, .ref (ad 50)), (1, .int x1), (2, .long x2)] := hl
  unfold f_X12_runs at h
  refine z_iconst C (0 : Int32) dX12_runs_0 (by decide) ?_
  refine z_istore C (i := 4) [(4, .int (0 : Int32)), (0, .ref (ad 50)), (1, .int x1), (2, .long x2)] hl dX12_runs_1 (by decide) rfl (fun ls hl => ?_)
  obtain ⟨w3, hw4, h⟩ := bnd h
  refine zl_X12_runs_3 C F x1 x2 (out := w3) (fun ls hl => ?_) F _ _ hw4 _ (lv_sub hl [1, 2, 3, 0] rfl)
  refine z_aload_n C (i := 0) (k := 0) hl dX12_runs_24 rfl rfl ?_
  refine z_geti C 50 9 fw_X12_114 sh_50 rfl dX12_runs_25 ?_
  refine z_istore C (i := 4) [(4, .int (w3.2.1 50 9)), (0, .ref (ad 50)), (1, .int x1), (2, .long x2)] hl dX12_runs_28 (by decide) rfl (fun ls hl => ?_)
  refine z_lload_n C (i := 2) (k := 3) hl dX12_runs_30 rfl rfl ?_
  refine z_lstore C (i := 5) [(5, .long x2), (4, .int (w3.2.1 50 9)), (0, .ref (ad 50)), (1, .int x1), (2, .long x2)] hl dX12_runs_31 (by decide) rfl (fun ls hl => ?_)
  refine z_iconst C (0 : Int32) dX12_runs_33 (by decide) ?_
  refine z_istore C (i := 7) [(7, .int (0 : Int32)), (5, .long x2), (4, .int (w3.2.1 50 9)), (0, .ref (ad 50)), (1, .int x1), (2, .long x2)] hl dX12_runs_34 (by decide) rfl (fun ls hl => ?_)
  obtain ⟨w22, hw23, h⟩ := bnd h
  refine zl_X12_runs_36 C F x1 (out := w22) (fun r8 u8 e25 pc ls hd => ?_) (fun v24 e25 ls hl => ?_) F _ _ _ _ hw23 _ (lv_sub hl [3, 4, 2, 1, 0] rfl)
  · subst e25
    obtain ⟨rfl, rfl⟩ := r2 h
    exact z_iret C hd
  · subst e25
    try dsimp only [Sum.elim] at h
    refine z_iload C (i := 4) (k := 2) hl dX12_runs_147 rfl ?_
    obtain ⟨rfl, rfl⟩ := r2 h
    exact z_iret C dX12_runs_149
def f_X12_changed (F : Nat) (x1 : Int32) (x2 : Int64) (x4 : Int32) (u : St) : Option (Int32 × St) := (Option.bind (f_X12_isIn F x1 (0 : Int32) (2000 : Int32) (wr u 50 0 (0 : Int32))) (fun w4 => (if w4.1 = 0 then some ((-1 : Int32), w4.2) else (Option.bind (f_X12_isSignal F x4 w4.2) (fun w8 => (if w8.1 = 0 then some ((-1 : Int32), w8.2) else (Option.bind (f_X12_runs F x1 x2 w8.2) (fun w12 => (if x4 < 0 ∨ 12 ≤ x4.toNatClampNeg then none else some ((w12.2.1 65 x4.toNatClampNeg), w12.2))))))))))
set_option maxRecDepth 20000 in
set_option maxHeartbeats 4000000 in
theorem m_X12_changed (F : Nat) (x1 : Int32) (x2 : Int64) (x4 : Int32) (u : St) (r : Int32) (u' : St)  (h : f_X12_changed F x1 x2 x4 u = some (r, u')) : Mt yX12_changed cX12_changed 6 (some .int) 2 (fun ad => [.ref (ad 50), .int x1, .long x2, .int x4]) u (fun _ => some (.int r)) u' := by
  refine Mt.of (by decide) (fun ad => Nat.le_of_ble_eq_true rfl) ?_
  intro p l e s m args below meth c D cA ad ls C hl
  have hl : lv_has ls 6 [(0, .ref (ad 50)), (1, .int x1), (2, .long x2), (4, .int x4)] := hl
  unfold f_X12_changed at h
  refine z_aload_n C (i := 0) (k := 0) hl dX12_changed_0 rfl rfl ?_
  refine z_iconst C (0 : Int32) dX12_changed_1 (by decide) ?_
  refine z_puti C 50 0 pw_X12_75 sh_50 rfl dX12_changed_2 ?_
  refine z_iload_n C (i := 1) (k := 1) hl dX12_changed_5 rfl rfl ?_
  refine z_iconst C (0 : Int32) dX12_changed_6 (by decide) ?_
  refine z_sipush C (2000 : Int32) dX12_changed_7 (by decide) ?_
  obtain ⟨⟨r3, u1⟩, hc2, h⟩ := bnd h
  try dsimp only at h
  refine z_callS C [.int x1, .int (0 : Int32), .int (2000 : Int32)] [] [.int r3] (m_X12_isIn F _ _ _ _ _ _ hc2) cw_X12_isIn sw_X12_isIn ml_X12_148 rfl rfl rfl hl.1 (Nat.le_of_ble_eq_true rfl) ⟨Nat.le_of_ble_eq_true rfl, Nat.le_of_ble_eq_true rfl⟩ ⟨Nat.le_refl _, Nat.le_refl _⟩ rfl dX12_changed_10 ?_
  refine z_if_eq C 24 dX12_changed_13 (by decide) (fun hc15 => ?_) (fun hc15 => ?_)
  · replace h := (if_pos hc15).symm.trans h
    refine z_iconst C (-1 : Int32) dX12_changed_24 (by decide) ?_
    obtain ⟨rfl, rfl⟩ := r2 h
    exact z_iret C dX12_changed_25
  · replace h := (if_neg hc15).symm.trans h
    refine z_iload C (i := 4) (k := 3) hl dX12_changed_16 rfl ?_
    obtain ⟨⟨r7, u5⟩, hc6, h⟩ := bnd h
    try dsimp only at h
    refine z_callS C [.int x4] [] [.int r7] (m_X12_isSignal F _ _ _ _ hc6) cw_X12_isSignal sw_X12_isSignal ml_X12_117 rfl rfl rfl hl.1 (Nat.le_of_ble_eq_true rfl) ⟨Nat.le_of_ble_eq_true rfl, Nat.le_of_ble_eq_true rfl⟩ ⟨Nat.le_refl _, Nat.le_refl _⟩ rfl dX12_changed_18 ?_
    refine z_if_ne C 26 dX12_changed_21 (by decide) (fun hc14 => ?_) (fun hc14 => ?_)
    · replace h := (if_neg hc14).symm.trans h
      refine z_aload_n C (i := 0) (k := 0) hl dX12_changed_26 rfl rfl ?_
      refine z_iload_n C (i := 1) (k := 1) hl dX12_changed_27 rfl rfl ?_
      refine z_lload_n C (i := 2) (k := 2) hl dX12_changed_28 rfl rfl ?_
      obtain ⟨⟨r11, u9⟩, hc10, h⟩ := bnd h
      try dsimp only at h
      refine z_callV C (ci := 12) [.int x1, .long x2] [] [.int r11] (m_X12_runs F _ _ _ _ _ hc10) cw_X12_runs vw_X12_runs ml_X12_152 sh_50 rfl rfl rfl rfl hl.1 (Nat.le_of_ble_eq_true rfl) ⟨Nat.le_of_ble_eq_true rfl, Nat.le_of_ble_eq_true rfl⟩ ⟨Nat.le_refl _, Nat.le_refl _⟩ rfl dX12_changed_29 ?_
      refine z_istore C (i := 5) [(5, .int r11), (0, .ref (ad 50)), (1, .int x1), (2, .long x2), (4, .int x4)] hl dX12_changed_32 (by decide) rfl (fun ls hl => ?_)
      refine z_aload_n C (i := 0) (k := 1) hl dX12_changed_34 rfl rfl ?_
      refine z_getr C 50 19 65 fw_X12_54 sh_50 rfl dX12_changed_35 ?_
      refine z_iload C (i := 4) (k := 4) hl dX12_changed_38 rfl ?_
      obtain ⟨hi13, h⟩ := gd h
      refine z_iald C 65 12 sh_65 hi13 dX12_changed_40 ?_
      obtain ⟨rfl, rfl⟩ := r2 h
      exact z_iret C dX12_changed_41
    · replace h := (if_pos hc14).symm.trans h
      refine z_iconst C (-1 : Int32) dX12_changed_24 (by decide) ?_
      obtain ⟨rfl, rfl⟩ := r2 h
      exact z_iret C dX12_changed_25
def f_X12_isLetter (F : Nat) (x0 : Int32) (u : St) : Option (Int32 × St) := (if x0 < (97 : Int32) then some ((0 : Int32), u) else (if (109 : Int32) ≤ x0 then some ((0 : Int32), u) else some ((1 : Int32), u)))
set_option maxRecDepth 20000 in
set_option maxHeartbeats 4000000 in
theorem m_X12_isLetter (F : Nat) (x0 : Int32) (u : St) (r : Int32) (u' : St)  (h : f_X12_isLetter F x0 u = some (r, u')) : Mt yX12_isLetter cX12_isLetter 1 (some .boolean) 0 (fun ad => [.int x0]) u (fun _ => some (.int r)) u' := by
  refine Mt.of (by decide) (fun ad => Nat.le_of_ble_eq_true rfl) ?_
  intro p l e s m args below meth c D cA ad ls C hl
  have hl : lv_has ls 1 [(0, .int x0)] := hl
  unfold f_X12_isLetter at h
  refine z_iload_n C (i := 0) (k := 0) hl dX12_isLetter_0 rfl rfl ?_
  refine z_bipush C (97 : Int32) dX12_isLetter_1 (by decide) ?_
  refine z_icmp_lt C 16 dX12_isLetter_3 (by decide) (fun hc2 => ?_) (fun hc2 => ?_)
  · replace h := (if_pos hc2).symm.trans h
    refine z_iconst C (0 : Int32) dX12_isLetter_16 (by decide) ?_
    obtain ⟨rfl, rfl⟩ := r2 h
    exact z_zret (by decide) C dX12_isLetter_17
  · replace h := (if_neg hc2).symm.trans h
    refine z_iload_n C (i := 0) (k := 0) hl dX12_isLetter_6 rfl rfl ?_
    refine z_bipush C (109 : Int32) dX12_isLetter_7 (by decide) ?_
    refine z_icmp_ge C 16 dX12_isLetter_9 (by decide) (fun hc1 => ?_) (fun hc1 => ?_)
    · replace h := (if_pos hc1).symm.trans h
      refine z_iconst C (0 : Int32) dX12_isLetter_16 (by decide) ?_
      obtain ⟨rfl, rfl⟩ := r2 h
      exact z_zret (by decide) C dX12_isLetter_17
    · replace h := (if_neg hc1).symm.trans h
      refine z_iconst C (1 : Int32) dX12_isLetter_12 (by decide) ?_
      refine z_goto C 17 dX12_isLetter_13 (by decide) ?_
      obtain ⟨rfl, rfl⟩ := r2 h
      exact z_zret (by decide) C dX12_isLetter_17
def b_X12_look_0 (F : Nat)  (rec : St → Option (St))  (u : St) : Option (St) := (if (u.1 50 2) ≤ (u.1 50 12) then some u else (if (u.1 50 12) < 0 ∨ 300 ≤ (u.1 50 12).toNatClampNeg then none else (if (u.1 51 (u.1 50 12).toNatClampNeg) = (32 : Int32) then rec (wr u 50 12 ((u.1 50 12) + (1 : Int32))) else some u)))
def l_X12_look_0 (F : Nat)  : Nat → St → Option (St)
  | 0, _ => none
  | k + 1, u => b_X12_look_0 F  (l_X12_look_0 F  k)  u
def f_X12_look (F : Nat)  (u : St) : Option (Int32 × St) := (Option.bind (l_X12_look_0 F  F  u) (fun w4 => (if (w4.1 50 2) ≤ (w4.1 50 12) then some ((-1 : Int32), w4) else (if (w4.1 50 12) < 0 ∨ 300 ≤ (w4.1 50 12).toNatClampNeg then none else some (((w4.1 51 (w4.1 50 12).toNatClampNeg) &&& (255 : Int32)), w4)))))
set_option maxRecDepth 20000 in
set_option maxHeartbeats 4000000 in
theorem zl_X12_look_0 {p : Program} {l : Launch} {e : Env} {s : State} {m : MethodId} {args : Array Value} {below : List Frame} {meth : Method} {c : Code} {D : va_G} {cA : Nat → ClassId} {ad : Nat → Nat} {Q : State → Prop} (C : Cx SH p s m args meth c cX12_look 1 (some .int) RX12 D cA ad (inAd ad)) (F : Nat)   {out : St}  (K : ∀ ls : Array Slot, lv_has ls 1 [(0, .ref (ad 50))] → Z SH p l e (rmD 0) s m args below meth c D cA ad (inAd ad) 0 0 Q out 38 ls []) : ∀ (k : Nat)  (u : St), l_X12_look_0 F  k  u = some out → ∀ ls : Array Slot, lv_has ls 1 [(0, .ref (ad 50))] → Z SH p l e (rmD 0) s m args below meth c D cA ad (inAd ad) 0 0 Q u 0 ls [] := by
  intro k
  induction k with
  | zero => intro  u h; cases h
  | succ k ih =>
    intro  u h ls hl
    replace h : b_X12_look_0 F  (l_X12_look_0 F  k)  u = some out := h
    unfold b_X12_look_0 at h
    refine z_aload_n C (i := 0) (k := 0) hl dX12_look_0 rfl rfl ?_
    refine z_geti C 50 12 fw_X12_90 sh_50 rfl dX12_look_1 ?_
    refine z_aload_n C (i := 0) (k := 0) hl dX12_look_4 rfl rfl ?_
    refine z_geti C 50 2 fw_X12_79 sh_50 rfl dX12_look_5 ?_
    refine z_icmp_ge C 38 dX12_look_8 (by decide) (fun hc3 => ?_) (fun hc3 => ?_)
    · replace h := (if_pos hc3).symm.trans h
      obtain rfl := Option.some.inj h
      exact K _ (lv_sub hl [0] rfl)
    · replace h := (if_neg hc3).symm.trans h
      refine z_aload_n C (i := 0) (k := 0) hl dX12_look_11 rfl rfl ?_
      refine z_getr C 50 1 51 fw_X12_9 sh_50 rfl dX12_look_12 ?_
      refine z_aload_n C (i := 0) (k := 0) hl dX12_look_15 rfl rfl ?_
      refine z_geti C 50 12 fw_X12_90 sh_50 rfl dX12_look_16 ?_
      obtain ⟨hi1, h⟩ := gd h
      refine z_bald C 51 300 sh_51 hi1 dX12_look_19 ?_
      refine z_bipush C (32 : Int32) dX12_look_20 (by decide) ?_
      refine z_icmp_ne C 38 dX12_look_22 (by decide) (fun hc2 => ?_) (fun hc2 => ?_)
      · replace h := (if_neg hc2).symm.trans h
        obtain rfl := Option.some.inj h
        exact K _ (lv_sub hl [0] rfl)
      · replace h := (if_pos hc2).symm.trans h
        refine z_aload_n C (i := 0) (k := 0) hl dX12_look_25 rfl rfl ?_
        refine z_dup C dX12_look_26 rfl ?_
        refine z_geti C 50 12 fw_X12_90 sh_50 rfl dX12_look_27 ?_
        refine z_iconst C (1 : Int32) dX12_look_30 (by decide) ?_
        refine z_iadd C dX12_look_31 ?_
        refine z_puti C 50 12 pw_X12_90 sh_50 rfl dX12_look_32 ?_
        refine z_goto C 0 dX12_look_35 (by decide) ?_
        exact ih  _ h _ (lv_sub hl [0] rfl)
set_option maxRecDepth 20000 in
set_option maxHeartbeats 4000000 in
theorem m_X12_look (F : Nat)  (u : St) (r : Int32) (u' : St)  (h : f_X12_look F  u = some (r, u')) : Mt yX12_look cX12_look 1 (some .int) 0 (fun ad => [.ref (ad 50)]) u (fun _ => some (.int r)) u' := by
  refine Mt.of (by decide) (fun ad => Nat.le_of_ble_eq_true rfl) ?_
  intro p l e s m args below meth c D cA ad ls C hl
  have hl : lv_has ls 1 [(0, .ref (ad 50))] := hl
  unfold f_X12_look at h
  obtain ⟨w4, hw5, h⟩ := bnd h
  refine zl_X12_look_0 C F (out := w4) (fun ls hl => ?_) F  _ hw5 _ (lv_sub hl [0] rfl)
  refine z_aload_n C (i := 0) (k := 0) hl dX12_look_38 rfl rfl ?_
  refine z_geti C 50 12 fw_X12_90 sh_50 rfl dX12_look_39 ?_
  refine z_aload_n C (i := 0) (k := 0) hl dX12_look_42 rfl rfl ?_
  refine z_geti C 50 2 fw_X12_79 sh_50 rfl dX12_look_43 ?_
  refine z_icmp_ge C 65 dX12_look_46 (by decide) (fun hc7 => ?_) (fun hc7 => ?_)
  · replace h := (if_pos hc7).symm.trans h
    refine z_iconst C (-1 : Int32) dX12_look_65 (by decide) ?_
    obtain ⟨rfl, rfl⟩ := r2 h
    exact z_iret C dX12_look_66
  · replace h := (if_neg hc7).symm.trans h
    refine z_aload_n C (i := 0) (k := 0) hl dX12_look_49 rfl rfl ?_
    refine z_getr C 50 1 51 fw_X12_9 sh_50 rfl dX12_look_50 ?_
    refine z_aload_n C (i := 0) (k := 0) hl dX12_look_53 rfl rfl ?_
    refine z_geti C 50 12 fw_X12_90 sh_50 rfl dX12_look_54 ?_
    obtain ⟨hi6, h⟩ := gd h
    refine z_bald C 51 300 sh_51 hi6 dX12_look_57 ?_
    refine z_sipush C (255 : Int32) dX12_look_58 (by decide) ?_
    refine z_iand C dX12_look_61 ?_
    refine z_goto C 66 dX12_look_62 (by decide) ?_
    obtain ⟨rfl, rfl⟩ := r2 h
    exact z_iret C dX12_look_66
def b_X12_term_61 (F : Nat) (x2 : Int32) (rec : Int32 → St → Option ((Int32 × St) ⊕ (Int32 × St))) (x3 : Int32) (u : St) : Option ((Int32 × St) ⊕ (Int32 × St)) := (Option.bind (f_X12_look F u) (fun w18 => (Option.bind (f_X12_isLetter F w18.1 w18.2) (fun w22 => (if w22.1 = 0 then some (Sum.inr (x3, w22.2)) else (if x3 = (8 : Int32) then some (Sum.inl ((0 : Int32), w22.2)) else (if (w22.2.1 50 12) < 0 ∨ 300 ≤ (w22.2.1 50 12).toNatClampNeg then none else (Option.bind (f_X12_look F (wr w22.2 50 12 ((w22.2.1 50 12) + (1 : Int32)))) (fun w27 => (if w27.1 = (39 : Int32) then (if x2 < 0 ∨ 144 ≤ x2.toNatClampNeg then none else (if x2 < 0 ∨ 144 ≤ x2.toNatClampNeg then none else rec ((x3 + (1 : Int32))) (wr (wr w27.2 50 12 ((w27.2.1 50 12) + (1 : Int32))) 57 x2.toNatClampNeg (((wr w27.2 50 12 ((w27.2.1 50 12) + (1 : Int32))).1 57 x2.toNatClampNeg) ||| ((1 : Int32) <<< (((w22.2.1 51 (w22.2.1 50 12).toNatClampNeg) - (97 : Int32)) &&& 31)))))) else (if x2 < 0 ∨ 144 ≤ x2.toNatClampNeg then none else (if x2 < 0 ∨ 144 ≤ x2.toNatClampNeg then none else rec ((x3 + (1 : Int32))) (wr w27.2 56 x2.toNatClampNeg ((w27.2.1 56 x2.toNatClampNeg) ||| ((1 : Int32) <<< (((w22.2.1 51 (w22.2.1 50 12).toNatClampNeg) - (97 : Int32)) &&& 31))))))))))))))))
def l_X12_term_61 (F : Nat) (x2 : Int32) : Nat → Int32 → St → Option ((Int32 × St) ⊕ (Int32 × St))
  | 0, _, _ => none
  | k + 1, x3, u => b_X12_term_61 F x2 (l_X12_term_61 F x2 k) x3 u
def f_X12_term (F : Nat) (x1 : Int32) (u : St) : Option (Int32 × St) := (Option.bind (f_X12_look F u) (fun w4 => (Option.bind (f_X12_isLetter F w4.1 w4.2) (fun w8 => (if w8.1 = 0 then some ((0 : Int32), w8.2) else (if x1 < 0 ∨ 12 ≤ x1.toNatClampNeg then none else (if (w8.2.1 55 x1.toNatClampNeg) = (12 : Int32) then some ((0 : Int32), w8.2) else (if x1 < 0 ∨ 12 ≤ x1.toNatClampNeg then none else (if (((12 : Int32) * x1) + (w8.2.1 55 x1.toNatClampNeg)) < 0 ∨ 144 ≤ (((12 : Int32) * x1) + (w8.2.1 55 x1.toNatClampNeg)).toNatClampNeg then none else (if (((12 : Int32) * x1) + (w8.2.1 55 x1.toNatClampNeg)) < 0 ∨ 144 ≤ (((12 : Int32) * x1) + (w8.2.1 55 x1.toNatClampNeg)).toNatClampNeg then none else (if x1 < 0 ∨ 12 ≤ x1.toNatClampNeg then none else (if x1 < 0 ∨ 12 ≤ x1.toNatClampNeg then none else (Option.bind (l_X12_term_61 F (((12 : Int32) * x1) + (w8.2.1 55 x1.toNatClampNeg)) F (0 : Int32) (wr (wr (wr w8.2 56 (((12 : Int32) * x1) + (w8.2.1 55 x1.toNatClampNeg)).toNatClampNeg (0 : Int32)) 57 (((12 : Int32) * x1) + (w8.2.1 55 x1.toNatClampNeg)).toNatClampNeg (0 : Int32)) 55 x1.toNatClampNeg (((wr (wr w8.2 56 (((12 : Int32) * x1) + (w8.2.1 55 x1.toNatClampNeg)).toNatClampNeg (0 : Int32)) 57 (((12 : Int32) * x1) + (w8.2.1 55 x1.toNatClampNeg)).toNatClampNeg (0 : Int32)).1 55 x1.toNatClampNeg) + (1 : Int32)))) (fun w35 => Sum.elim (fun r => some r) (fun v37 => some ((1 : Int32), v37.2)) w35))))))))))))))
set_option maxRecDepth 20000 in
set_option maxHeartbeats 4000000 in
theorem zl_X12_term_61 {p : Program} {l : Launch} {e : Env} {s : State} {m : MethodId} {args : Array Value} {below : List Frame} {meth : Method} {c : Code} {D : va_G} {cA : Nat → ClassId} {ad : Nat → Nat} {Q : State → Prop} (C : Cx SH p s m args meth c cX12_term 5 (some .boolean) RX12 D cA ad (inAd ad)) (F : Nat) (x2 : Int32)  {out : (Int32 × St) ⊕ (Int32 × St)} (K1 : ∀ (r : Int32) (u' : St), out = .inl (r, u') → (r = 0 ∨ r = 1) → ∀ (pc : Nat) (ls : Array Slot), decode cX12_term pc = .ok (.ireturn, 1) → Z SH p l e (rmD 1) s m args below meth c D cA ad (inAd ad) 0 0 Q u' pc ls [.int r]) (K : ∀ (v : Int32 × St), out = .inr v → ∀ ls : Array Slot, lv_has ls 5 [(0, .ref (ad 50)), (2, .int x2), (3, .int v.1)] → Z SH p l e (rmD 1) s m args below meth c D cA ad (inAd ad) 0 0 Q v.2 155 ls []) : ∀ (k : Nat) (x3 : Int32) (u : St), l_X12_term_61 F x2 k x3 u = some out → ∀ ls : Array Slot, lv_has ls 5 [(0, .ref (ad 50)), (2, .int x2), (3, .int x3)] → Z SH p l e (rmD 1) s m args below meth c D cA ad (inAd ad) 0 0 Q u 61 ls [] := by
  intro k
  induction k with
  | zero => intro x3 u h; cases h
  | succ k ih =>
    intro x3 u h ls hl
    replace h : b_X12_term_61 F x2 (l_X12_term_61 F x2 k) x3 u = some out := h
    unfold b_X12_term_61 at h
    refine z_aload_n C (i := 0) (k := 0) hl dX12_term_61 rfl rfl ?_
    obtain ⟨⟨r17, u15⟩, hc16, h⟩ := bnd h
    try dsimp only at h
    refine z_callV C (ci := 12) [] [] [.int r17] (m_X12_look F  _ _ _ hc16) cw_X12_look vw_X12_look ml_X12_93 sh_50 rfl rfl rfl rfl hl.1 (Nat.le_of_ble_eq_true rfl) ⟨Nat.le_of_ble_eq_true rfl, Nat.le_of_ble_eq_true rfl⟩ ⟨Nat.le_refl _, Nat.le_refl _⟩ rfl dX12_term_62 ?_
    obtain ⟨⟨r21, u19⟩, hc20, h⟩ := bnd h
    try dsimp only at h
    refine z_callS C [.int r17] [] [.int r21] (m_X12_isLetter F _ _ _ _ hc20) cw_X12_isLetter sw_X12_isLetter ml_X12_101 rfl rfl rfl hl.1 (Nat.le_of_ble_eq_true rfl) ⟨Nat.le_of_ble_eq_true rfl, Nat.le_of_ble_eq_true rfl⟩ ⟨Nat.le_refl _, Nat.le_refl _⟩ rfl dX12_term_65 ?_
    refine z_if_eq C 155 dX12_term_68 (by decide) (fun hc34 => ?_) (fun hc34 => ?_)
    · replace h := (if_pos hc34).symm.trans h
      exact K _ (Option.some.inj h).symm _ (lv_sub hl [0, 1, 2] rfl)
    · replace h := (if_neg hc34).symm.trans h
      refine z_iload_n C (i := 3) (k := 2) hl dX12_term_71 rfl rfl ?_
      refine z_bipush C (8 : Int32) dX12_term_72 (by decide) ?_
      refine z_icmp_ne C 79 dX12_term_74 (by decide) (fun hc33 => ?_) (fun hc33 => ?_)
      · replace h := (if_neg hc33).symm.trans h
        refine z_iinc C (i := 3) (k := 2) (x3 + (1 : Int32)) [(3, .int (x3 + (1 : Int32))), (0, .ref (ad 50)), (2, .int x2)] hl dX12_term_79 rfl rfl (by decide) rfl (fun ls hl => ?_)
        refine z_iconst C (1 : Int32) dX12_term_82 (by decide) ?_
        refine z_aload_n C (i := 0) (k := 1) hl dX12_term_83 rfl rfl ?_
        refine z_getr C 50 1 51 fw_X12_9 sh_50 rfl dX12_term_84 ?_
        refine z_aload_n C (i := 0) (k := 1) hl dX12_term_87 rfl rfl ?_
        refine z_geti C 50 12 fw_X12_90 sh_50 rfl dX12_term_88 ?_
        obtain ⟨hi23, h⟩ := gd h
        refine z_bald C 51 300 sh_51 hi23 dX12_term_91 ?_
        refine z_bipush C (97 : Int32) dX12_term_92 (by decide) ?_
        refine z_isub C dX12_term_94 ?_
        refine z_ishl C dX12_term_95 ?_
        refine z_istore C (i := 4) [(4, .int ((1 : Int32) <<< (((u19.1 51 (u19.1 50 12).toNatClampNeg) - (97 : Int32)) &&& 31))), (3, .int (x3 + (1 : Int32))), (0, .ref (ad 50)), (2, .int x2)] hl dX12_term_96 (by decide) rfl (fun ls hl => ?_)
        refine z_aload_n C (i := 0) (k := 2) hl dX12_term_98 rfl rfl ?_
        refine z_dup C dX12_term_99 rfl ?_
        refine z_geti C 50 12 fw_X12_90 sh_50 rfl dX12_term_100 ?_
        refine z_iconst C (1 : Int32) dX12_term_103 (by decide) ?_
        refine z_iadd C dX12_term_104 ?_
        refine z_puti C 50 12 pw_X12_90 sh_50 rfl dX12_term_105 ?_
        refine z_aload_n C (i := 0) (k := 2) hl dX12_term_108 rfl rfl ?_
        obtain ⟨⟨r26, u24⟩, hc25, h⟩ := bnd h
        try dsimp only at h
        refine z_callV C (ci := 12) [] [] [.int r26] (m_X12_look F  _ _ _ hc25) cw_X12_look vw_X12_look ml_X12_93 sh_50 rfl rfl rfl rfl hl.1 (Nat.le_of_ble_eq_true rfl) ⟨Nat.le_of_ble_eq_true rfl, Nat.le_of_ble_eq_true rfl⟩ ⟨Nat.le_refl _, Nat.le_refl _⟩ rfl dX12_term_109 ?_
        refine z_bipush C (39 : Int32) dX12_term_112 (by decide) ?_
        refine z_icmp_ne C 141 dX12_term_114 (by decide) (fun hc32 => ?_) (fun hc32 => ?_)
        · replace h := (if_neg hc32).symm.trans h
          refine z_aload_n C (i := 0) (k := 2) hl dX12_term_141 rfl rfl ?_
          refine z_getr C 50 7 56 fw_X12_26 sh_50 rfl dX12_term_142 ?_
          refine z_iload_n C (i := 2) (k := 3) hl dX12_term_145 rfl rfl ?_
          refine z_dup2 C dX12_term_146 rfl rfl ?_
          obtain ⟨hi28, h⟩ := gd h
          refine z_iald C 56 144 sh_56 hi28 dX12_term_147 ?_
          refine z_iload C (i := 4) (k := 0) hl dX12_term_148 rfl ?_
          refine z_ior C dX12_term_150 ?_
          obtain ⟨hi29, h⟩ := gd h
          refine z_iast C 56 144 sh_56 hi29 dX12_term_151 ?_
          refine z_goto C 61 dX12_term_152 (by decide) ?_
          exact ih _ _ h _ (lv_sub hl [2, 3, 1] rfl)
        · replace h := (if_pos hc32).symm.trans h
          refine z_aload_n C (i := 0) (k := 2) hl dX12_term_117 rfl rfl ?_
          refine z_dup C dX12_term_118 rfl ?_
          refine z_geti C 50 12 fw_X12_90 sh_50 rfl dX12_term_119 ?_
          refine z_iconst C (1 : Int32) dX12_term_122 (by decide) ?_
          refine z_iadd C dX12_term_123 ?_
          refine z_puti C 50 12 pw_X12_90 sh_50 rfl dX12_term_124 ?_
          refine z_aload_n C (i := 0) (k := 2) hl dX12_term_127 rfl rfl ?_
          refine z_getr C 50 8 57 fw_X12_29 sh_50 rfl dX12_term_128 ?_
          refine z_iload_n C (i := 2) (k := 3) hl dX12_term_131 rfl rfl ?_
          refine z_dup2 C dX12_term_132 rfl rfl ?_
          obtain ⟨hi30, h⟩ := gd h
          refine z_iald C 57 144 sh_57 hi30 dX12_term_133 ?_
          refine z_iload C (i := 4) (k := 0) hl dX12_term_134 rfl ?_
          refine z_ior C dX12_term_136 ?_
          obtain ⟨hi31, h⟩ := gd h
          refine z_iast C 57 144 sh_57 hi31 dX12_term_137 ?_
          refine z_goto C 152 dX12_term_138 (by decide) ?_
          refine z_goto C 61 dX12_term_152 (by decide) ?_
          exact ih _ _ h _ (lv_sub hl [2, 3, 1] rfl)
      · replace h := (if_pos hc33).symm.trans h
        refine z_iconst C (0 : Int32) dX12_term_77 (by decide) ?_
        exact K1 _ _ (Option.some.inj h).symm (by decide) _ _ dX12_term_78
set_option maxRecDepth 20000 in
set_option maxHeartbeats 4000000 in
theorem m_X12_term (F : Nat) (x1 : Int32) (u : St) (r : Int32) (u' : St)  (h : f_X12_term F x1 u = some (r, u')) : Mt yX12_term cX12_term 5 (some .boolean) 1 (fun ad => [.ref (ad 50), .int x1]) u (fun _ => some (.int r)) u' := by
  refine Mt.of (by decide) (fun ad => Nat.le_of_ble_eq_true rfl) ?_
  intro p l e s m args below meth c D cA ad ls C hl
  have hl : lv_has ls 5 [(0, .ref (ad 50)), (1, .int x1)] := hl
  unfold f_X12_term at h
  refine z_aload_n C (i := 0) (k := 0) hl dX12_term_0 rfl rfl ?_
  obtain ⟨⟨r3, u1⟩, hc2, h⟩ := bnd h
  try dsimp only at h
  refine z_callV C (ci := 12) [] [] [.int r3] (m_X12_look F  _ _ _ hc2) cw_X12_look vw_X12_look ml_X12_93 sh_50 rfl rfl rfl rfl hl.1 (Nat.le_of_ble_eq_true rfl) ⟨Nat.le_of_ble_eq_true rfl, Nat.le_of_ble_eq_true rfl⟩ ⟨Nat.le_refl _, Nat.le_refl _⟩ rfl dX12_term_1 ?_
  obtain ⟨⟨r7, u5⟩, hc6, h⟩ := bnd h
  try dsimp only at h
  refine z_callS C [.int r3] [] [.int r7] (m_X12_isLetter F _ _ _ _ hc6) cw_X12_isLetter sw_X12_isLetter ml_X12_101 rfl rfl rfl hl.1 (Nat.le_of_ble_eq_true rfl) ⟨Nat.le_of_ble_eq_true rfl, Nat.le_of_ble_eq_true rfl⟩ ⟨Nat.le_refl _, Nat.le_refl _⟩ rfl dX12_term_4 ?_
  refine z_if_eq C 21 dX12_term_7 (by decide) (fun hc40 => ?_) (fun hc40 => ?_)
  · replace h := (if_pos hc40).symm.trans h
    refine z_iconst C (0 : Int32) dX12_term_21 (by decide) ?_
    obtain ⟨rfl, rfl⟩ := r2 h
    exact z_zret (by decide) C dX12_term_22
  · replace h := (if_neg hc40).symm.trans h
    refine z_aload_n C (i := 0) (k := 0) hl dX12_term_10 rfl rfl ?_
    refine z_getr C 50 6 55 fw_X12_23 sh_50 rfl dX12_term_11 ?_
    refine z_iload_n C (i := 1) (k := 1) hl dX12_term_14 rfl rfl ?_
    obtain ⟨hi9, h⟩ := gd h
    refine z_iald C 55 12 sh_55 hi9 dX12_term_15 ?_
    refine z_bipush C (12 : Int32) dX12_term_16 (by decide) ?_
    refine z_icmp_ne C 23 dX12_term_18 (by decide) (fun hc39 => ?_) (fun hc39 => ?_)
    · replace h := (if_neg hc39).symm.trans h
      refine z_bipush C (12 : Int32) dX12_term_23 (by decide) ?_
      refine z_iload_n C (i := 1) (k := 1) hl dX12_term_25 rfl rfl ?_
      refine z_imul C dX12_term_26 ?_
      refine z_aload_n C (i := 0) (k := 0) hl dX12_term_27 rfl rfl ?_
      refine z_getr C 50 6 55 fw_X12_23 sh_50 rfl dX12_term_28 ?_
      refine z_iload_n C (i := 1) (k := 1) hl dX12_term_31 rfl rfl ?_
      obtain ⟨hi10, h⟩ := gd h
      refine z_iald C 55 12 sh_55 hi10 dX12_term_32 ?_
      refine z_iadd C dX12_term_33 ?_
      refine z_istore_n C (i := 2) [(2, .int (((12 : Int32) * x1) + (u5.1 55 x1.toNatClampNeg))), (0, .ref (ad 50)), (1, .int x1)] hl dX12_term_34 rfl (by decide) rfl (fun ls hl => ?_)
      refine z_aload_n C (i := 0) (k := 1) hl dX12_term_35 rfl rfl ?_
      refine z_getr C 50 7 56 fw_X12_26 sh_50 rfl dX12_term_36 ?_
      refine z_iload_n C (i := 2) (k := 0) hl dX12_term_39 rfl rfl ?_
      refine z_iconst C (0 : Int32) dX12_term_40 (by decide) ?_
      obtain ⟨hi11, h⟩ := gd h
      refine z_iast C 56 144 sh_56 hi11 dX12_term_41 ?_
      refine z_aload_n C (i := 0) (k := 1) hl dX12_term_42 rfl rfl ?_
      refine z_getr C 50 8 57 fw_X12_29 sh_50 rfl dX12_term_43 ?_
      refine z_iload_n C (i := 2) (k := 0) hl dX12_term_46 rfl rfl ?_
      refine z_iconst C (0 : Int32) dX12_term_47 (by decide) ?_
      obtain ⟨hi12, h⟩ := gd h
      refine z_iast C 57 144 sh_57 hi12 dX12_term_48 ?_
      refine z_aload_n C (i := 0) (k := 1) hl dX12_term_49 rfl rfl ?_
      refine z_getr C 50 6 55 fw_X12_23 sh_50 rfl dX12_term_50 ?_
      refine z_iload_n C (i := 1) (k := 2) hl dX12_term_53 rfl rfl ?_
      refine z_dup2 C dX12_term_54 rfl rfl ?_
      obtain ⟨hi13, h⟩ := gd h
      refine z_iald C 55 12 sh_55 hi13 dX12_term_55 ?_
      refine z_iconst C (1 : Int32) dX12_term_56 (by decide) ?_
      refine z_iadd C dX12_term_57 ?_
      obtain ⟨hi14, h⟩ := gd h
      refine z_iast C 55 12 sh_55 hi14 dX12_term_58 ?_
      refine z_iconst C (0 : Int32) dX12_term_59 (by decide) ?_
      refine z_istore_n C (i := 3) [(3, .int (0 : Int32)), (2, .int (((12 : Int32) * x1) + (u5.1 55 x1.toNatClampNeg))), (0, .ref (ad 50)), (1, .int x1)] hl dX12_term_60 rfl (by decide) rfl (fun ls hl => ?_)
      obtain ⟨w35, hw36, h⟩ := bnd h
      refine zl_X12_term_61 C F (((12 : Int32) * x1) + (u5.1 55 x1.toNatClampNeg)) (out := w35) (fun r8 u8 e38 hz9 pc ls hd => ?_) (fun v37 e38 ls hl => ?_) F _ _ hw36 _ (lv_sub hl [2, 1, 0] rfl)
      · subst e38
        obtain ⟨rfl, rfl⟩ := r2 h
        exact z_zret hz9 C hd
      · subst e38
        try dsimp only [Sum.elim] at h
        refine z_iconst C (1 : Int32) dX12_term_155 (by decide) ?_
        obtain ⟨rfl, rfl⟩ := r2 h
        exact z_zret (by decide) C dX12_term_156
    · replace h := (if_pos hc39).symm.trans h
      refine z_iconst C (0 : Int32) dX12_term_21 (by decide) ?_
      obtain ⟨rfl, rfl⟩ := r2 h
      exact z_zret (by decide) C dX12_term_22
