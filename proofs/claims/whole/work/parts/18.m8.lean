def b_X12_askedIn_38 (F : Nat) (x1 : Int32) (x2 : Int32) (x3 : Int32) (rec : Int32 → Int32 → St → Option (Int32 × Int32 × St)) (x4 : Int32) (x5 : Int32) (u : St) : Option (Int32 × Int32 × St) := (if x3 < 0 ∨ 12 ≤ x3.toNatClampNeg then none else (if (u.1 52 x3.toNatClampNeg) ≤ x5 then some (x4, x5, u) else (if x4 = 0 then (if (((12 : Int32) * x3) + x5) < 0 ∨ 144 ≤ (((12 : Int32) * x3) + x5).toNatClampNeg then none else (if (((12 : Int32) * x3) + x5) < 0 ∨ 144 ≤ (((12 : Int32) * x3) + x5).toNatClampNeg then none else (if (x1 &&& (u.1 53 (((12 : Int32) * x3) + x5).toNatClampNeg)) = (u.1 53 (((12 : Int32) * x3) + x5).toNatClampNeg) then (if (((12 : Int32) * x3) + x5) < 0 ∨ 144 ≤ (((12 : Int32) * x3) + x5).toNatClampNeg then none else (if (x1 &&& (u.1 54 (((12 : Int32) * x3) + x5).toNatClampNeg)) = 0 then rec ((1 : Int32)) ((x5 + (1 : Int32))) u else rec ((0 : Int32)) ((x5 + (1 : Int32))) u)) else rec ((0 : Int32)) ((x5 + (1 : Int32))) u))) else rec ((1 : Int32)) ((x5 + (1 : Int32))) u)))
def l_X12_askedIn_38 (F : Nat) (x1 : Int32) (x2 : Int32) (x3 : Int32) : Nat → Int32 → Int32 → St → Option (Int32 × Int32 × St)
  | 0, _, _, _ => none
  | k + 1, x4, x5, u => b_X12_askedIn_38 F x1 x2 x3 (l_X12_askedIn_38 F x1 x2 x3 k) x4 x5 u
def b_X12_askedIn_4 (F : Nat) (x1 : Int32) (rec : Int32 → Int32 → St → Option (Int32 × Int32 × St)) (x2 : Int32) (x3 : Int32) (u : St) : Option (Int32 × Int32 × St) := (if (12 : Int32) ≤ x3 then some (x2, x3, u) else (if x3 < 0 ∨ 12 ≤ x3.toNatClampNeg then none else (if (u.1 52 x3.toNatClampNeg) = (-1 : Int32) then rec x2 ((x3 + (1 : Int32))) u else (if x3 < 0 ∨ 12 ≤ x3.toNatClampNeg then none else (if (u.1 58 x3.toNatClampNeg) = 0 then (Option.bind (l_X12_askedIn_38 F x1 x2 x3 F (0 : Int32) (0 : Int32) u) (fun w11 => (if ((x1 >>> (x3 &&& 31)) &&& (1 : Int32)) = (1 : Int32) then (if w11.1 = (1 : Int32) then rec x2 ((x3 + (1 : Int32))) w11.2.2 else rec ((x2 ||| ((1 : Int32) <<< (x3 &&& 31)))) ((x3 + (1 : Int32))) w11.2.2) else (if w11.1 = (0 : Int32) then rec x2 ((x3 + (1 : Int32))) w11.2.2 else rec ((x2 ||| ((1 : Int32) <<< (x3 &&& 31)))) ((x3 + (1 : Int32))) w11.2.2)))) else rec x2 ((x3 + (1 : Int32))) u)))))
def l_X12_askedIn_4 (F : Nat) (x1 : Int32) : Nat → Int32 → Int32 → St → Option (Int32 × Int32 × St)
  | 0, _, _, _ => none
  | k + 1, x2, x3, u => b_X12_askedIn_4 F x1 (l_X12_askedIn_4 F x1 k) x2 x3 u
def f_X12_askedIn (F : Nat) (x1 : Int32) (u : St) : Option (Int32 × St) := (Option.bind (l_X12_askedIn_4 F x1 F (0 : Int32) (0 : Int32) u) (fun w19 => some (w19.1, w19.2.2)))
set_option maxRecDepth 20000 in
set_option maxHeartbeats 4000000 in
theorem zl_X12_askedIn_38 {p : Program} {l : Launch} {e : Env} {s : State} {m : MethodId} {args : Array Value} {below : List Frame} {meth : Method} {c : Code} {D : va_G} {cA : Nat → ClassId} {ad : Nat → Nat} {Q : State → Prop} (C : Cx SH p s m args meth c cX12_askedIn 6 (some .int) RX12 D cA ad (inAd ad)) (F : Nat) (x1 : Int32) (x2 : Int32) (x3 : Int32)  {out : Int32 × Int32 × St}  (K : ∀ ls : Array Slot, lv_has ls 6 [(0, .ref (ad 50)), (1, .int x1), (2, .int x2), (3, .int x3), (4, .int out.1), (5, .int out.2.1)] → Z SH p l e (rmD 0) s m args below meth c D cA ad (inAd ad) 0 0 Q out.2.2 113 ls []) : ∀ (k : Nat) (x4 : Int32) (x5 : Int32) (u : St), l_X12_askedIn_38 F x1 x2 x3 k x4 x5 u = some out → ∀ ls : Array Slot, lv_has ls 6 [(0, .ref (ad 50)), (1, .int x1), (2, .int x2), (3, .int x3), (4, .int x4), (5, .int x5)] → Z SH p l e (rmD 0) s m args below meth c D cA ad (inAd ad) 0 0 Q u 38 ls [] := by
  intro k
  induction k with
  | zero => intro x4 x5 u h; cases h
  | succ k ih =>
    intro x4 x5 u h ls hl
    replace h : b_X12_askedIn_38 F x1 x2 x3 (l_X12_askedIn_38 F x1 x2 x3 k) x4 x5 u = some out := h
    unfold b_X12_askedIn_38 at h
    refine z_iload C (i := 5) (k := 5) hl dX12_askedIn_38 rfl ?_
    refine z_aload_n C (i := 0) (k := 0) hl dX12_askedIn_40 rfl rfl ?_
    refine z_getr C 50 3 52 fw_X12_13 sh_50 rfl dX12_askedIn_41 ?_
    refine z_iload_n C (i := 3) (k := 3) hl dX12_askedIn_44 rfl rfl ?_
    obtain ⟨hi3, h⟩ := gd h
    refine z_iald C 52 12 sh_52 hi3 dX12_askedIn_45 ?_
    refine z_icmp_ge C 113 dX12_askedIn_46 (by decide) (fun hc10 => ?_) (fun hc10 => ?_)
    · replace h := (if_pos hc10).symm.trans h
      obtain rfl := Option.some.inj h
      exact K _ (lv_sub hl [0, 1, 2, 3, 4, 5] rfl)
    · replace h := (if_neg hc10).symm.trans h
      refine z_iload C (i := 4) (k := 4) hl dX12_askedIn_49 rfl ?_
      refine z_if_ne C 100 dX12_askedIn_51 (by decide) (fun hc9 => ?_) (fun hc9 => ?_)
      · replace h := (if_neg hc9).symm.trans h
        refine z_iconst C (1 : Int32) dX12_askedIn_100 (by decide) ?_
        refine z_goto C 105 dX12_askedIn_101 (by decide) ?_
        refine z_istore C (i := 4) [(4, .int (1 : Int32)), (0, .ref (ad 50)), (1, .int x1), (2, .int x2), (3, .int x3), (5, .int x5)] hl dX12_askedIn_105 (by decide) rfl (fun ls hl => ?_)
        refine z_iinc C (i := 5) (k := 5) (x5 + (1 : Int32)) [(5, .int (x5 + (1 : Int32))), (4, .int (1 : Int32)), (0, .ref (ad 50)), (1, .int x1), (2, .int x2), (3, .int x3)] hl dX12_askedIn_107 rfl rfl (by decide) rfl (fun ls hl => ?_)
        refine z_goto C 38 dX12_askedIn_110 (by decide) ?_
        exact ih _ _ _ h _ (lv_sub hl [2, 3, 4, 5, 1, 0] rfl)
      · replace h := (if_pos hc9).symm.trans h
        refine z_iload_n C (i := 1) (k := 1) hl dX12_askedIn_54 rfl rfl ?_
        refine z_aload_n C (i := 0) (k := 0) hl dX12_askedIn_55 rfl rfl ?_
        refine z_getr C 50 4 53 fw_X12_17 sh_50 rfl dX12_askedIn_56 ?_
        refine z_bipush C (12 : Int32) dX12_askedIn_59 (by decide) ?_
        refine z_iload_n C (i := 3) (k := 3) hl dX12_askedIn_61 rfl rfl ?_
        refine z_imul C dX12_askedIn_62 ?_
        refine z_iload C (i := 5) (k := 5) hl dX12_askedIn_63 rfl ?_
        refine z_iadd C dX12_askedIn_65 ?_
        obtain ⟨hi4, h⟩ := gd h
        refine z_iald C 53 144 sh_53 hi4 dX12_askedIn_66 ?_
        refine z_iand C dX12_askedIn_67 ?_
        refine z_aload_n C (i := 0) (k := 0) hl dX12_askedIn_68 rfl rfl ?_
        refine z_getr C 50 4 53 fw_X12_17 sh_50 rfl dX12_askedIn_69 ?_
        refine z_bipush C (12 : Int32) dX12_askedIn_72 (by decide) ?_
        refine z_iload_n C (i := 3) (k := 3) hl dX12_askedIn_74 rfl rfl ?_
        refine z_imul C dX12_askedIn_75 ?_
        refine z_iload C (i := 5) (k := 5) hl dX12_askedIn_76 rfl ?_
        refine z_iadd C dX12_askedIn_78 ?_
        obtain ⟨hi5, h⟩ := gd h
        refine z_iald C 53 144 sh_53 hi5 dX12_askedIn_79 ?_
        refine z_icmp_ne C 104 dX12_askedIn_80 (by decide) (fun hc8 => ?_) (fun hc8 => ?_)
        · replace h := (if_neg hc8).symm.trans h
          refine z_iconst C (0 : Int32) dX12_askedIn_104 (by decide) ?_
          refine z_istore C (i := 4) [(4, .int (0 : Int32)), (0, .ref (ad 50)), (1, .int x1), (2, .int x2), (3, .int x3), (5, .int x5)] hl dX12_askedIn_105 (by decide) rfl (fun ls hl => ?_)
          refine z_iinc C (i := 5) (k := 5) (x5 + (1 : Int32)) [(5, .int (x5 + (1 : Int32))), (4, .int (0 : Int32)), (0, .ref (ad 50)), (1, .int x1), (2, .int x2), (3, .int x3)] hl dX12_askedIn_107 rfl rfl (by decide) rfl (fun ls hl => ?_)
          refine z_goto C 38 dX12_askedIn_110 (by decide) ?_
          exact ih _ _ _ h _ (lv_sub hl [2, 3, 4, 5, 1, 0] rfl)
        · replace h := (if_pos hc8).symm.trans h
          refine z_iload_n C (i := 1) (k := 1) hl dX12_askedIn_83 rfl rfl ?_
          refine z_aload_n C (i := 0) (k := 0) hl dX12_askedIn_84 rfl rfl ?_
          refine z_getr C 50 5 54 fw_X12_20 sh_50 rfl dX12_askedIn_85 ?_
          refine z_bipush C (12 : Int32) dX12_askedIn_88 (by decide) ?_
          refine z_iload_n C (i := 3) (k := 3) hl dX12_askedIn_90 rfl rfl ?_
          refine z_imul C dX12_askedIn_91 ?_
          refine z_iload C (i := 5) (k := 5) hl dX12_askedIn_92 rfl ?_
          refine z_iadd C dX12_askedIn_94 ?_
          obtain ⟨hi6, h⟩ := gd h
          refine z_iald C 54 144 sh_54 hi6 dX12_askedIn_95 ?_
          refine z_iand C dX12_askedIn_96 ?_
          refine z_if_ne C 104 dX12_askedIn_97 (by decide) (fun hc7 => ?_) (fun hc7 => ?_)
          · replace h := (if_neg hc7).symm.trans h
            refine z_iconst C (0 : Int32) dX12_askedIn_104 (by decide) ?_
            refine z_istore C (i := 4) [(4, .int (0 : Int32)), (0, .ref (ad 50)), (1, .int x1), (2, .int x2), (3, .int x3), (5, .int x5)] hl dX12_askedIn_105 (by decide) rfl (fun ls hl => ?_)
            refine z_iinc C (i := 5) (k := 5) (x5 + (1 : Int32)) [(5, .int (x5 + (1 : Int32))), (4, .int (0 : Int32)), (0, .ref (ad 50)), (1, .int x1), (2, .int x2), (3, .int x3)] hl dX12_askedIn_107 rfl rfl (by decide) rfl (fun ls hl => ?_)
            refine z_goto C 38 dX12_askedIn_110 (by decide) ?_
            exact ih _ _ _ h _ (lv_sub hl [2, 3, 4, 5, 1, 0] rfl)
          · replace h := (if_pos hc7).symm.trans h
            refine z_iconst C (1 : Int32) dX12_askedIn_100 (by decide) ?_
            refine z_goto C 105 dX12_askedIn_101 (by decide) ?_
            refine z_istore C (i := 4) [(4, .int (1 : Int32)), (0, .ref (ad 50)), (1, .int x1), (2, .int x2), (3, .int x3), (5, .int x5)] hl dX12_askedIn_105 (by decide) rfl (fun ls hl => ?_)
            refine z_iinc C (i := 5) (k := 5) (x5 + (1 : Int32)) [(5, .int (x5 + (1 : Int32))), (4, .int (1 : Int32)), (0, .ref (ad 50)), (1, .int x1), (2, .int x2), (3, .int x3)] hl dX12_askedIn_107 rfl rfl (by decide) rfl (fun ls hl => ?_)
            refine z_goto C 38 dX12_askedIn_110 (by decide) ?_
            exact ih _ _ _ h _ (lv_sub hl [2, 3, 4, 5, 1, 0] rfl)
set_option maxRecDepth 20000 in
set_option maxHeartbeats 4000000 in
theorem zl_X12_askedIn_4 {p : Program} {l : Launch} {e : Env} {s : State} {m : MethodId} {args : Array Value} {below : List Frame} {meth : Method} {c : Code} {D : va_G} {cA : Nat → ClassId} {ad : Nat → Nat} {Q : State → Prop} (C : Cx SH p s m args meth c cX12_askedIn 6 (some .int) RX12 D cA ad (inAd ad)) (F : Nat) (x1 : Int32)  {out : Int32 × Int32 × St}  (K : ∀ ls : Array Slot, lv_has ls 6 [(0, .ref (ad 50)), (1, .int x1), (2, .int out.1), (3, .int out.2.1)] → Z SH p l e (rmD 0) s m args below meth c D cA ad (inAd ad) 0 0 Q out.2.2 144 ls []) : ∀ (k : Nat) (x2 : Int32) (x3 : Int32) (u : St), l_X12_askedIn_4 F x1 k x2 x3 u = some out → ∀ ls : Array Slot, lv_has ls 6 [(0, .ref (ad 50)), (1, .int x1), (2, .int x2), (3, .int x3)] → Z SH p l e (rmD 0) s m args below meth c D cA ad (inAd ad) 0 0 Q u 4 ls [] := by
  intro k
  induction k with
  | zero => intro x2 x3 u h; cases h
  | succ k ih =>
    intro x2 x3 u h ls hl
    replace h : b_X12_askedIn_4 F x1 (l_X12_askedIn_4 F x1 k) x2 x3 u = some out := h
    unfold b_X12_askedIn_4 at h
    refine z_iload_n C (i := 3) (k := 3) hl dX12_askedIn_4 rfl rfl ?_
    refine z_bipush C (12 : Int32) dX12_askedIn_5 (by decide) ?_
    refine z_icmp_ge C 144 dX12_askedIn_7 (by decide) (fun hc18 => ?_) (fun hc18 => ?_)
    · replace h := (if_pos hc18).symm.trans h
      obtain rfl := Option.some.inj h
      exact K _ (lv_sub hl [0, 1, 2, 3] rfl)
    · replace h := (if_neg hc18).symm.trans h
      refine z_aload_n C (i := 0) (k := 0) hl dX12_askedIn_10 rfl rfl ?_
      refine z_getr C 50 3 52 fw_X12_13 sh_50 rfl dX12_askedIn_11 ?_
      refine z_iload_n C (i := 3) (k := 3) hl dX12_askedIn_14 rfl rfl ?_
      obtain ⟨hi1, h⟩ := gd h
      refine z_iald C 52 12 sh_52 hi1 dX12_askedIn_15 ?_
      refine z_iconst C (-1 : Int32) dX12_askedIn_16 (by decide) ?_
      refine z_icmp_eq C 138 dX12_askedIn_17 (by decide) (fun hc17 => ?_) (fun hc17 => ?_)
      · replace h := (if_pos hc17).symm.trans h
        refine z_iinc C (i := 3) (k := 3) (x3 + (1 : Int32)) [(3, .int (x3 + (1 : Int32))), (0, .ref (ad 50)), (1, .int x1), (2, .int x2)] hl dX12_askedIn_138 rfl rfl (by decide) rfl (fun ls hl => ?_)
        refine z_goto C 4 dX12_askedIn_141 (by decide) ?_
        exact ih _ _ _ h _ (lv_sub hl [1, 2, 3, 0] rfl)
      · replace h := (if_neg hc17).symm.trans h
        refine z_aload_n C (i := 0) (k := 0) hl dX12_askedIn_20 rfl rfl ?_
        refine z_getr C 50 10 58 fw_X12_32 sh_50 rfl dX12_askedIn_21 ?_
        refine z_iload_n C (i := 3) (k := 3) hl dX12_askedIn_24 rfl rfl ?_
        obtain ⟨hi2, h⟩ := gd h
        refine z_zald C 58 12 sh_58 hi2 dX12_askedIn_25 ?_
        refine z_if_eq C 32 dX12_askedIn_26 (by decide) (fun hc16 => ?_) (fun hc16 => ?_)
        · replace h := (if_pos hc16).symm.trans h
          refine z_iconst C (0 : Int32) dX12_askedIn_32 (by decide) ?_
          refine z_istore C (i := 4) [(4, .int (0 : Int32)), (0, .ref (ad 50)), (1, .int x1), (2, .int x2), (3, .int x3)] hl dX12_askedIn_33 (by decide) rfl (fun ls hl => ?_)
          refine z_iconst C (0 : Int32) dX12_askedIn_35 (by decide) ?_
          refine z_istore C (i := 5) [(5, .int (0 : Int32)), (4, .int (0 : Int32)), (0, .ref (ad 50)), (1, .int x1), (2, .int x2), (3, .int x3)] hl dX12_askedIn_36 (by decide) rfl (fun ls hl => ?_)
          obtain ⟨w11, hw12, h⟩ := bnd h
          refine zl_X12_askedIn_38 C F x1 x2 x3 (out := w11) (fun ls hl => ?_) F _ _ _ hw12 _ (lv_sub hl [2, 3, 4, 5, 1, 0] rfl)
          refine z_iload C (i := 4) (k := 4) hl dX12_askedIn_113 rfl ?_
          refine z_iload_n C (i := 1) (k := 1) hl dX12_askedIn_115 rfl rfl ?_
          refine z_iload_n C (i := 3) (k := 3) hl dX12_askedIn_116 rfl rfl ?_
          refine z_ishr C dX12_askedIn_117 ?_
          refine z_iconst C (1 : Int32) dX12_askedIn_118 (by decide) ?_
          refine z_iand C dX12_askedIn_119 ?_
          refine z_iconst C (1 : Int32) dX12_askedIn_120 (by decide) ?_
          refine z_icmp_ne C 128 dX12_askedIn_121 (by decide) (fun hc15 => ?_) (fun hc15 => ?_)
          · replace h := (if_neg hc15).symm.trans h
            refine z_iconst C (0 : Int32) dX12_askedIn_128 (by decide) ?_
            refine z_icmp_eq C 138 dX12_askedIn_129 (by decide) (fun hc13 => ?_) (fun hc13 => ?_)
            · replace h := (if_pos hc13).symm.trans h
              refine z_iinc C (i := 3) (k := 3) (x3 + (1 : Int32)) [(3, .int (x3 + (1 : Int32))), (0, .ref (ad 50)), (1, .int x1), (2, .int x2), (4, .int w11.1), (5, .int w11.2.1)] hl dX12_askedIn_138 rfl rfl (by decide) rfl (fun ls hl => ?_)
              refine z_goto C 4 dX12_askedIn_141 (by decide) ?_
              exact ih _ _ _ h _ (lv_sub hl [1, 2, 3, 0] rfl)
            · replace h := (if_neg hc13).symm.trans h
              refine z_iload_n C (i := 2) (k := 2) hl dX12_askedIn_132 rfl rfl ?_
              refine z_iconst C (1 : Int32) dX12_askedIn_133 (by decide) ?_
              refine z_iload_n C (i := 3) (k := 3) hl dX12_askedIn_134 rfl rfl ?_
              refine z_ishl C dX12_askedIn_135 ?_
              refine z_ior C dX12_askedIn_136 ?_
              refine z_istore_n C (i := 2) [(2, .int (x2 ||| ((1 : Int32) <<< (x3 &&& 31)))), (0, .ref (ad 50)), (1, .int x1), (3, .int x3), (4, .int w11.1), (5, .int w11.2.1)] hl dX12_askedIn_137 rfl (by decide) rfl (fun ls hl => ?_)
              refine z_iinc C (i := 3) (k := 3) (x3 + (1 : Int32)) [(3, .int (x3 + (1 : Int32))), (2, .int (x2 ||| ((1 : Int32) <<< (x3 &&& 31)))), (0, .ref (ad 50)), (1, .int x1), (4, .int w11.1), (5, .int w11.2.1)] hl dX12_askedIn_138 rfl rfl (by decide) rfl (fun ls hl => ?_)
              refine z_goto C 4 dX12_askedIn_141 (by decide) ?_
              exact ih _ _ _ h _ (lv_sub hl [2, 3, 1, 0] rfl)
          · replace h := (if_pos hc15).symm.trans h
            refine z_iconst C (1 : Int32) dX12_askedIn_124 (by decide) ?_
            refine z_goto C 129 dX12_askedIn_125 (by decide) ?_
            refine z_icmp_eq C 138 dX12_askedIn_129 (by decide) (fun hc14 => ?_) (fun hc14 => ?_)
            · replace h := (if_pos hc14).symm.trans h
              refine z_iinc C (i := 3) (k := 3) (x3 + (1 : Int32)) [(3, .int (x3 + (1 : Int32))), (0, .ref (ad 50)), (1, .int x1), (2, .int x2), (4, .int w11.1), (5, .int w11.2.1)] hl dX12_askedIn_138 rfl rfl (by decide) rfl (fun ls hl => ?_)
              refine z_goto C 4 dX12_askedIn_141 (by decide) ?_
              exact ih _ _ _ h _ (lv_sub hl [1, 2, 3, 0] rfl)
            · replace h := (if_neg hc14).symm.trans h
              refine z_iload_n C (i := 2) (k := 2) hl dX12_askedIn_132 rfl rfl ?_
              refine z_iconst C (1 : Int32) dX12_askedIn_133 (by decide) ?_
              refine z_iload_n C (i := 3) (k := 3) hl dX12_askedIn_134 rfl rfl ?_
              refine z_ishl C dX12_askedIn_135 ?_
              refine z_ior C dX12_askedIn_136 ?_
              refine z_istore_n C (i := 2) [(2, .int (x2 ||| ((1 : Int32) <<< (x3 &&& 31)))), (0, .ref (ad 50)), (1, .int x1), (3, .int x3), (4, .int w11.1), (5, .int w11.2.1)] hl dX12_askedIn_137 rfl (by decide) rfl (fun ls hl => ?_)
              refine z_iinc C (i := 3) (k := 3) (x3 + (1 : Int32)) [(3, .int (x3 + (1 : Int32))), (2, .int (x2 ||| ((1 : Int32) <<< (x3 &&& 31)))), (0, .ref (ad 50)), (1, .int x1), (4, .int w11.1), (5, .int w11.2.1)] hl dX12_askedIn_138 rfl rfl (by decide) rfl (fun ls hl => ?_)
              refine z_goto C 4 dX12_askedIn_141 (by decide) ?_
              exact ih _ _ _ h _ (lv_sub hl [2, 3, 1, 0] rfl)
        · replace h := (if_neg hc16).symm.trans h
          refine z_goto C 138 dX12_askedIn_29 (by decide) ?_
          refine z_iinc C (i := 3) (k := 3) (x3 + (1 : Int32)) [(3, .int (x3 + (1 : Int32))), (0, .ref (ad 50)), (1, .int x1), (2, .int x2)] hl dX12_askedIn_138 rfl rfl (by decide) rfl (fun ls hl => ?_)
          refine z_goto C 4 dX12_askedIn_141 (by decide) ?_
          exact ih _ _ _ h _ (lv_sub hl [1, 2, 3, 0] rfl)
set_option maxRecDepth 20000 in
set_option maxHeartbeats 4000000 in
theorem m_X12_askedIn (F : Nat) (x1 : Int32) (u : St) (r : Int32) (u' : St)  (h : f_X12_askedIn F x1 u = some (r, u')) : Mt yX12_askedIn cX12_askedIn 6 (some .int) 0 (fun ad => [.ref (ad 50), .int x1]) u (fun _ => some (.int r)) u' := by
  refine Mt.of (by decide) (fun ad => Nat.le_of_ble_eq_true rfl) ?_
  intro p l e s m args below meth c D cA ad ls C hl
  have hl : lv_has ls 6 [(0, .ref (ad 50)), (1, .int x1)] := hl
  unfold f_X12_askedIn at h
  refine z_iconst C (0 : Int32) dX12_askedIn_0 (by decide) ?_
  refine z_istore_n C (i := 2) [(2, .int (0 : Int32)), (0, .ref (ad 50)), (1, .int x1)] hl dX12_askedIn_1 rfl (by decide) rfl (fun ls hl => ?_)
  refine z_iconst C (0 : Int32) dX12_askedIn_2 (by decide) ?_
  refine z_istore_n C (i := 3) [(3, .int (0 : Int32)), (2, .int (0 : Int32)), (0, .ref (ad 50)), (1, .int x1)] hl dX12_askedIn_3 rfl (by decide) rfl (fun ls hl => ?_)
  obtain ⟨w19, hw20, h⟩ := bnd h
  refine zl_X12_askedIn_4 C F x1 (out := w19) (fun ls hl => ?_) F _ _ _ hw20 _ (lv_sub hl [2, 3, 1, 0] rfl)
  refine z_iload_n C (i := 2) (k := 2) hl dX12_askedIn_144 rfl rfl ?_
  obtain ⟨rfl, rfl⟩ := r2 h
  exact z_iret C dX12_askedIn_145
def f_X12_isState (F : Nat) (x0 : Int32) (u : St) : Option (Int32 × St) := (if x0 < 0 then some ((0 : Int32), u) else (if (4096 : Int32) ≤ x0 then some ((0 : Int32), u) else some ((1 : Int32), u)))
set_option maxRecDepth 20000 in
set_option maxHeartbeats 4000000 in
theorem m_X12_isState (F : Nat) (x0 : Int32) (u : St) (r : Int32) (u' : St)  (h : f_X12_isState F x0 u = some (r, u')) : Mt yX12_isState cX12_isState 1 (some .boolean) 0 (fun ad => [.int x0]) u (fun _ => some (.int r)) u' := by
  refine Mt.of (by decide) (fun ad => Nat.le_of_ble_eq_true rfl) ?_
  intro p l e s m args below meth c D cA ad ls C hl
  have hl : lv_has ls 1 [(0, .int x0)] := hl
  unfold f_X12_isState at h
  refine z_iload_n C (i := 0) (k := 0) hl dX12_isState_0 rfl rfl ?_
  refine z_if_lt C 15 dX12_isState_1 (by decide) (fun hc2 => ?_) (fun hc2 => ?_)
  · replace h := (if_pos hc2).symm.trans h
    refine z_iconst C (0 : Int32) dX12_isState_15 (by decide) ?_
    obtain ⟨rfl, rfl⟩ := r2 h
    exact z_zret (by decide) C dX12_isState_16
  · replace h := (if_neg hc2).symm.trans h
    refine z_iload_n C (i := 0) (k := 0) hl dX12_isState_4 rfl rfl ?_
    refine z_sipush C (4096 : Int32) dX12_isState_5 (by decide) ?_
    refine z_icmp_ge C 15 dX12_isState_8 (by decide) (fun hc1 => ?_) (fun hc1 => ?_)
    · replace h := (if_pos hc1).symm.trans h
      refine z_iconst C (0 : Int32) dX12_isState_15 (by decide) ?_
      obtain ⟨rfl, rfl⟩ := r2 h
      exact z_zret (by decide) C dX12_isState_16
    · replace h := (if_neg hc1).symm.trans h
      refine z_iconst C (1 : Int32) dX12_isState_11 (by decide) ?_
      refine z_goto C 16 dX12_isState_12 (by decide) ?_
      obtain ⟨rfl, rfl⟩ := r2 h
      exact z_zret (by decide) C dX12_isState_16
def f_X12_asked (F : Nat) (x1 : Int32) (u : St) : Option (Int32 × St) := (Option.bind (f_X12_isState F x1 (wr u 50 0 (0 : Int32))) (fun w4 => (if w4.1 = 0 then some ((-1 : Int32), w4.2) else (Option.bind (f_X12_askedIn F x1 w4.2) (fun w8 => some (w8.1, w8.2))))))
set_option maxRecDepth 20000 in
set_option maxHeartbeats 4000000 in
theorem m_X12_asked (F : Nat) (x1 : Int32) (u : St) (r : Int32) (u' : St)  (h : f_X12_asked F x1 u = some (r, u')) : Mt yX12_asked cX12_asked 2 (some .int) 1 (fun ad => [.ref (ad 50), .int x1]) u (fun _ => some (.int r)) u' := by
  refine Mt.of (by decide) (fun ad => Nat.le_of_ble_eq_true rfl) ?_
  intro p l e s m args below meth c D cA ad ls C hl
  have hl : lv_has ls 2 [(0, .ref (ad 50)), (1, .int x1)] := hl
  unfold f_X12_asked at h
  refine z_aload_n C (i := 0) (k := 0) hl dX12_asked_0 rfl rfl ?_
  refine z_iconst C (0 : Int32) dX12_asked_1 (by decide) ?_
  refine z_puti C 50 0 pw_X12_75 sh_50 rfl dX12_asked_2 ?_
  refine z_iload_n C (i := 1) (k := 1) hl dX12_asked_5 rfl rfl ?_
  obtain ⟨⟨r3, u1⟩, hc2, h⟩ := bnd h
  try dsimp only at h
  refine z_callS C [.int x1] [] [.int r3] (m_X12_isState F _ _ _ _ hc2) cw_X12_isState sw_X12_isState ml_X12_111 rfl rfl rfl hl.1 (Nat.le_of_ble_eq_true rfl) ⟨Nat.le_of_ble_eq_true rfl, Nat.le_of_ble_eq_true rfl⟩ ⟨Nat.le_refl _, Nat.le_refl _⟩ rfl dX12_asked_6 ?_
  refine z_if_eq C 20 dX12_asked_9 (by decide) (fun hc9 => ?_) (fun hc9 => ?_)
  · replace h := (if_pos hc9).symm.trans h
    refine z_iconst C (-1 : Int32) dX12_asked_20 (by decide) ?_
    obtain ⟨rfl, rfl⟩ := r2 h
    exact z_iret C dX12_asked_21
  · replace h := (if_neg hc9).symm.trans h
    refine z_aload_n C (i := 0) (k := 0) hl dX12_asked_12 rfl rfl ?_
    refine z_iload_n C (i := 1) (k := 1) hl dX12_asked_13 rfl rfl ?_
    obtain ⟨⟨r7, u5⟩, hc6, h⟩ := bnd h
    try dsimp only at h
    refine z_callV C (ci := 12) [.int x1] [] [.int r7] (m_X12_askedIn F _ _ _ _ hc6) cw_X12_askedIn vw_X12_askedIn ml_X12_120 sh_50 rfl rfl rfl rfl hl.1 (Nat.le_of_ble_eq_true rfl) ⟨Nat.le_of_ble_eq_true rfl, Nat.le_of_ble_eq_true rfl⟩ ⟨Nat.le_refl _, Nat.le_refl _⟩ rfl dX12_asked_14 ?_
    refine z_goto C 21 dX12_asked_17 (by decide) ?_
    obtain ⟨rfl, rfl⟩ := r2 h
    exact z_iret C dX12_asked_21
def b_X12_walks_7 (F : Nat)  (rec : Int32 → St → Option (Int32 × St)) (x1 : Int32) (u : St) : Option (Int32 × St) := (if (4096 : Int32) ≤ x1 then some (x1, u) else (if x1 < 0 ∨ 4096 ≤ x1.toNatClampNeg then none else rec ((x1 + (1 : Int32))) (wr u 61 x1.toNatClampNeg (-1 : Int32))))
def l_X12_walks_7 (F : Nat)  : Nat → Int32 → St → Option (Int32 × St)
  | 0, _, _ => none
  | k + 1, x1, u => b_X12_walks_7 F  (l_X12_walks_7 F  k) x1 u
def b_X12_walks_88 (F : Nat) (x1 : Int32) (x2 : Int32) (x3 : Int32) (rec : Int32 → St → Option (Int32 × St)) (x4 : Int32) (u : St) : Option (Int32 × St) := (if (12 : Int32) ≤ x4 then some (x4, u) else (if ((x3 >>> (x4 &&& 31)) &&& (1 : Int32)) = 0 then rec ((x4 + (1 : Int32))) u else (if (x2 ^^^ ((1 : Int32) <<< (x4 &&& 31))) < 0 ∨ 4096 ≤ (x2 ^^^ ((1 : Int32) <<< (x4 &&& 31))).toNatClampNeg then none else (if (u.1 61 (x2 ^^^ ((1 : Int32) <<< (x4 &&& 31))).toNatClampNeg) = (-1 : Int32) then (if (u.1 50 17) < 0 ∨ 4096 ≤ (u.1 50 17).toNatClampNeg then none else (if (x2 ^^^ ((1 : Int32) <<< (x4 &&& 31))) < 0 ∨ 4096 ≤ (x2 ^^^ ((1 : Int32) <<< (x4 &&& 31))).toNatClampNeg then none else (if (x2 ^^^ ((1 : Int32) <<< (x4 &&& 31))) < 0 ∨ 4096 ≤ (x2 ^^^ ((1 : Int32) <<< (x4 &&& 31))).toNatClampNeg then none else (if (x2 ^^^ ((1 : Int32) <<< (x4 &&& 31))) < 0 ∨ 4096 ≤ (x2 ^^^ ((1 : Int32) <<< (x4 &&& 31))).toNatClampNeg then none else rec ((x4 + (1 : Int32))) (wr (wr (wr (wr (wr u 60 (u.1 50 17).toNatClampNeg (x2 ^^^ ((1 : Int32) <<< (x4 &&& 31)))) 61 (x2 ^^^ ((1 : Int32) <<< (x4 &&& 31))).toNatClampNeg ((wr u 60 (u.1 50 17).toNatClampNeg (x2 ^^^ ((1 : Int32) <<< (x4 &&& 31)))).1 50 17)) 62 (x2 ^^^ ((1 : Int32) <<< (x4 &&& 31))).toNatClampNeg x2) 63 (x2 ^^^ ((1 : Int32) <<< (x4 &&& 31))).toNatClampNeg x4) 50 17 (((wr (wr (wr (wr u 60 (u.1 50 17).toNatClampNeg (x2 ^^^ ((1 : Int32) <<< (x4 &&& 31)))) 61 (x2 ^^^ ((1 : Int32) <<< (x4 &&& 31))).toNatClampNeg ((wr u 60 (u.1 50 17).toNatClampNeg (x2 ^^^ ((1 : Int32) <<< (x4 &&& 31)))).1 50 17)) 62 (x2 ^^^ ((1 : Int32) <<< (x4 &&& 31))).toNatClampNeg x2) 63 (x2 ^^^ ((1 : Int32) <<< (x4 &&& 31))).toNatClampNeg x4).1 50 17) + (1 : Int32))))))) else rec ((x4 + (1 : Int32))) u))))
def l_X12_walks_88 (F : Nat) (x1 : Int32) (x2 : Int32) (x3 : Int32) : Nat → Int32 → St → Option (Int32 × St)
  | 0, _, _ => none
  | k + 1, x4, u => b_X12_walks_88 F x1 x2 x3 (l_X12_walks_88 F x1 x2 x3 k) x4 u
def b_X12_walks_64 (F : Nat)  (rec : Int32 → St → Option (Int32 × St)) (x1 : Int32) (u : St) : Option (Int32 × St) := (if (u.1 50 17) ≤ x1 then some (x1, u) else (if x1 < 0 ∨ 4096 ≤ x1.toNatClampNeg then none else (Option.bind (f_X12_askedIn F (u.1 60 x1.toNatClampNeg) u) (fun w12 => (Option.bind (l_X12_walks_88 F x1 (u.1 60 x1.toNatClampNeg) w12.1 F (0 : Int32) w12.2) (fun w21 => rec ((x1 + (1 : Int32))) w21.2))))))
def l_X12_walks_64 (F : Nat)  : Nat → Int32 → St → Option (Int32 × St)
  | 0, _, _ => none
  | k + 1, x1, u => b_X12_walks_64 F  (l_X12_walks_64 F  k) x1 u
def f_X12_walks (F : Nat)  (u : St) : Option (St) := (Option.bind (l_X12_walks_7 F  F (0 : Int32) (wr u 50 0 (0 : Int32))) (fun w3 => (if (0 : Int32) < 0 ∨ 4096 ≤ (0 : Int32).toNatClampNeg then none else (if ((wr (wr w3.2 50 17 (1 : Int32)) 60 (0 : Int32).toNatClampNeg ((wr w3.2 50 17 (1 : Int32)).1 50 9)).1 50 9) < 0 ∨ 4096 ≤ ((wr (wr w3.2 50 17 (1 : Int32)) 60 (0 : Int32).toNatClampNeg ((wr w3.2 50 17 (1 : Int32)).1 50 9)).1 50 9).toNatClampNeg then none else (if ((wr (wr (wr w3.2 50 17 (1 : Int32)) 60 (0 : Int32).toNatClampNeg ((wr w3.2 50 17 (1 : Int32)).1 50 9)) 61 ((wr (wr w3.2 50 17 (1 : Int32)) 60 (0 : Int32).toNatClampNeg ((wr w3.2 50 17 (1 : Int32)).1 50 9)).1 50 9).toNatClampNeg (0 : Int32)).1 50 9) < 0 ∨ 4096 ≤ ((wr (wr (wr w3.2 50 17 (1 : Int32)) 60 (0 : Int32).toNatClampNeg ((wr w3.2 50 17 (1 : Int32)).1 50 9)) 61 ((wr (wr w3.2 50 17 (1 : Int32)) 60 (0 : Int32).toNatClampNeg ((wr w3.2 50 17 (1 : Int32)).1 50 9)).1 50 9).toNatClampNeg (0 : Int32)).1 50 9).toNatClampNeg then none else (Option.bind (l_X12_walks_64 F  F (0 : Int32) (wr (wr (wr (wr w3.2 50 17 (1 : Int32)) 60 (0 : Int32).toNatClampNeg ((wr w3.2 50 17 (1 : Int32)).1 50 9)) 61 ((wr (wr w3.2 50 17 (1 : Int32)) 60 (0 : Int32).toNatClampNeg ((wr w3.2 50 17 (1 : Int32)).1 50 9)).1 50 9).toNatClampNeg (0 : Int32)) 62 ((wr (wr (wr w3.2 50 17 (1 : Int32)) 60 (0 : Int32).toNatClampNeg ((wr w3.2 50 17 (1 : Int32)).1 50 9)) 61 ((wr (wr w3.2 50 17 (1 : Int32)) 60 (0 : Int32).toNatClampNeg ((wr w3.2 50 17 (1 : Int32)).1 50 9)).1 50 9).toNatClampNeg (0 : Int32)).1 50 9).toNatClampNeg (-1 : Int32))) (fun w24 => some w24.2)))))))
set_option maxRecDepth 20000 in
set_option maxHeartbeats 4000000 in
theorem zl_X12_walks_7 {p : Program} {l : Launch} {e : Env} {s : State} {m : MethodId} {args : Array Value} {below : List Frame} {meth : Method} {c : Code} {D : va_G} {cA : Nat → ClassId} {ad : Nat → Nat} {Q : State → Prop} (C : Cx SH p s m args meth c cX12_walks 6 none RX12 D cA ad (inAd ad)) (F : Nat)   {out : Int32 × St}  (K : ∀ ls : Array Slot, lv_has ls 6 [(0, .ref (ad 50)), (1, .int out.1)] → Z SH p l e (rmD 1) s m args below meth c D cA ad (inAd ad) 0 0 Q out.2 27 ls []) : ∀ (k : Nat) (x1 : Int32) (u : St), l_X12_walks_7 F  k x1 u = some out → ∀ ls : Array Slot, lv_has ls 6 [(0, .ref (ad 50)), (1, .int x1)] → Z SH p l e (rmD 1) s m args below meth c D cA ad (inAd ad) 0 0 Q u 7 ls [] := by
  intro k
  induction k with
  | zero => intro x1 u h; cases h
  | succ k ih =>
    intro x1 u h ls hl
    replace h : b_X12_walks_7 F  (l_X12_walks_7 F  k) x1 u = some out := h
    unfold b_X12_walks_7 at h
    refine z_iload_n C (i := 1) (k := 1) hl dX12_walks_7 rfl rfl ?_
    refine z_sipush C (4096 : Int32) dX12_walks_8 (by decide) ?_
    refine z_icmp_ge C 27 dX12_walks_11 (by decide) (fun hc2 => ?_) (fun hc2 => ?_)
    · replace h := (if_pos hc2).symm.trans h
      obtain rfl := Option.some.inj h
      exact K _ (lv_sub hl [0, 1] rfl)
    · replace h := (if_neg hc2).symm.trans h
      refine z_aload_n C (i := 0) (k := 0) hl dX12_walks_14 rfl rfl ?_
      refine z_getr C 50 14 61 fw_X12_42 sh_50 rfl dX12_walks_15 ?_
      refine z_iload_n C (i := 1) (k := 1) hl dX12_walks_18 rfl rfl ?_
      refine z_iconst C (-1 : Int32) dX12_walks_19 (by decide) ?_
      obtain ⟨hi1, h⟩ := gd h
      refine z_iast C 61 4096 sh_61 hi1 dX12_walks_20 ?_
      refine z_iinc C (i := 1) (k := 1) (x1 + (1 : Int32)) [(1, .int (x1 + (1 : Int32))), (0, .ref (ad 50))] hl dX12_walks_21 rfl rfl (by decide) rfl (fun ls hl => ?_)
      refine z_goto C 7 dX12_walks_24 (by decide) ?_
      exact ih _ _ h _ (lv_sub hl [1, 0] rfl)
set_option maxRecDepth 20000 in
set_option maxHeartbeats 4000000 in
theorem zl_X12_walks_88 {p : Program} {l : Launch} {e : Env} {s : State} {m : MethodId} {args : Array Value} {below : List Frame} {meth : Method} {c : Code} {D : va_G} {cA : Nat → ClassId} {ad : Nat → Nat} {Q : State → Prop} (C : Cx SH p s m args meth c cX12_walks 6 none RX12 D cA ad (inAd ad)) (F : Nat) (x1 : Int32) (x2 : Int32) (x3 : Int32)  {out : Int32 × St}  (K : ∀ ls : Array Slot, lv_has ls 6 [(0, .ref (ad 50)), (1, .int x1), (2, .int x2), (3, .int x3), (4, .int out.1)] → Z SH p l e (rmD 1) s m args below meth c D cA ad (inAd ad) 0 0 Q out.2 181 ls []) : ∀ (k : Nat) (x4 : Int32) (u : St), l_X12_walks_88 F x1 x2 x3 k x4 u = some out → ∀ ls : Array Slot, lv_has ls 6 [(0, .ref (ad 50)), (1, .int x1), (2, .int x2), (3, .int x3), (4, .int x4)] → Z SH p l e (rmD 1) s m args below meth c D cA ad (inAd ad) 0 0 Q u 88 ls [] := by
  intro k
  induction k with
  | zero => intro x4 u h; cases h
  | succ k ih =>
    intro x4 u h ls hl
    replace h : b_X12_walks_88 F x1 x2 x3 (l_X12_walks_88 F x1 x2 x3 k) x4 u = some out := h
    unfold b_X12_walks_88 at h
    refine z_iload C (i := 4) (k := 4) hl dX12_walks_88 rfl ?_
    refine z_bipush C (12 : Int32) dX12_walks_90 (by decide) ?_
    refine z_icmp_ge C 181 dX12_walks_92 (by decide) (fun hc20 => ?_) (fun hc20 => ?_)
    · replace h := (if_pos hc20).symm.trans h
      obtain rfl := Option.some.inj h
      exact K _ (lv_sub hl [0, 1, 2, 3, 4] rfl)
    · replace h := (if_neg hc20).symm.trans h
      refine z_iload_n C (i := 2) (k := 2) hl dX12_walks_95 rfl rfl ?_
      refine z_iconst C (1 : Int32) dX12_walks_96 (by decide) ?_
      refine z_iload C (i := 4) (k := 4) hl dX12_walks_97 rfl ?_
      refine z_ishl C dX12_walks_99 ?_
      refine z_ixor C dX12_walks_100 ?_
      refine z_istore C (i := 5) [(5, .int (x2 ^^^ ((1 : Int32) <<< (x4 &&& 31)))), (0, .ref (ad 50)), (1, .int x1), (2, .int x2), (3, .int x3), (4, .int x4)] hl dX12_walks_101 (by decide) rfl (fun ls hl => ?_)
      refine z_iload_n C (i := 3) (k := 4) hl dX12_walks_103 rfl rfl ?_
      refine z_iload C (i := 4) (k := 5) hl dX12_walks_104 rfl ?_
      refine z_ishr C dX12_walks_106 ?_
      refine z_iconst C (1 : Int32) dX12_walks_107 (by decide) ?_
      refine z_iand C dX12_walks_108 ?_
      refine z_if_eq C 175 dX12_walks_109 (by decide) (fun hc19 => ?_) (fun hc19 => ?_)
      · replace h := (if_pos hc19).symm.trans h
        refine z_iinc C (i := 4) (k := 5) (x4 + (1 : Int32)) [(4, .int (x4 + (1 : Int32))), (5, .int (x2 ^^^ ((1 : Int32) <<< (x4 &&& 31)))), (0, .ref (ad 50)), (1, .int x1), (2, .int x2), (3, .int x3)] hl dX12_walks_175 rfl rfl (by decide) rfl (fun ls hl => ?_)
        refine z_goto C 88 dX12_walks_178 (by decide) ?_
        exact ih _ _ h _ (lv_sub hl [2, 3, 4, 5, 0] rfl)
      · replace h := (if_neg hc19).symm.trans h
        refine z_aload_n C (i := 0) (k := 1) hl dX12_walks_112 rfl rfl ?_
        refine z_getr C 50 14 61 fw_X12_42 sh_50 rfl dX12_walks_113 ?_
        refine z_iload C (i := 5) (k := 0) hl dX12_walks_116 rfl ?_
        obtain ⟨hi13, h⟩ := gd h
        refine z_iald C 61 4096 sh_61 hi13 dX12_walks_118 ?_
        refine z_iconst C (-1 : Int32) dX12_walks_119 (by decide) ?_
        refine z_icmp_eq C 126 dX12_walks_120 (by decide) (fun hc18 => ?_) (fun hc18 => ?_)
        · replace h := (if_pos hc18).symm.trans h
          refine z_aload_n C (i := 0) (k := 1) hl dX12_walks_126 rfl rfl ?_
          refine z_getr C 50 13 60 fw_X12_39 sh_50 rfl dX12_walks_127 ?_
          refine z_aload_n C (i := 0) (k := 1) hl dX12_walks_130 rfl rfl ?_
          refine z_geti C 50 17 fw_X12_123 sh_50 rfl dX12_walks_131 ?_
          refine z_iload C (i := 5) (k := 0) hl dX12_walks_134 rfl ?_
          obtain ⟨hi14, h⟩ := gd h
          refine z_iast C 60 4096 sh_60 hi14 dX12_walks_136 ?_
          refine z_aload_n C (i := 0) (k := 1) hl dX12_walks_137 rfl rfl ?_
          refine z_getr C 50 14 61 fw_X12_42 sh_50 rfl dX12_walks_138 ?_
          refine z_iload C (i := 5) (k := 0) hl dX12_walks_141 rfl ?_
          refine z_aload_n C (i := 0) (k := 1) hl dX12_walks_143 rfl rfl ?_
          refine z_geti C 50 17 fw_X12_123 sh_50 rfl dX12_walks_144 ?_
          obtain ⟨hi15, h⟩ := gd h
          refine z_iast C 61 4096 sh_61 hi15 dX12_walks_147 ?_
          refine z_aload_n C (i := 0) (k := 1) hl dX12_walks_148 rfl rfl ?_
          refine z_getr C 50 15 62 fw_X12_45 sh_50 rfl dX12_walks_149 ?_
          refine z_iload C (i := 5) (k := 0) hl dX12_walks_152 rfl ?_
          refine z_iload_n C (i := 2) (k := 3) hl dX12_walks_154 rfl rfl ?_
          obtain ⟨hi16, h⟩ := gd h
          refine z_iast C 62 4096 sh_62 hi16 dX12_walks_155 ?_
          refine z_aload_n C (i := 0) (k := 1) hl dX12_walks_156 rfl rfl ?_
          refine z_getr C 50 16 63 fw_X12_48 sh_50 rfl dX12_walks_157 ?_
          refine z_iload C (i := 5) (k := 0) hl dX12_walks_160 rfl ?_
          refine z_iload C (i := 4) (k := 5) hl dX12_walks_162 rfl ?_
          obtain ⟨hi17, h⟩ := gd h
          refine z_iast C 63 4096 sh_63 hi17 dX12_walks_164 ?_
          refine z_aload_n C (i := 0) (k := 1) hl dX12_walks_165 rfl rfl ?_
          refine z_dup C dX12_walks_166 rfl ?_
          refine z_geti C 50 17 fw_X12_123 sh_50 rfl dX12_walks_167 ?_
          refine z_iconst C (1 : Int32) dX12_walks_170 (by decide) ?_
          refine z_iadd C dX12_walks_171 ?_
          refine z_puti C 50 17 pw_X12_123 sh_50 rfl dX12_walks_172 ?_
          refine z_iinc C (i := 4) (k := 5) (x4 + (1 : Int32)) [(4, .int (x4 + (1 : Int32))), (5, .int (x2 ^^^ ((1 : Int32) <<< (x4 &&& 31)))), (0, .ref (ad 50)), (1, .int x1), (2, .int x2), (3, .int x3)] hl dX12_walks_175 rfl rfl (by decide) rfl (fun ls hl => ?_)
          refine z_goto C 88 dX12_walks_178 (by decide) ?_
          exact ih _ _ h _ (lv_sub hl [2, 3, 4, 5, 0] rfl)
        · replace h := (if_neg hc18).symm.trans h
          refine z_goto C 175 dX12_walks_123 (by decide) ?_
          refine z_iinc C (i := 4) (k := 5) (x4 + (1 : Int32)) [(4, .int (x4 + (1 : Int32))), (5, .int (x2 ^^^ ((1 : Int32) <<< (x4 &&& 31)))), (0, .ref (ad 50)), (1, .int x1), (2, .int x2), (3, .int x3)] hl dX12_walks_175 rfl rfl (by decide) rfl (fun ls hl => ?_)
          refine z_goto C 88 dX12_walks_178 (by decide) ?_
          exact ih _ _ h _ (lv_sub hl [2, 3, 4, 5, 0] rfl)
set_option maxRecDepth 20000 in
set_option maxHeartbeats 4000000 in
theorem zl_X12_walks_64 {p : Program} {l : Launch} {e : Env} {s : State} {m : MethodId} {args : Array Value} {below : List Frame} {meth : Method} {c : Code} {D : va_G} {cA : Nat → ClassId} {ad : Nat → Nat} {Q : State → Prop} (C : Cx SH p s m args meth c cX12_walks 6 none RX12 D cA ad (inAd ad)) (F : Nat)   {out : Int32 × St}  (K : ∀ ls : Array Slot, lv_has ls 6 [(0, .ref (ad 50)), (1, .int out.1)] → Z SH p l e (rmD 1) s m args below meth c D cA ad (inAd ad) 0 0 Q out.2 187 ls []) : ∀ (k : Nat) (x1 : Int32) (u : St), l_X12_walks_64 F  k x1 u = some out → ∀ ls : Array Slot, lv_has ls 6 [(0, .ref (ad 50)), (1, .int x1)] → Z SH p l e (rmD 1) s m args below meth c D cA ad (inAd ad) 0 0 Q u 64 ls [] := by
  intro k
  induction k with
  | zero => intro x1 u h; cases h
  | succ k ih =>
    intro x1 u h ls hl
    replace h : b_X12_walks_64 F  (l_X12_walks_64 F  k) x1 u = some out := h
    unfold b_X12_walks_64 at h
    refine z_iload_n C (i := 1) (k := 1) hl dX12_walks_64 rfl rfl ?_
    refine z_aload_n C (i := 0) (k := 0) hl dX12_walks_65 rfl rfl ?_
    refine z_geti C 50 17 fw_X12_123 sh_50 rfl dX12_walks_66 ?_
    refine z_icmp_ge C 187 dX12_walks_69 (by decide) (fun hc23 => ?_) (fun hc23 => ?_)
    · replace h := (if_pos hc23).symm.trans h
      obtain rfl := Option.some.inj h
      exact K _ (lv_sub hl [0, 1] rfl)
    · replace h := (if_neg hc23).symm.trans h
      refine z_aload_n C (i := 0) (k := 0) hl dX12_walks_72 rfl rfl ?_
      refine z_getr C 50 13 60 fw_X12_39 sh_50 rfl dX12_walks_73 ?_
      refine z_iload_n C (i := 1) (k := 1) hl dX12_walks_76 rfl rfl ?_
      obtain ⟨hi8, h⟩ := gd h
      refine z_iald C 60 4096 sh_60 hi8 dX12_walks_77 ?_
      refine z_istore_n C (i := 2) [(2, .int (u.1 60 x1.toNatClampNeg)), (0, .ref (ad 50)), (1, .int x1)] hl dX12_walks_78 rfl (by decide) rfl (fun ls hl => ?_)
      refine z_aload_n C (i := 0) (k := 1) hl dX12_walks_79 rfl rfl ?_
      refine z_iload_n C (i := 2) (k := 0) hl dX12_walks_80 rfl rfl ?_
      obtain ⟨⟨r11, u9⟩, hc10, h⟩ := bnd h
      try dsimp only at h
      refine z_callV C (ci := 12) [.int (u.1 60 x1.toNatClampNeg)] [] [.int r11] (m_X12_askedIn F _ _ _ _ hc10) cw_X12_askedIn vw_X12_askedIn ml_X12_120 sh_50 rfl rfl rfl rfl hl.1 (Nat.le_of_ble_eq_true rfl) ⟨Nat.le_of_ble_eq_true rfl, Nat.le_of_ble_eq_true rfl⟩ ⟨Nat.le_refl _, Nat.le_refl _⟩ rfl dX12_walks_81 ?_
      refine z_istore_n C (i := 3) [(3, .int r11), (2, .int (u.1 60 x1.toNatClampNeg)), (0, .ref (ad 50)), (1, .int x1)] hl dX12_walks_84 rfl (by decide) rfl (fun ls hl => ?_)
      refine z_iconst C (0 : Int32) dX12_walks_85 (by decide) ?_
      refine z_istore C (i := 4) [(4, .int (0 : Int32)), (3, .int r11), (2, .int (u.1 60 x1.toNatClampNeg)), (0, .ref (ad 50)), (1, .int x1)] hl dX12_walks_86 (by decide) rfl (fun ls hl => ?_)
      obtain ⟨w21, hw22, h⟩ := bnd h
      refine zl_X12_walks_88 C F x1 (u.1 60 x1.toNatClampNeg) r11 (out := w21) (fun ls hl => ?_) F _ _ hw22 _ (lv_sub hl [3, 4, 2, 1, 0] rfl)
      refine z_iinc C (i := 1) (k := 1) (x1 + (1 : Int32)) [(1, .int (x1 + (1 : Int32))), (0, .ref (ad 50)), (2, .int (u.1 60 x1.toNatClampNeg)), (3, .int r11), (4, .int w21.1)] hl dX12_walks_181 rfl rfl (by decide) rfl (fun ls hl => ?_)
      refine z_goto C 64 dX12_walks_184 (by decide) ?_
      exact ih _ _ h _ (lv_sub hl [1, 0] rfl)
set_option maxRecDepth 20000 in
set_option maxHeartbeats 4000000 in
theorem m_X12_walks (F : Nat)  (u : St) (u' : St)  (h : f_X12_walks F  u = some u') : Mt yX12_walks cX12_walks 6 none 1 (fun ad => [.ref (ad 50)]) u (fun _ => none) u' := by
  refine Mt.of (by decide) (fun ad => Nat.le_of_ble_eq_true rfl) ?_
  intro p l e s m args below meth c D cA ad ls C hl
  have hl : lv_has ls 6 [(0, .ref (ad 50))] := hl
  unfold f_X12_walks at h
  refine z_aload_n C (i := 0) (k := 0) hl dX12_walks_0 rfl rfl ?_
  refine z_iconst C (0 : Int32) dX12_walks_1 (by decide) ?_
  refine z_puti C 50 0 pw_X12_75 sh_50 rfl dX12_walks_2 ?_
  refine z_iconst C (0 : Int32) dX12_walks_5 (by decide) ?_
  refine z_istore_n C (i := 1) [(1, .int (0 : Int32)), (0, .ref (ad 50))] hl dX12_walks_6 rfl (by decide) rfl (fun ls hl => ?_)
  obtain ⟨w3, hw4, h⟩ := bnd h
  refine zl_X12_walks_7 C F (out := w3) (fun ls hl => ?_) F _ _ hw4 _ (lv_sub hl [1, 0] rfl)
  refine z_aload_n C (i := 0) (k := 0) hl dX12_walks_27 rfl rfl ?_
  refine z_iconst C (1 : Int32) dX12_walks_28 (by decide) ?_
  refine z_puti C 50 17 pw_X12_123 sh_50 rfl dX12_walks_29 ?_
  refine z_aload_n C (i := 0) (k := 0) hl dX12_walks_32 rfl rfl ?_
  refine z_getr C 50 13 60 fw_X12_39 sh_50 rfl dX12_walks_33 ?_
  refine z_iconst C (0 : Int32) dX12_walks_36 (by decide) ?_
  refine z_aload_n C (i := 0) (k := 0) hl dX12_walks_37 rfl rfl ?_
  refine z_geti C 50 9 fw_X12_114 sh_50 rfl dX12_walks_38 ?_
  obtain ⟨hi5, h⟩ := gd h
  refine z_iast C 60 4096 sh_60 hi5 dX12_walks_41 ?_
  refine z_aload_n C (i := 0) (k := 0) hl dX12_walks_42 rfl rfl ?_
  refine z_getr C 50 14 61 fw_X12_42 sh_50 rfl dX12_walks_43 ?_
  refine z_aload_n C (i := 0) (k := 0) hl dX12_walks_46 rfl rfl ?_
  refine z_geti C 50 9 fw_X12_114 sh_50 rfl dX12_walks_47 ?_
  refine z_iconst C (0 : Int32) dX12_walks_50 (by decide) ?_
  obtain ⟨hi6, h⟩ := gd h
  refine z_iast C 61 4096 sh_61 hi6 dX12_walks_51 ?_
  refine z_aload_n C (i := 0) (k := 0) hl dX12_walks_52 rfl rfl ?_
  refine z_getr C 50 15 62 fw_X12_45 sh_50 rfl dX12_walks_53 ?_
  refine z_aload_n C (i := 0) (k := 0) hl dX12_walks_56 rfl rfl ?_
  refine z_geti C 50 9 fw_X12_114 sh_50 rfl dX12_walks_57 ?_
  refine z_iconst C (-1 : Int32) dX12_walks_60 (by decide) ?_
  obtain ⟨hi7, h⟩ := gd h
  refine z_iast C 62 4096 sh_62 hi7 dX12_walks_61 ?_
  refine z_iconst C (0 : Int32) dX12_walks_62 (by decide) ?_
  refine z_istore_n C (i := 1) [(1, .int (0 : Int32)), (0, .ref (ad 50))] hl dX12_walks_63 rfl (by decide) rfl (fun ls hl => ?_)
  obtain ⟨w24, hw25, h⟩ := bnd h
  refine zl_X12_walks_64 C F (out := w24) (fun ls hl => ?_) F _ _ hw25 _ (lv_sub hl [1, 0] rfl)
  obtain rfl := Option.some.inj h
  exact z_vret C dX12_walks_187
def b_X12_both_15 (F : Nat) (x1 : Int32) (rec : Int32 → St → Option ((Int32 × St) ⊕ (Int32 × St))) (x2 : Int32) (u : St) : Option ((Int32 × St) ⊕ (Int32 × St)) := (if (u.1 50 17) ≤ x2 then some (Sum.inr (x2, u)) else (if x2 < 0 ∨ 4096 ≤ x2.toNatClampNeg then none else (if ((u.1 60 x2.toNatClampNeg) &&& x1) = x1 then (if x2 < 0 ∨ 4096 ≤ x2.toNatClampNeg then none else some (Sum.inl ((u.1 60 x2.toNatClampNeg), u))) else rec ((x2 + (1 : Int32))) u)))
def l_X12_both_15 (F : Nat) (x1 : Int32) : Nat → Int32 → St → Option ((Int32 × St) ⊕ (Int32 × St))
  | 0, _, _ => none
  | k + 1, x2, u => b_X12_both_15 F x1 (l_X12_both_15 F x1 k) x2 u
def f_X12_both (F : Nat) (x1 : Int32) (u : St) : Option (Int32 × St) := (Option.bind (f_X12_walks F u) (fun u1 => (Option.bind (f_X12_isState F x1 u1) (fun w6 => (if w6.1 = 0 then some ((-1 : Int32), w6.2) else (Option.bind (l_X12_both_15 F x1 F (0 : Int32) w6.2) (fun w11 => Sum.elim (fun r => some r) (fun v13 => some ((-1 : Int32), v13.2)) w11)))))))
set_option maxRecDepth 20000 in
set_option maxHeartbeats 4000000 in
theorem zl_X12_both_15 {p : Program} {l : Launch} {e : Env} {s : State} {m : MethodId} {args : Array Value} {below : List Frame} {meth : Method} {c : Code} {D : va_G} {cA : Nat → ClassId} {ad : Nat → Nat} {Q : State → Prop} (C : Cx SH p s m args meth c cX12_both 3 (some .int) RX12 D cA ad (inAd ad)) (F : Nat) (x1 : Int32)  {out : (Int32 × St) ⊕ (Int32 × St)} (K1 : ∀ (r : Int32) (u' : St), out = .inl (r, u') → ∀ (pc : Nat) (ls : Array Slot), decode cX12_both pc = .ok (.ireturn, 1) → Z SH p l e (rmD 2) s m args below meth c D cA ad (inAd ad) 0 0 Q u' pc ls [.int r]) (K : ∀ (v : Int32 × St), out = .inr v → ∀ ls : Array Slot, lv_has ls 3 [(0, .ref (ad 50)), (1, .int x1), (2, .int v.1)] → Z SH p l e (rmD 2) s m args below meth c D cA ad (inAd ad) 0 0 Q v.2 48 ls []) : ∀ (k : Nat) (x2 : Int32) (u : St), l_X12_both_15 F x1 k x2 u = some out → ∀ ls : Array Slot, lv_has ls 3 [(0, .ref (ad 50)), (1, .int x1), (2, .int x2)] → Z SH p l e (rmD 2) s m args below meth c D cA ad (inAd ad) 0 0 Q u 15 ls [] := by
  intro k
  induction k with
  | zero => intro x2 u h; cases h
  | succ k ih =>
    intro x2 u h ls hl
    replace h : b_X12_both_15 F x1 (l_X12_both_15 F x1 k) x2 u = some out := h
    unfold b_X12_both_15 at h
    refine z_iload_n C (i := 2) (k := 2) hl dX12_both_15 rfl rfl ?_
    refine z_aload_n C (i := 0) (k := 0) hl dX12_both_16 rfl rfl ?_
    refine z_geti C 50 17 fw_X12_123 sh_50 rfl dX12_both_17 ?_
    refine z_icmp_ge C 48 dX12_both_20 (by decide) (fun hc10 => ?_) (fun hc10 => ?_)
    · replace h := (if_pos hc10).symm.trans h
      exact K _ (Option.some.inj h).symm _ (lv_sub hl [0, 1, 2] rfl)
    · replace h := (if_neg hc10).symm.trans h
      refine z_aload_n C (i := 0) (k := 0) hl dX12_both_23 rfl rfl ?_
      refine z_getr C 50 13 60 fw_X12_39 sh_50 rfl dX12_both_24 ?_
      refine z_iload_n C (i := 2) (k := 2) hl dX12_both_27 rfl rfl ?_
      obtain ⟨hi7, h⟩ := gd h
      refine z_iald C 60 4096 sh_60 hi7 dX12_both_28 ?_
      refine z_iload_n C (i := 1) (k := 1) hl dX12_both_29 rfl rfl ?_
      refine z_iand C dX12_both_30 ?_
      refine z_iload_n C (i := 1) (k := 1) hl dX12_both_31 rfl rfl ?_
      refine z_icmp_ne C 42 dX12_both_32 (by decide) (fun hc9 => ?_) (fun hc9 => ?_)
      · replace h := (if_neg hc9).symm.trans h
        refine z_iinc C (i := 2) (k := 2) (x2 + (1 : Int32)) [(2, .int (x2 + (1 : Int32))), (0, .ref (ad 50)), (1, .int x1)] hl dX12_both_42 rfl rfl (by decide) rfl (fun ls hl => ?_)
        refine z_goto C 15 dX12_both_45 (by decide) ?_
        exact ih _ _ h _ (lv_sub hl [1, 2, 0] rfl)
      · replace h := (if_pos hc9).symm.trans h
        refine z_aload_n C (i := 0) (k := 0) hl dX12_both_35 rfl rfl ?_
        refine z_getr C 50 13 60 fw_X12_39 sh_50 rfl dX12_both_36 ?_
        refine z_iload_n C (i := 2) (k := 2) hl dX12_both_39 rfl rfl ?_
        obtain ⟨hi8, h⟩ := gd h
        refine z_iald C 60 4096 sh_60 hi8 dX12_both_40 ?_
        exact K1 _ _ (Option.some.inj h).symm _ _ dX12_both_41
set_option maxRecDepth 20000 in
set_option maxHeartbeats 4000000 in
theorem m_X12_both (F : Nat) (x1 : Int32) (u : St) (r : Int32) (u' : St)  (h : f_X12_both F x1 u = some (r, u')) : Mt yX12_both cX12_both 3 (some .int) 2 (fun ad => [.ref (ad 50), .int x1]) u (fun _ => some (.int r)) u' := by
  refine Mt.of (by decide) (fun ad => Nat.le_of_ble_eq_true rfl) ?_
  intro p l e s m args below meth c D cA ad ls C hl
  have hl : lv_has ls 3 [(0, .ref (ad 50)), (1, .int x1)] := hl
  unfold f_X12_both at h
  refine z_aload_n C (i := 0) (k := 0) hl dX12_both_0 rfl rfl ?_
  obtain ⟨u1, hc2, h⟩ := bnd h
  refine z_callV C (ci := 12) [] [] [] (m_X12_walks F  _ _ hc2) cw_X12_walks vw_X12_walks ml_X12_126 sh_50 rfl rfl rfl rfl hl.1 (Nat.le_of_ble_eq_true rfl) ⟨Nat.le_of_ble_eq_true rfl, Nat.le_of_ble_eq_true rfl⟩ ⟨Nat.le_refl _, Nat.le_refl _⟩ rfl dX12_both_1 ?_
  refine z_iload_n C (i := 1) (k := 1) hl dX12_both_4 rfl rfl ?_
  obtain ⟨⟨r5, u3⟩, hc4, h⟩ := bnd h
  try dsimp only at h
  refine z_callS C [.int x1] [] [.int r5] (m_X12_isState F _ _ _ _ hc4) cw_X12_isState sw_X12_isState ml_X12_111 rfl rfl rfl hl.1 (Nat.le_of_ble_eq_true rfl) ⟨Nat.le_of_ble_eq_true rfl, Nat.le_of_ble_eq_true rfl⟩ ⟨Nat.le_refl _, Nat.le_refl _⟩ rfl dX12_both_5 ?_
  refine z_if_ne C 13 dX12_both_8 (by decide) (fun hc15 => ?_) (fun hc15 => ?_)
  · replace h := (if_neg hc15).symm.trans h
    refine z_iconst C (0 : Int32) dX12_both_13 (by decide) ?_
    refine z_istore_n C (i := 2) [(2, .int (0 : Int32)), (0, .ref (ad 50)), (1, .int x1)] hl dX12_both_14 rfl (by decide) rfl (fun ls hl => ?_)
    obtain ⟨w11, hw12, h⟩ := bnd h
    refine zl_X12_both_15 C F x1 (out := w11) (fun r8 u8 e14 pc ls hd => ?_) (fun v13 e14 ls hl => ?_) F _ _ hw12 _ (lv_sub hl [1, 2, 0] rfl)
    · subst e14
      obtain ⟨rfl, rfl⟩ := r2 h
      exact z_iret C hd
    · subst e14
      try dsimp only [Sum.elim] at h
      refine z_iconst C (-1 : Int32) dX12_both_48 (by decide) ?_
      obtain ⟨rfl, rfl⟩ := r2 h
      exact z_iret C dX12_both_49
  · replace h := (if_pos hc15).symm.trans h
    refine z_iconst C (-1 : Int32) dX12_both_11 (by decide) ?_
    obtain ⟨rfl, rfl⟩ := r2 h
    exact z_iret C dX12_both_12
def b_X12_wayLong_4 (F : Nat)  (rec : Int32 → Int32 → St → Option (Int32 × Int32 × St)) (x2 : Int32) (x3 : Int32) (u : St) : Option (Int32 × Int32 × St) := (if x3 < 0 ∨ 4096 ≤ x3.toNatClampNeg then none else (if (u.1 62 x3.toNatClampNeg) = (-1 : Int32) then some (x2, x3, u) else (if x3 < 0 ∨ 4096 ≤ x3.toNatClampNeg then none else rec ((x2 + (1 : Int32))) ((u.1 62 x3.toNatClampNeg)) u)))
def l_X12_wayLong_4 (F : Nat)  : Nat → Int32 → Int32 → St → Option (Int32 × Int32 × St)
  | 0, _, _, _ => none
  | k + 1, x2, x3, u => b_X12_wayLong_4 F  (l_X12_wayLong_4 F  k) x2 x3 u
def f_X12_wayLong (F : Nat) (x1 : Int32) (u : St) : Option (Int32 × St) := (Option.bind (l_X12_wayLong_4 F  F (0 : Int32) x1 u) (fun w4 => some (w4.1, w4.2.2)))
set_option maxRecDepth 20000 in
set_option maxHeartbeats 4000000 in
theorem zl_X12_wayLong_4 {p : Program} {l : Launch} {e : Env} {s : State} {m : MethodId} {args : Array Value} {below : List Frame} {meth : Method} {c : Code} {D : va_G} {cA : Nat → ClassId} {ad : Nat → Nat} {Q : State → Prop} (C : Cx SH p s m args meth c cX12_wayLong 4 (some .int) RX12 D cA ad (inAd ad)) (F : Nat)   {out : Int32 × Int32 × St}  (K : ∀ ls : Array Slot, lv_has ls 4 [(0, .ref (ad 50)), (2, .int out.1), (3, .int out.2.1)] → Z SH p l e (rmD 0) s m args below meth c D cA ad (inAd ad) 0 0 Q out.2.2 27 ls []) : ∀ (k : Nat) (x2 : Int32) (x3 : Int32) (u : St), l_X12_wayLong_4 F  k x2 x3 u = some out → ∀ ls : Array Slot, lv_has ls 4 [(0, .ref (ad 50)), (2, .int x2), (3, .int x3)] → Z SH p l e (rmD 0) s m args below meth c D cA ad (inAd ad) 0 0 Q u 4 ls [] := by
  intro k
  induction k with
  | zero => intro x2 x3 u h; cases h
  | succ k ih =>
    intro x2 x3 u h ls hl
    replace h : b_X12_wayLong_4 F  (l_X12_wayLong_4 F  k) x2 x3 u = some out := h
    unfold b_X12_wayLong_4 at h
    refine z_aload_n C (i := 0) (k := 0) hl dX12_wayLong_4 rfl rfl ?_
    refine z_getr C 50 15 62 fw_X12_45 sh_50 rfl dX12_wayLong_5 ?_
    refine z_iload_n C (i := 3) (k := 2) hl dX12_wayLong_8 rfl rfl ?_
    obtain ⟨hi1, h⟩ := gd h
    refine z_iald C 62 4096 sh_62 hi1 dX12_wayLong_9 ?_
    refine z_iconst C (-1 : Int32) dX12_wayLong_10 (by decide) ?_
    refine z_icmp_eq C 27 dX12_wayLong_11 (by decide) (fun hc3 => ?_) (fun hc3 => ?_)
    · replace h := (if_pos hc3).symm.trans h
      obtain rfl := Option.some.inj h
      exact K _ (lv_sub hl [0, 1, 2] rfl)
    · replace h := (if_neg hc3).symm.trans h
      refine z_iinc C (i := 2) (k := 1) (x2 + (1 : Int32)) [(2, .int (x2 + (1 : Int32))), (0, .ref (ad 50)), (3, .int x3)] hl dX12_wayLong_14 rfl rfl (by decide) rfl (fun ls hl => ?_)
      refine z_aload_n C (i := 0) (k := 1) hl dX12_wayLong_17 rfl rfl ?_
      refine z_getr C 50 15 62 fw_X12_45 sh_50 rfl dX12_wayLong_18 ?_
      refine z_iload_n C (i := 3) (k := 2) hl dX12_wayLong_21 rfl rfl ?_
      obtain ⟨hi2, h⟩ := gd h
      refine z_iald C 62 4096 sh_62 hi2 dX12_wayLong_22 ?_
      refine z_istore_n C (i := 3) [(3, .int (u.1 62 x3.toNatClampNeg)), (2, .int (x2 + (1 : Int32))), (0, .ref (ad 50))] hl dX12_wayLong_23 rfl (by decide) rfl (fun ls hl => ?_)
      refine z_goto C 4 dX12_wayLong_24 (by decide) ?_
      exact ih _ _ _ h _ (lv_sub hl [2, 1, 0] rfl)
set_option maxRecDepth 20000 in
set_option maxHeartbeats 4000000 in
theorem m_X12_wayLong (F : Nat) (x1 : Int32) (u : St) (r : Int32) (u' : St)  (h : f_X12_wayLong F x1 u = some (r, u')) : Mt yX12_wayLong cX12_wayLong 4 (some .int) 0 (fun ad => [.ref (ad 50), .int x1]) u (fun _ => some (.int r)) u' := by
  refine Mt.of (by decide) (fun ad => Nat.le_of_ble_eq_true rfl) ?_
  intro p l e s m args below meth c D cA ad ls C hl
  have hl : lv_has ls 4 [(0, .ref (ad 50)), (1, .int x1)] := hl
  unfold f_X12_wayLong at h
  refine z_iconst C (0 : Int32) dX12_wayLong_0 (by decide) ?_
  refine z_istore_n C (i := 2) [(2, .int (0 : Int32)), (0, .ref (ad 50)), (1, .int x1)] hl dX12_wayLong_1 rfl (by decide) rfl (fun ls hl => ?_)
  refine z_iload_n C (i := 1) (k := 2) hl dX12_wayLong_2 rfl rfl ?_
  refine z_istore_n C (i := 3) [(3, .int x1), (2, .int (0 : Int32)), (0, .ref (ad 50)), (1, .int x1)] hl dX12_wayLong_3 rfl (by decide) rfl (fun ls hl => ?_)
  obtain ⟨w4, hw5, h⟩ := bnd h
  refine zl_X12_wayLong_4 C F (out := w4) (fun ls hl => ?_) F _ _ _ hw5 _ (lv_sub hl [2, 1, 0] rfl)
  refine z_iload_n C (i := 2) (k := 1) hl dX12_wayLong_27 rfl rfl ?_
  obtain ⟨rfl, rfl⟩ := r2 h
  exact z_iret C dX12_wayLong_28
def b_X12_change_47 (F : Nat) (x2 : Int32) (rec : Int32 → Int32 → St → Option (Int32 × Int32 × St)) (x3 : Int32) (x4 : Int32) (u : St) : Option (Int32 × Int32 × St) := (if x4 ≤ x2 then some (x3, x4, u) else (if x3 < 0 ∨ 4096 ≤ x3.toNatClampNeg then none else rec ((u.1 62 x3.toNatClampNeg)) ((x4 + (-1 : Int32))) u))
def l_X12_change_47 (F : Nat) (x2 : Int32) : Nat → Int32 → Int32 → St → Option (Int32 × Int32 × St)
  | 0, _, _, _ => none
  | k + 1, x3, x4, u => b_X12_change_47 F x2 (l_X12_change_47 F x2 k) x3 x4 u
def f_X12_change (F : Nat) (x1 : Int32) (x2 : Int32) (u : St) : Option (Int32 × St) := (Option.bind (f_X12_walks F u) (fun u1 => (Option.bind (f_X12_isState F x1 u1) (fun w6 => (if w6.1 = 0 then some ((-1 : Int32), w6.2) else (if x1 < 0 ∨ 4096 ≤ x1.toNatClampNeg then none else (if (w6.2.1 61 x1.toNatClampNeg) = (-1 : Int32) then some ((-1 : Int32), w6.2) else (if x2 < 0 then some ((-1 : Int32), w6.2) else (Option.bind (f_X12_wayLong F x1 w6.2) (fun w11 => (if x2 < w11.1 then (Option.bind (f_X12_wayLong F x1 w11.2) (fun w15 => (Option.bind (l_X12_change_47 F x2 F x1 (w15.1 - (1 : Int32)) w15.2) (fun w18 => (if w18.1 < 0 ∨ 4096 ≤ w18.1.toNatClampNeg then none else some ((w18.2.2.1 63 w18.1.toNatClampNeg), w18.2.2)))))) else some ((-1 : Int32), w11.2))))))))))))
set_option maxRecDepth 20000 in
set_option maxHeartbeats 4000000 in
theorem zl_X12_change_47 {p : Program} {l : Launch} {e : Env} {s : State} {m : MethodId} {args : Array Value} {below : List Frame} {meth : Method} {c : Code} {D : va_G} {cA : Nat → ClassId} {ad : Nat → Nat} {Q : State → Prop} (C : Cx SH p s m args meth c cX12_change 5 (some .int) RX12 D cA ad (inAd ad)) (F : Nat) (x2 : Int32)  {out : Int32 × Int32 × St}  (K : ∀ ls : Array Slot, lv_has ls 5 [(0, .ref (ad 50)), (2, .int x2), (3, .int out.1), (4, .int out.2.1)] → Z SH p l e (rmD 2) s m args below meth c D cA ad (inAd ad) 0 0 Q out.2.2 66 ls []) : ∀ (k : Nat) (x3 : Int32) (x4 : Int32) (u : St), l_X12_change_47 F x2 k x3 x4 u = some out → ∀ ls : Array Slot, lv_has ls 5 [(0, .ref (ad 50)), (2, .int x2), (3, .int x3), (4, .int x4)] → Z SH p l e (rmD 2) s m args below meth c D cA ad (inAd ad) 0 0 Q u 47 ls [] := by
  intro k
  induction k with
  | zero => intro x3 x4 u h; cases h
  | succ k ih =>
    intro x3 x4 u h ls hl
    replace h : b_X12_change_47 F x2 (l_X12_change_47 F x2 k) x3 x4 u = some out := h
    unfold b_X12_change_47 at h
    refine z_iload C (i := 4) (k := 3) hl dX12_change_47 rfl ?_
    refine z_iload_n C (i := 2) (k := 1) hl dX12_change_49 rfl rfl ?_
    refine z_icmp_le C 66 dX12_change_50 (by decide) (fun hc17 => ?_) (fun hc17 => ?_)
    · replace h := (if_pos hc17).symm.trans h
      obtain rfl := Option.some.inj h
      exact K _ (lv_sub hl [0, 1, 2, 3] rfl)
    · replace h := (if_neg hc17).symm.trans h
      refine z_aload_n C (i := 0) (k := 0) hl dX12_change_53 rfl rfl ?_
      refine z_getr C 50 15 62 fw_X12_45 sh_50 rfl dX12_change_54 ?_
      refine z_iload_n C (i := 3) (k := 2) hl dX12_change_57 rfl rfl ?_
      obtain ⟨hi16, h⟩ := gd h
      refine z_iald C 62 4096 sh_62 hi16 dX12_change_58 ?_
      refine z_istore_n C (i := 3) [(3, .int (u.1 62 x3.toNatClampNeg)), (0, .ref (ad 50)), (2, .int x2), (4, .int x4)] hl dX12_change_59 rfl (by decide) rfl (fun ls hl => ?_)
      refine z_iinc C (i := 4) (k := 3) (x4 + (-1 : Int32)) [(4, .int (x4 + (-1 : Int32))), (3, .int (u.1 62 x3.toNatClampNeg)), (0, .ref (ad 50)), (2, .int x2)] hl dX12_change_60 rfl rfl (by decide) rfl (fun ls hl => ?_)
      refine z_goto C 47 dX12_change_63 (by decide) ?_
      exact ih _ _ _ h _ (lv_sub hl [2, 3, 1, 0] rfl)
set_option maxRecDepth 20000 in
set_option maxHeartbeats 4000000 in
theorem m_X12_change (F : Nat) (x1 : Int32) (x2 : Int32) (u : St) (r : Int32) (u' : St)  (h : f_X12_change F x1 x2 u = some (r, u')) : Mt yX12_change cX12_change 5 (some .int) 2 (fun ad => [.ref (ad 50), .int x1, .int x2]) u (fun _ => some (.int r)) u' := by
  refine Mt.of (by decide) (fun ad => Nat.le_of_ble_eq_true rfl) ?_
  intro p l e s m args below meth c D cA ad ls C hl
  have hl : lv_has ls 5 [(0, .ref (ad 50)), (1, .int x1), (2, .int x2)] := hl
  unfold f_X12_change at h
  refine z_aload_n C (i := 0) (k := 0) hl dX12_change_0 rfl rfl ?_
  obtain ⟨u1, hc2, h⟩ := bnd h
  refine z_callV C (ci := 12) [] [] [] (m_X12_walks F  _ _ hc2) cw_X12_walks vw_X12_walks ml_X12_126 sh_50 rfl rfl rfl rfl hl.1 (Nat.le_of_ble_eq_true rfl) ⟨Nat.le_of_ble_eq_true rfl, Nat.le_of_ble_eq_true rfl⟩ ⟨Nat.le_refl _, Nat.le_refl _⟩ rfl dX12_change_1 ?_
  refine z_iload_n C (i := 1) (k := 1) hl dX12_change_4 rfl rfl ?_
  obtain ⟨⟨r5, u3⟩, hc4, h⟩ := bnd h
  try dsimp only at h
  refine z_callS C [.int x1] [] [.int r5] (m_X12_isState F _ _ _ _ hc4) cw_X12_isState sw_X12_isState ml_X12_111 rfl rfl rfl hl.1 (Nat.le_of_ble_eq_true rfl) ⟨Nat.le_of_ble_eq_true rfl, Nat.le_of_ble_eq_true rfl⟩ ⟨Nat.le_refl _, Nat.le_refl _⟩ rfl dX12_change_5 ?_
  refine z_if_eq C 34 dX12_change_8 (by decide) (fun hc24 => ?_) (fun hc24 => ?_)
  · replace h := (if_pos hc24).symm.trans h
    refine z_iconst C (-1 : Int32) dX12_change_34 (by decide) ?_
    obtain ⟨rfl, rfl⟩ := r2 h
    exact z_iret C dX12_change_35
  · replace h := (if_neg hc24).symm.trans h
    refine z_aload_n C (i := 0) (k := 0) hl dX12_change_11 rfl rfl ?_
    refine z_getr C 50 14 61 fw_X12_42 sh_50 rfl dX12_change_12 ?_
    refine z_iload_n C (i := 1) (k := 1) hl dX12_change_15 rfl rfl ?_
    obtain ⟨hi7, h⟩ := gd h
    refine z_iald C 61 4096 sh_61 hi7 dX12_change_16 ?_
    refine z_iconst C (-1 : Int32) dX12_change_17 (by decide) ?_
    refine z_icmp_eq C 34 dX12_change_18 (by decide) (fun hc23 => ?_) (fun hc23 => ?_)
    · replace h := (if_pos hc23).symm.trans h
      refine z_iconst C (-1 : Int32) dX12_change_34 (by decide) ?_
      obtain ⟨rfl, rfl⟩ := r2 h
      exact z_iret C dX12_change_35
    · replace h := (if_neg hc23).symm.trans h
      refine z_iload_n C (i := 2) (k := 2) hl dX12_change_21 rfl rfl ?_
      refine z_if_lt C 34 dX12_change_22 (by decide) (fun hc22 => ?_) (fun hc22 => ?_)
      · replace h := (if_pos hc22).symm.trans h
        refine z_iconst C (-1 : Int32) dX12_change_34 (by decide) ?_
        obtain ⟨rfl, rfl⟩ := r2 h
        exact z_iret C dX12_change_35
      · replace h := (if_neg hc22).symm.trans h
        refine z_iload_n C (i := 2) (k := 2) hl dX12_change_25 rfl rfl ?_
        refine z_aload_n C (i := 0) (k := 0) hl dX12_change_26 rfl rfl ?_
        refine z_iload_n C (i := 1) (k := 1) hl dX12_change_27 rfl rfl ?_
        obtain ⟨⟨r10, u8⟩, hc9, h⟩ := bnd h
        try dsimp only at h
        refine z_callV C (ci := 12) [.int x1] [.int x2] [.int r10, .int x2] (m_X12_wayLong F _ _ _ _ hc9) cw_X12_wayLong vw_X12_wayLong ml_X12_136 sh_50 rfl rfl rfl rfl hl.1 (Nat.le_of_ble_eq_true rfl) ⟨Nat.le_of_ble_eq_true rfl, Nat.le_of_ble_eq_true rfl⟩ ⟨Nat.le_refl _, Nat.le_refl _⟩ rfl dX12_change_28 ?_
        refine z_icmp_lt C 36 dX12_change_31 (by decide) (fun hc21 => ?_) (fun hc21 => ?_)
        · replace h := (if_pos hc21).symm.trans h
          refine z_iload_n C (i := 1) (k := 1) hl dX12_change_36 rfl rfl ?_
          refine z_istore_n C (i := 3) [(3, .int x1), (0, .ref (ad 50)), (1, .int x1), (2, .int x2)] hl dX12_change_37 rfl (by decide) rfl (fun ls hl => ?_)
          refine z_aload_n C (i := 0) (k := 1) hl dX12_change_38 rfl rfl ?_
          refine z_iload_n C (i := 1) (k := 2) hl dX12_change_39 rfl rfl ?_
          obtain ⟨⟨r14, u12⟩, hc13, h⟩ := bnd h
          try dsimp only at h
          refine z_callV C (ci := 12) [.int x1] [] [.int r14] (m_X12_wayLong F _ _ _ _ hc13) cw_X12_wayLong vw_X12_wayLong ml_X12_136 sh_50 rfl rfl rfl rfl hl.1 (Nat.le_of_ble_eq_true rfl) ⟨Nat.le_of_ble_eq_true rfl, Nat.le_of_ble_eq_true rfl⟩ ⟨Nat.le_refl _, Nat.le_refl _⟩ rfl dX12_change_40 ?_
          refine z_iconst C (1 : Int32) dX12_change_43 (by decide) ?_
          refine z_isub C dX12_change_44 ?_
          refine z_istore C (i := 4) [(4, .int (r14 - (1 : Int32))), (3, .int x1), (0, .ref (ad 50)), (1, .int x1), (2, .int x2)] hl dX12_change_45 (by decide) rfl (fun ls hl => ?_)
          obtain ⟨w18, hw19, h⟩ := bnd h
          refine zl_X12_change_47 C F x2 (out := w18) (fun ls hl => ?_) F _ _ _ hw19 _ (lv_sub hl [2, 4, 1, 0] rfl)
          refine z_aload_n C (i := 0) (k := 0) hl dX12_change_66 rfl rfl ?_
          refine z_getr C 50 16 63 fw_X12_48 sh_50 rfl dX12_change_67 ?_
          refine z_iload_n C (i := 3) (k := 2) hl dX12_change_70 rfl rfl ?_
          obtain ⟨hi20, h⟩ := gd h
          refine z_iald C 63 4096 sh_63 hi20 dX12_change_71 ?_
          obtain ⟨rfl, rfl⟩ := r2 h
          exact z_iret C dX12_change_72
        · replace h := (if_neg hc21).symm.trans h
          refine z_iconst C (-1 : Int32) dX12_change_34 (by decide) ?_
          obtain ⟨rfl, rfl⟩ := r2 h
          exact z_iret C dX12_change_35
