def b_X12_hazardOf_48 (F : Nat) (x1 : Int32) (x2 : Int32) (x4 : Int32) (x5 : Int32) (x6 : Int32) (x7 : Int32) (rec : Int32 → Int32 → St → Option ((Int32 × St) ⊕ (Int32 × Int32 × St))) (x3 : Int32) (x8 : Int32) (u : St) : Option ((Int32 × St) ⊕ (Int32 × Int32 × St)) := (if (12 : Int32) ≤ x8 then some (Sum.inr (x3, x8, u)) else (if x7 = x8 then rec x3 ((x8 + (1 : Int32))) u else (if ((x6 >>> (x7 &&& 31)) &&& (1 : Int32)) = 0 then rec x3 ((x8 + (1 : Int32))) u else (if ((x6 >>> (x8 &&& 31)) &&& (1 : Int32)) = 0 then rec x3 ((x8 + (1 : Int32))) u else (if (((12 : Int32) * x7) + x8) < 0 ∨ 144 ≤ (((12 : Int32) * x7) + x8).toNatClampNeg then none else (if (u.1 59 (((12 : Int32) * x7) + x8).toNatClampNeg) = 0 then (Option.bind (f_X12_askedIn F (x5 ^^^ ((1 : Int32) <<< (x8 &&& 31))) u) (fun w12 => (if ((w12.1 >>> (x7 &&& 31)) &&& (1 : Int32)) = (1 : Int32) then rec x3 ((x8 + (1 : Int32))) w12.2 else (if x3 = x1 then (if x2 = 0 then some (Sum.inl (x5, w12.2)) else (if x2 = (1 : Int32) then some (Sum.inl (x7, w12.2)) else (if x2 = (2 : Int32) then some (Sum.inl (x8, w12.2)) else some (Sum.inl ((-1 : Int32), w12.2))))) else rec ((x3 + (1 : Int32))) ((x8 + (1 : Int32))) w12.2)))) else rec x3 ((x8 + (1 : Int32))) u))))))
def l_X12_hazardOf_48 (F : Nat) (x1 : Int32) (x2 : Int32) (x4 : Int32) (x5 : Int32) (x6 : Int32) (x7 : Int32) : Nat → Int32 → Int32 → St → Option ((Int32 × St) ⊕ (Int32 × Int32 × St))
  | 0, _, _, _ => none
  | k + 1, x3, x8, u => b_X12_hazardOf_48 F x1 x2 x4 x5 x6 x7 (l_X12_hazardOf_48 F x1 x2 x4 x5 x6 x7 k) x3 x8 u
def b_X12_hazardOf_38 (F : Nat) (x1 : Int32) (x2 : Int32) (x4 : Int32) (x5 : Int32) (x6 : Int32) (rec : Int32 → Int32 → St → Option ((Int32 × St) ⊕ (Int32 × Int32 × St))) (x3 : Int32) (x7 : Int32) (u : St) : Option ((Int32 × St) ⊕ (Int32 × Int32 × St)) := (if (12 : Int32) ≤ x7 then some (Sum.inr (x3, x7, u)) else (Option.bind (l_X12_hazardOf_48 F x1 x2 x4 x5 x6 x7 F x3 (0 : Int32) u) (fun w23 => Sum.elim (fun r => some (Sum.inl r)) (fun v25 => rec v25.1 ((x7 + (1 : Int32))) v25.2.2) w23)))
def l_X12_hazardOf_38 (F : Nat) (x1 : Int32) (x2 : Int32) (x4 : Int32) (x5 : Int32) (x6 : Int32) : Nat → Int32 → Int32 → St → Option ((Int32 × St) ⊕ (Int32 × Int32 × St))
  | 0, _, _, _ => none
  | k + 1, x3, x7, u => b_X12_hazardOf_38 F x1 x2 x4 x5 x6 (l_X12_hazardOf_38 F x1 x2 x4 x5 x6 k) x3 x7 u
def b_X12_hazardOf_9 (F : Nat) (x1 : Int32) (x2 : Int32) (rec : Int32 → Int32 → St → Option ((Int32 × St) ⊕ (Int32 × Int32 × St))) (x3 : Int32) (x4 : Int32) (u : St) : Option ((Int32 × St) ⊕ (Int32 × Int32 × St)) := (if (u.1 50 17) ≤ x4 then some (Sum.inr (x3, x4, u)) else (if x4 < 0 ∨ 4096 ≤ x4.toNatClampNeg then none else (Option.bind (f_X12_askedIn F (u.1 60 x4.toNatClampNeg) u) (fun w7 => (Option.bind (l_X12_hazardOf_38 F x1 x2 x4 (u.1 60 x4.toNatClampNeg) w7.1 F x3 (0 : Int32) w7.2) (fun w28 => Sum.elim (fun r => some (Sum.inl r)) (fun v30 => rec v30.1 ((x4 + (1 : Int32))) v30.2.2) w28))))))
def l_X12_hazardOf_9 (F : Nat) (x1 : Int32) (x2 : Int32) : Nat → Int32 → Int32 → St → Option ((Int32 × St) ⊕ (Int32 × Int32 × St))
  | 0, _, _, _ => none
  | k + 1, x3, x4, u => b_X12_hazardOf_9 F x1 x2 (l_X12_hazardOf_9 F x1 x2 k) x3 x4 u
def f_X12_hazardOf (F : Nat) (x1 : Int32) (x2 : Int32) (u : St) : Option (Int32 × St) := (Option.bind (f_X12_walks F u) (fun u1 => (Option.bind (l_X12_hazardOf_9 F x1 x2 F (0 : Int32) (0 : Int32) u1) (fun w33 => Sum.elim (fun r => some r) (fun v35 => (if 0 ≤ x1 then some ((-1 : Int32), v35.2.2) else some (v35.1, v35.2.2))) w33))))
set_option maxRecDepth 20000 in
set_option maxHeartbeats 4000000 in
theorem zl_X12_hazardOf_48 {p : Program} {l : Launch} {e : Env} {s : State} {m : MethodId} {args : Array Value} {below : List Frame} {meth : Method} {c : Code} {D : va_G} {cA : Nat → ClassId} {ad : Nat → Nat} {Q : State → Prop} (C : Cx SH p s m args meth c cX12_hazardOf 9 (some .int) RX12 D cA ad (inAd ad)) (F : Nat) (x1 : Int32) (x2 : Int32) (x4 : Int32) (x5 : Int32) (x6 : Int32) (x7 : Int32)  {out : (Int32 × St) ⊕ (Int32 × Int32 × St)} (K1 : ∀ (r : Int32) (u' : St), out = .inl (r, u') → ∀ (pc : Nat) (ls : Array Slot), decode cX12_hazardOf pc = .ok (.ireturn, 1) → Z SH p l e (rmD 2) s m args below meth c D cA ad (inAd ad) 0 0 Q u' pc ls [.int r]) (K : ∀ (v : Int32 × Int32 × St), out = .inr v → ∀ ls : Array Slot, lv_has ls 9 [(0, .ref (ad 50)), (1, .int x1), (2, .int x2), (3, .int v.1), (4, .int x4), (5, .int x5), (6, .int x6), (7, .int x7), (8, .int v.2.1)] → Z SH p l e (rmD 2) s m args below meth c D cA ad (inAd ad) 0 0 Q v.2.2 166 ls []) : ∀ (k : Nat) (x3 : Int32) (x8 : Int32) (u : St), l_X12_hazardOf_48 F x1 x2 x4 x5 x6 x7 k x3 x8 u = some out → ∀ ls : Array Slot, lv_has ls 9 [(0, .ref (ad 50)), (1, .int x1), (2, .int x2), (3, .int x3), (4, .int x4), (5, .int x5), (6, .int x6), (7, .int x7), (8, .int x8)] → Z SH p l e (rmD 2) s m args below meth c D cA ad (inAd ad) 0 0 Q u 48 ls [] := by
  intro k
  induction k with
  | zero => intro x3 x8 u h; cases h
  | succ k ih =>
    intro x3 x8 u h ls hl
    replace h : b_X12_hazardOf_48 F x1 x2 x4 x5 x6 x7 (l_X12_hazardOf_48 F x1 x2 x4 x5 x6 x7 k) x3 x8 u = some out := h
    unfold b_X12_hazardOf_48 at h
    refine z_iload C (i := 8) (k := 8) hl dX12_hazardOf_48 rfl ?_
    refine z_bipush C (12 : Int32) dX12_hazardOf_50 (by decide) ?_
    refine z_icmp_ge C 166 dX12_hazardOf_52 (by decide) (fun hc22 => ?_) (fun hc22 => ?_)
    · replace h := (if_pos hc22).symm.trans h
      exact K _ (Option.some.inj h).symm _ (lv_sub hl [0, 1, 2, 3, 4, 5, 6, 7, 8] rfl)
    · replace h := (if_neg hc22).symm.trans h
      refine z_iload C (i := 7) (k := 7) hl dX12_hazardOf_55 rfl ?_
      refine z_iload C (i := 8) (k := 8) hl dX12_hazardOf_57 rfl ?_
      refine z_icmp_eq C 160 dX12_hazardOf_59 (by decide) (fun hc21 => ?_) (fun hc21 => ?_)
      · replace h := (if_pos hc21).symm.trans h
        refine z_iinc C (i := 8) (k := 8) (x8 + (1 : Int32)) [(8, .int (x8 + (1 : Int32))), (0, .ref (ad 50)), (1, .int x1), (2, .int x2), (3, .int x3), (4, .int x4), (5, .int x5), (6, .int x6), (7, .int x7)] hl dX12_hazardOf_160 rfl rfl (by decide) rfl (fun ls hl => ?_)
        refine z_goto C 48 dX12_hazardOf_163 (by decide) ?_
        exact ih _ _ _ h _ (lv_sub hl [1, 2, 3, 4, 5, 6, 7, 8, 0] rfl)
      · replace h := (if_neg hc21).symm.trans h
        refine z_iload C (i := 6) (k := 6) hl dX12_hazardOf_62 rfl ?_
        refine z_iload C (i := 7) (k := 7) hl dX12_hazardOf_64 rfl ?_
        refine z_ishr C dX12_hazardOf_66 ?_
        refine z_iconst C (1 : Int32) dX12_hazardOf_67 (by decide) ?_
        refine z_iand C dX12_hazardOf_68 ?_
        refine z_if_eq C 160 dX12_hazardOf_69 (by decide) (fun hc20 => ?_) (fun hc20 => ?_)
        · replace h := (if_pos hc20).symm.trans h
          refine z_iinc C (i := 8) (k := 8) (x8 + (1 : Int32)) [(8, .int (x8 + (1 : Int32))), (0, .ref (ad 50)), (1, .int x1), (2, .int x2), (3, .int x3), (4, .int x4), (5, .int x5), (6, .int x6), (7, .int x7)] hl dX12_hazardOf_160 rfl rfl (by decide) rfl (fun ls hl => ?_)
          refine z_goto C 48 dX12_hazardOf_163 (by decide) ?_
          exact ih _ _ _ h _ (lv_sub hl [1, 2, 3, 4, 5, 6, 7, 8, 0] rfl)
        · replace h := (if_neg hc20).symm.trans h
          refine z_iload C (i := 6) (k := 6) hl dX12_hazardOf_72 rfl ?_
          refine z_iload C (i := 8) (k := 8) hl dX12_hazardOf_74 rfl ?_
          refine z_ishr C dX12_hazardOf_76 ?_
          refine z_iconst C (1 : Int32) dX12_hazardOf_77 (by decide) ?_
          refine z_iand C dX12_hazardOf_78 ?_
          refine z_if_eq C 160 dX12_hazardOf_79 (by decide) (fun hc19 => ?_) (fun hc19 => ?_)
          · replace h := (if_pos hc19).symm.trans h
            refine z_iinc C (i := 8) (k := 8) (x8 + (1 : Int32)) [(8, .int (x8 + (1 : Int32))), (0, .ref (ad 50)), (1, .int x1), (2, .int x2), (3, .int x3), (4, .int x4), (5, .int x5), (6, .int x6), (7, .int x7)] hl dX12_hazardOf_160 rfl rfl (by decide) rfl (fun ls hl => ?_)
            refine z_goto C 48 dX12_hazardOf_163 (by decide) ?_
            exact ih _ _ _ h _ (lv_sub hl [1, 2, 3, 4, 5, 6, 7, 8, 0] rfl)
          · replace h := (if_neg hc19).symm.trans h
            refine z_aload_n C (i := 0) (k := 0) hl dX12_hazardOf_82 rfl rfl ?_
            refine z_getr C 50 11 59 fw_X12_36 sh_50 rfl dX12_hazardOf_83 ?_
            refine z_bipush C (12 : Int32) dX12_hazardOf_86 (by decide) ?_
            refine z_iload C (i := 7) (k := 7) hl dX12_hazardOf_88 rfl ?_
            refine z_imul C dX12_hazardOf_90 ?_
            refine z_iload C (i := 8) (k := 8) hl dX12_hazardOf_91 rfl ?_
            refine z_iadd C dX12_hazardOf_93 ?_
            obtain ⟨hi8, h⟩ := gd h
            refine z_zald C 59 144 sh_59 hi8 dX12_hazardOf_94 ?_
            refine z_if_ne C 160 dX12_hazardOf_95 (by decide) (fun hc18 => ?_) (fun hc18 => ?_)
            · replace h := (if_neg hc18).symm.trans h
              refine z_iinc C (i := 8) (k := 8) (x8 + (1 : Int32)) [(8, .int (x8 + (1 : Int32))), (0, .ref (ad 50)), (1, .int x1), (2, .int x2), (3, .int x3), (4, .int x4), (5, .int x5), (6, .int x6), (7, .int x7)] hl dX12_hazardOf_160 rfl rfl (by decide) rfl (fun ls hl => ?_)
              refine z_goto C 48 dX12_hazardOf_163 (by decide) ?_
              exact ih _ _ _ h _ (lv_sub hl [1, 2, 3, 4, 5, 6, 7, 8, 0] rfl)
            · replace h := (if_pos hc18).symm.trans h
              refine z_aload_n C (i := 0) (k := 0) hl dX12_hazardOf_98 rfl rfl ?_
              refine z_iload C (i := 5) (k := 5) hl dX12_hazardOf_99 rfl ?_
              refine z_iconst C (1 : Int32) dX12_hazardOf_101 (by decide) ?_
              refine z_iload C (i := 8) (k := 8) hl dX12_hazardOf_102 rfl ?_
              refine z_ishl C dX12_hazardOf_104 ?_
              refine z_ixor C dX12_hazardOf_105 ?_
              obtain ⟨⟨r11, u9⟩, hc10, h⟩ := bnd h
              try dsimp only at h
              refine z_callV C (ci := 12) [.int (x5 ^^^ ((1 : Int32) <<< (x8 &&& 31)))] [] [.int r11] (m_X12_askedIn F _ _ _ _ hc10) cw_X12_askedIn vw_X12_askedIn ml_X12_120 sh_50 rfl rfl rfl rfl hl.1 (Nat.le_of_ble_eq_true rfl) ⟨Nat.le_of_ble_eq_true rfl, Nat.le_of_ble_eq_true rfl⟩ ⟨Nat.le_refl _, Nat.le_refl _⟩ rfl dX12_hazardOf_106 ?_
              refine z_iload C (i := 7) (k := 7) hl dX12_hazardOf_109 rfl ?_
              refine z_ishr C dX12_hazardOf_111 ?_
              refine z_iconst C (1 : Int32) dX12_hazardOf_112 (by decide) ?_
              refine z_iand C dX12_hazardOf_113 ?_
              refine z_iconst C (1 : Int32) dX12_hazardOf_114 (by decide) ?_
              refine z_icmp_ne C 121 dX12_hazardOf_115 (by decide) (fun hc17 => ?_) (fun hc17 => ?_)
              · replace h := (if_neg hc17).symm.trans h
                refine z_iload_n C (i := 3) (k := 3) hl dX12_hazardOf_121 rfl rfl ?_
                refine z_iload_n C (i := 1) (k := 1) hl dX12_hazardOf_122 rfl rfl ?_
                refine z_icmp_ne C 157 dX12_hazardOf_123 (by decide) (fun hc16 => ?_) (fun hc16 => ?_)
                · replace h := (if_neg hc16).symm.trans h
                  refine z_iinc C (i := 3) (k := 3) (x3 + (1 : Int32)) [(3, .int (x3 + (1 : Int32))), (0, .ref (ad 50)), (1, .int x1), (2, .int x2), (4, .int x4), (5, .int x5), (6, .int x6), (7, .int x7), (8, .int x8)] hl dX12_hazardOf_157 rfl rfl (by decide) rfl (fun ls hl => ?_)
                  refine z_iinc C (i := 8) (k := 8) (x8 + (1 : Int32)) [(8, .int (x8 + (1 : Int32))), (3, .int (x3 + (1 : Int32))), (0, .ref (ad 50)), (1, .int x1), (2, .int x2), (4, .int x4), (5, .int x5), (6, .int x6), (7, .int x7)] hl dX12_hazardOf_160 rfl rfl (by decide) rfl (fun ls hl => ?_)
                  refine z_goto C 48 dX12_hazardOf_163 (by decide) ?_
                  exact ih _ _ _ h _ (lv_sub hl [2, 3, 4, 1, 5, 6, 7, 8, 0] rfl)
                · replace h := (if_pos hc16).symm.trans h
                  refine z_iload_n C (i := 2) (k := 2) hl dX12_hazardOf_126 rfl rfl ?_
                  refine z_if_ne C 135 dX12_hazardOf_127 (by decide) (fun hc15 => ?_) (fun hc15 => ?_)
                  · replace h := (if_neg hc15).symm.trans h
                    refine z_iload_n C (i := 2) (k := 2) hl dX12_hazardOf_135 rfl rfl ?_
                    refine z_iconst C (1 : Int32) dX12_hazardOf_136 (by decide) ?_
                    refine z_icmp_ne C 145 dX12_hazardOf_137 (by decide) (fun hc14 => ?_) (fun hc14 => ?_)
                    · replace h := (if_neg hc14).symm.trans h
                      refine z_iload_n C (i := 2) (k := 2) hl dX12_hazardOf_145 rfl rfl ?_
                      refine z_iconst C (2 : Int32) dX12_hazardOf_146 (by decide) ?_
                      refine z_icmp_ne C 155 dX12_hazardOf_147 (by decide) (fun hc13 => ?_) (fun hc13 => ?_)
                      · replace h := (if_neg hc13).symm.trans h
                        refine z_iconst C (-1 : Int32) dX12_hazardOf_155 (by decide) ?_
                        exact K1 _ _ (Option.some.inj h).symm _ _ dX12_hazardOf_156
                      · replace h := (if_pos hc13).symm.trans h
                        refine z_iload C (i := 8) (k := 8) hl dX12_hazardOf_150 rfl ?_
                        refine z_goto C 156 dX12_hazardOf_152 (by decide) ?_
                        exact K1 _ _ (Option.some.inj h).symm _ _ dX12_hazardOf_156
                    · replace h := (if_pos hc14).symm.trans h
                      refine z_iload C (i := 7) (k := 7) hl dX12_hazardOf_140 rfl ?_
                      refine z_goto C 156 dX12_hazardOf_142 (by decide) ?_
                      exact K1 _ _ (Option.some.inj h).symm _ _ dX12_hazardOf_156
                  · replace h := (if_pos hc15).symm.trans h
                    refine z_iload C (i := 5) (k := 5) hl dX12_hazardOf_130 rfl ?_
                    refine z_goto C 156 dX12_hazardOf_132 (by decide) ?_
                    exact K1 _ _ (Option.some.inj h).symm _ _ dX12_hazardOf_156
              · replace h := (if_pos hc17).symm.trans h
                refine z_goto C 160 dX12_hazardOf_118 (by decide) ?_
                refine z_iinc C (i := 8) (k := 8) (x8 + (1 : Int32)) [(8, .int (x8 + (1 : Int32))), (0, .ref (ad 50)), (1, .int x1), (2, .int x2), (3, .int x3), (4, .int x4), (5, .int x5), (6, .int x6), (7, .int x7)] hl dX12_hazardOf_160 rfl rfl (by decide) rfl (fun ls hl => ?_)
                refine z_goto C 48 dX12_hazardOf_163 (by decide) ?_
                exact ih _ _ _ h _ (lv_sub hl [1, 2, 3, 4, 5, 6, 7, 8, 0] rfl)
set_option maxRecDepth 20000 in
set_option maxHeartbeats 4000000 in
theorem zl_X12_hazardOf_38 {p : Program} {l : Launch} {e : Env} {s : State} {m : MethodId} {args : Array Value} {below : List Frame} {meth : Method} {c : Code} {D : va_G} {cA : Nat → ClassId} {ad : Nat → Nat} {Q : State → Prop} (C : Cx SH p s m args meth c cX12_hazardOf 9 (some .int) RX12 D cA ad (inAd ad)) (F : Nat) (x1 : Int32) (x2 : Int32) (x4 : Int32) (x5 : Int32) (x6 : Int32)  {out : (Int32 × St) ⊕ (Int32 × Int32 × St)} (K1 : ∀ (r : Int32) (u' : St), out = .inl (r, u') → ∀ (pc : Nat) (ls : Array Slot), decode cX12_hazardOf pc = .ok (.ireturn, 1) → Z SH p l e (rmD 2) s m args below meth c D cA ad (inAd ad) 0 0 Q u' pc ls [.int r]) (K : ∀ (v : Int32 × Int32 × St), out = .inr v → ∀ ls : Array Slot, lv_has ls 9 [(0, .ref (ad 50)), (1, .int x1), (2, .int x2), (3, .int v.1), (4, .int x4), (5, .int x5), (6, .int x6), (7, .int v.2.1)] → Z SH p l e (rmD 2) s m args below meth c D cA ad (inAd ad) 0 0 Q v.2.2 172 ls []) : ∀ (k : Nat) (x3 : Int32) (x7 : Int32) (u : St), l_X12_hazardOf_38 F x1 x2 x4 x5 x6 k x3 x7 u = some out → ∀ ls : Array Slot, lv_has ls 9 [(0, .ref (ad 50)), (1, .int x1), (2, .int x2), (3, .int x3), (4, .int x4), (5, .int x5), (6, .int x6), (7, .int x7)] → Z SH p l e (rmD 2) s m args below meth c D cA ad (inAd ad) 0 0 Q u 38 ls [] := by
  intro k
  induction k with
  | zero => intro x3 x7 u h; cases h
  | succ k ih =>
    intro x3 x7 u h ls hl
    replace h : b_X12_hazardOf_38 F x1 x2 x4 x5 x6 (l_X12_hazardOf_38 F x1 x2 x4 x5 x6 k) x3 x7 u = some out := h
    unfold b_X12_hazardOf_38 at h
    refine z_iload C (i := 7) (k := 7) hl dX12_hazardOf_38 rfl ?_
    refine z_bipush C (12 : Int32) dX12_hazardOf_40 (by decide) ?_
    refine z_icmp_ge C 172 dX12_hazardOf_42 (by decide) (fun hc27 => ?_) (fun hc27 => ?_)
    · replace h := (if_pos hc27).symm.trans h
      exact K _ (Option.some.inj h).symm _ (lv_sub hl [0, 1, 2, 3, 4, 5, 6, 7] rfl)
    · replace h := (if_neg hc27).symm.trans h
      refine z_iconst C (0 : Int32) dX12_hazardOf_45 (by decide) ?_
      refine z_istore C (i := 8) [(8, .int (0 : Int32)), (0, .ref (ad 50)), (1, .int x1), (2, .int x2), (3, .int x3), (4, .int x4), (5, .int x5), (6, .int x6), (7, .int x7)] hl dX12_hazardOf_46 (by decide) rfl (fun ls hl => ?_)
      obtain ⟨w23, hw24, h⟩ := bnd h
      refine zl_X12_hazardOf_48 C F x1 x2 x4 x5 x6 x7 (out := w23) (fun r8 u8 e26 pc ls hd => ?_) (fun v25 e26 ls hl => ?_) F _ _ _ hw24 _ (lv_sub hl [1, 2, 3, 4, 5, 6, 7, 8, 0] rfl)
      · subst e26
        exact K1 _ _ (Option.some.inj h).symm _ _ hd
      · subst e26
        try dsimp only [Sum.elim] at h
        refine z_iinc C (i := 7) (k := 7) (x7 + (1 : Int32)) [(7, .int (x7 + (1 : Int32))), (0, .ref (ad 50)), (1, .int x1), (2, .int x2), (3, .int v25.1), (4, .int x4), (5, .int x5), (6, .int x6), (8, .int v25.2.1)] hl dX12_hazardOf_166 rfl rfl (by decide) rfl (fun ls hl => ?_)
        refine z_goto C 38 dX12_hazardOf_169 (by decide) ?_
        exact ih _ _ _ h _ (lv_sub hl [1, 2, 3, 4, 5, 6, 7, 0] rfl)
set_option maxRecDepth 20000 in
set_option maxHeartbeats 4000000 in
theorem zl_X12_hazardOf_9 {p : Program} {l : Launch} {e : Env} {s : State} {m : MethodId} {args : Array Value} {below : List Frame} {meth : Method} {c : Code} {D : va_G} {cA : Nat → ClassId} {ad : Nat → Nat} {Q : State → Prop} (C : Cx SH p s m args meth c cX12_hazardOf 9 (some .int) RX12 D cA ad (inAd ad)) (F : Nat) (x1 : Int32) (x2 : Int32)  {out : (Int32 × St) ⊕ (Int32 × Int32 × St)} (K1 : ∀ (r : Int32) (u' : St), out = .inl (r, u') → ∀ (pc : Nat) (ls : Array Slot), decode cX12_hazardOf pc = .ok (.ireturn, 1) → Z SH p l e (rmD 2) s m args below meth c D cA ad (inAd ad) 0 0 Q u' pc ls [.int r]) (K : ∀ (v : Int32 × Int32 × St), out = .inr v → ∀ ls : Array Slot, lv_has ls 9 [(0, .ref (ad 50)), (1, .int x1), (2, .int x2), (3, .int v.1), (4, .int v.2.1)] → Z SH p l e (rmD 2) s m args below meth c D cA ad (inAd ad) 0 0 Q v.2.2 178 ls []) : ∀ (k : Nat) (x3 : Int32) (x4 : Int32) (u : St), l_X12_hazardOf_9 F x1 x2 k x3 x4 u = some out → ∀ ls : Array Slot, lv_has ls 9 [(0, .ref (ad 50)), (1, .int x1), (2, .int x2), (3, .int x3), (4, .int x4)] → Z SH p l e (rmD 2) s m args below meth c D cA ad (inAd ad) 0 0 Q u 9 ls [] := by
  intro k
  induction k with
  | zero => intro x3 x4 u h; cases h
  | succ k ih =>
    intro x3 x4 u h ls hl
    replace h : b_X12_hazardOf_9 F x1 x2 (l_X12_hazardOf_9 F x1 x2 k) x3 x4 u = some out := h
    unfold b_X12_hazardOf_9 at h
    refine z_iload C (i := 4) (k := 4) hl dX12_hazardOf_9 rfl ?_
    refine z_aload_n C (i := 0) (k := 0) hl dX12_hazardOf_11 rfl rfl ?_
    refine z_geti C 50 17 fw_X12_123 sh_50 rfl dX12_hazardOf_12 ?_
    refine z_icmp_ge C 178 dX12_hazardOf_15 (by decide) (fun hc32 => ?_) (fun hc32 => ?_)
    · replace h := (if_pos hc32).symm.trans h
      exact K _ (Option.some.inj h).symm _ (lv_sub hl [0, 1, 2, 3, 4] rfl)
    · replace h := (if_neg hc32).symm.trans h
      refine z_aload_n C (i := 0) (k := 0) hl dX12_hazardOf_18 rfl rfl ?_
      refine z_getr C 50 13 60 fw_X12_39 sh_50 rfl dX12_hazardOf_19 ?_
      refine z_iload C (i := 4) (k := 4) hl dX12_hazardOf_22 rfl ?_
      obtain ⟨hi3, h⟩ := gd h
      refine z_iald C 60 4096 sh_60 hi3 dX12_hazardOf_24 ?_
      refine z_istore C (i := 5) [(5, .int (u.1 60 x4.toNatClampNeg)), (0, .ref (ad 50)), (1, .int x1), (2, .int x2), (3, .int x3), (4, .int x4)] hl dX12_hazardOf_25 (by decide) rfl (fun ls hl => ?_)
      refine z_aload_n C (i := 0) (k := 1) hl dX12_hazardOf_27 rfl rfl ?_
      refine z_iload C (i := 5) (k := 0) hl dX12_hazardOf_28 rfl ?_
      obtain ⟨⟨r6, u4⟩, hc5, h⟩ := bnd h
      try dsimp only at h
      refine z_callV C (ci := 12) [.int (u.1 60 x4.toNatClampNeg)] [] [.int r6] (m_X12_askedIn F _ _ _ _ hc5) cw_X12_askedIn vw_X12_askedIn ml_X12_120 sh_50 rfl rfl rfl rfl hl.1 (Nat.le_of_ble_eq_true rfl) ⟨Nat.le_of_ble_eq_true rfl, Nat.le_of_ble_eq_true rfl⟩ ⟨Nat.le_refl _, Nat.le_refl _⟩ rfl dX12_hazardOf_30 ?_
      refine z_istore C (i := 6) [(6, .int r6), (5, .int (u.1 60 x4.toNatClampNeg)), (0, .ref (ad 50)), (1, .int x1), (2, .int x2), (3, .int x3), (4, .int x4)] hl dX12_hazardOf_33 (by decide) rfl (fun ls hl => ?_)
      refine z_iconst C (0 : Int32) dX12_hazardOf_35 (by decide) ?_
      refine z_istore C (i := 7) [(7, .int (0 : Int32)), (6, .int r6), (5, .int (u.1 60 x4.toNatClampNeg)), (0, .ref (ad 50)), (1, .int x1), (2, .int x2), (3, .int x3), (4, .int x4)] hl dX12_hazardOf_36 (by decide) rfl (fun ls hl => ?_)
      obtain ⟨w28, hw29, h⟩ := bnd h
      refine zl_X12_hazardOf_38 C F x1 x2 x4 (u.1 60 x4.toNatClampNeg) r6 (out := w28) (fun r8 u8 e31 pc ls hd => ?_) (fun v30 e31 ls hl => ?_) F _ _ _ hw29 _ (lv_sub hl [3, 4, 5, 6, 7, 2, 1, 0] rfl)
      · subst e31
        exact K1 _ _ (Option.some.inj h).symm _ _ hd
      · subst e31
        try dsimp only [Sum.elim] at h
        refine z_iinc C (i := 4) (k := 4) (x4 + (1 : Int32)) [(4, .int (x4 + (1 : Int32))), (0, .ref (ad 50)), (1, .int x1), (2, .int x2), (3, .int v30.1), (5, .int (u.1 60 x4.toNatClampNeg)), (6, .int r6), (7, .int v30.2.1)] hl dX12_hazardOf_172 rfl rfl (by decide) rfl (fun ls hl => ?_)
        refine z_goto C 9 dX12_hazardOf_175 (by decide) ?_
        exact ih _ _ _ h _ (lv_sub hl [1, 2, 3, 4, 0] rfl)
set_option maxRecDepth 20000 in
set_option maxHeartbeats 4000000 in
theorem m_X12_hazardOf (F : Nat) (x1 : Int32) (x2 : Int32) (u : St) (r : Int32) (u' : St)  (h : f_X12_hazardOf F x1 x2 u = some (r, u')) : Mt yX12_hazardOf cX12_hazardOf 9 (some .int) 2 (fun ad => [.ref (ad 50), .int x1, .int x2]) u (fun _ => some (.int r)) u' := by
  refine Mt.of (by decide) (fun ad => Nat.le_of_ble_eq_true rfl) ?_
  intro p l e s m args below meth c D cA ad ls C hl
  have hl : lv_has ls 9 [(0, .ref (ad 50)), (1, .int x1), (2, .int x2)] := hl
  unfold f_X12_hazardOf at h
  refine z_aload_n C (i := 0) (k := 0) hl dX12_hazardOf_0 rfl rfl ?_
  obtain ⟨u1, hc2, h⟩ := bnd h
  refine z_callV C (ci := 12) [] [] [] (m_X12_walks F  _ _ hc2) cw_X12_walks vw_X12_walks ml_X12_126 sh_50 rfl rfl rfl rfl hl.1 (Nat.le_of_ble_eq_true rfl) ⟨Nat.le_of_ble_eq_true rfl, Nat.le_of_ble_eq_true rfl⟩ ⟨Nat.le_refl _, Nat.le_refl _⟩ rfl dX12_hazardOf_1 ?_
  refine z_iconst C (0 : Int32) dX12_hazardOf_4 (by decide) ?_
  refine z_istore_n C (i := 3) [(3, .int (0 : Int32)), (0, .ref (ad 50)), (1, .int x1), (2, .int x2)] hl dX12_hazardOf_5 rfl (by decide) rfl (fun ls hl => ?_)
  refine z_iconst C (0 : Int32) dX12_hazardOf_6 (by decide) ?_
  refine z_istore C (i := 4) [(4, .int (0 : Int32)), (3, .int (0 : Int32)), (0, .ref (ad 50)), (1, .int x1), (2, .int x2)] hl dX12_hazardOf_7 (by decide) rfl (fun ls hl => ?_)
  obtain ⟨w33, hw34, h⟩ := bnd h
  refine zl_X12_hazardOf_9 C F x1 x2 (out := w33) (fun r8 u8 e36 pc ls hd => ?_) (fun v35 e36 ls hl => ?_) F _ _ _ hw34 _ (lv_sub hl [2, 3, 4, 1, 0] rfl)
  · subst e36
    obtain ⟨rfl, rfl⟩ := r2 h
    exact z_iret C hd
  · subst e36
    try dsimp only [Sum.elim] at h
    refine z_iload_n C (i := 1) (k := 1) hl dX12_hazardOf_178 rfl rfl ?_
    refine z_if_ge C 186 dX12_hazardOf_179 (by decide) (fun hc37 => ?_) (fun hc37 => ?_)
    · replace h := (if_pos hc37).symm.trans h
      refine z_iconst C (-1 : Int32) dX12_hazardOf_186 (by decide) ?_
      obtain ⟨rfl, rfl⟩ := r2 h
      exact z_iret C dX12_hazardOf_187
    · replace h := (if_neg hc37).symm.trans h
      refine z_iload_n C (i := 3) (k := 3) hl dX12_hazardOf_182 rfl rfl ?_
      refine z_goto C 187 dX12_hazardOf_183 (by decide) ?_
      obtain ⟨rfl, rfl⟩ := r2 h
      exact z_iret C dX12_hazardOf_187
def b_X12_stopOf_8 (F : Nat) (x1 : Int32) (rec : Int32 → Int32 → St → Option ((Int32 × St) ⊕ (Int32 × Int32 × St))) (x2 : Int32) (x3 : Int32) (u : St) : Option ((Int32 × St) ⊕ (Int32 × Int32 × St)) := (if (u.1 50 17) ≤ x3 then some (Sum.inr (x2, x3, u)) else (if x3 < 0 ∨ 4096 ≤ x3.toNatClampNeg then none else (Option.bind (f_X12_askedIn F (u.1 60 x3.toNatClampNeg) u) (fun w7 => (if w7.1 = 0 then (if x2 = x1 then (if x3 < 0 ∨ 4096 ≤ x3.toNatClampNeg then none else some (Sum.inl ((w7.2.1 60 x3.toNatClampNeg), w7.2))) else rec ((x2 + (1 : Int32))) ((x3 + (1 : Int32))) w7.2) else rec x2 ((x3 + (1 : Int32))) w7.2)))))
def l_X12_stopOf_8 (F : Nat) (x1 : Int32) : Nat → Int32 → Int32 → St → Option ((Int32 × St) ⊕ (Int32 × Int32 × St))
  | 0, _, _, _ => none
  | k + 1, x2, x3, u => b_X12_stopOf_8 F x1 (l_X12_stopOf_8 F x1 k) x2 x3 u
def f_X12_stopOf (F : Nat) (x1 : Int32) (u : St) : Option (Int32 × St) := (Option.bind (f_X12_walks F u) (fun u1 => (Option.bind (l_X12_stopOf_8 F x1 F (0 : Int32) (0 : Int32) u1) (fun w12 => Sum.elim (fun r => some r) (fun v14 => (if 0 ≤ x1 then some ((-1 : Int32), v14.2.2) else some (v14.1, v14.2.2))) w12))))
set_option maxRecDepth 20000 in
set_option maxHeartbeats 4000000 in
theorem zl_X12_stopOf_8 {p : Program} {l : Launch} {e : Env} {s : State} {m : MethodId} {args : Array Value} {below : List Frame} {meth : Method} {c : Code} {D : va_G} {cA : Nat → ClassId} {ad : Nat → Nat} {Q : State → Prop} (C : Cx SH p s m args meth c cX12_stopOf 4 (some .int) RX12 D cA ad (inAd ad)) (F : Nat) (x1 : Int32)  {out : (Int32 × St) ⊕ (Int32 × Int32 × St)} (K1 : ∀ (r : Int32) (u' : St), out = .inl (r, u') → ∀ (pc : Nat) (ls : Array Slot), decode cX12_stopOf pc = .ok (.ireturn, 1) → Z SH p l e (rmD 2) s m args below meth c D cA ad (inAd ad) 0 0 Q u' pc ls [.int r]) (K : ∀ (v : Int32 × Int32 × St), out = .inr v → ∀ ls : Array Slot, lv_has ls 4 [(0, .ref (ad 50)), (1, .int x1), (2, .int v.1), (3, .int v.2.1)] → Z SH p l e (rmD 2) s m args below meth c D cA ad (inAd ad) 0 0 Q v.2.2 53 ls []) : ∀ (k : Nat) (x2 : Int32) (x3 : Int32) (u : St), l_X12_stopOf_8 F x1 k x2 x3 u = some out → ∀ ls : Array Slot, lv_has ls 4 [(0, .ref (ad 50)), (1, .int x1), (2, .int x2), (3, .int x3)] → Z SH p l e (rmD 2) s m args below meth c D cA ad (inAd ad) 0 0 Q u 8 ls [] := by
  intro k
  induction k with
  | zero => intro x2 x3 u h; cases h
  | succ k ih =>
    intro x2 x3 u h ls hl
    replace h : b_X12_stopOf_8 F x1 (l_X12_stopOf_8 F x1 k) x2 x3 u = some out := h
    unfold b_X12_stopOf_8 at h
    refine z_iload_n C (i := 3) (k := 3) hl dX12_stopOf_8 rfl rfl ?_
    refine z_aload_n C (i := 0) (k := 0) hl dX12_stopOf_9 rfl rfl ?_
    refine z_geti C 50 17 fw_X12_123 sh_50 rfl dX12_stopOf_10 ?_
    refine z_icmp_ge C 53 dX12_stopOf_13 (by decide) (fun hc11 => ?_) (fun hc11 => ?_)
    · replace h := (if_pos hc11).symm.trans h
      exact K _ (Option.some.inj h).symm _ (lv_sub hl [0, 1, 2, 3] rfl)
    · replace h := (if_neg hc11).symm.trans h
      refine z_aload_n C (i := 0) (k := 0) hl dX12_stopOf_16 rfl rfl ?_
      refine z_aload_n C (i := 0) (k := 0) hl dX12_stopOf_17 rfl rfl ?_
      refine z_getr C 50 13 60 fw_X12_39 sh_50 rfl dX12_stopOf_18 ?_
      refine z_iload_n C (i := 3) (k := 3) hl dX12_stopOf_21 rfl rfl ?_
      obtain ⟨hi3, h⟩ := gd h
      refine z_iald C 60 4096 sh_60 hi3 dX12_stopOf_22 ?_
      obtain ⟨⟨r6, u4⟩, hc5, h⟩ := bnd h
      try dsimp only at h
      refine z_callV C (ci := 12) [.int (u.1 60 x3.toNatClampNeg)] [] [.int r6] (m_X12_askedIn F _ _ _ _ hc5) cw_X12_askedIn vw_X12_askedIn ml_X12_120 sh_50 rfl rfl rfl rfl hl.1 (Nat.le_of_ble_eq_true rfl) ⟨Nat.le_of_ble_eq_true rfl, Nat.le_of_ble_eq_true rfl⟩ ⟨Nat.le_refl _, Nat.le_refl _⟩ rfl dX12_stopOf_23 ?_
      refine z_if_eq C 32 dX12_stopOf_26 (by decide) (fun hc10 => ?_) (fun hc10 => ?_)
      · replace h := (if_pos hc10).symm.trans h
        refine z_iload_n C (i := 2) (k := 2) hl dX12_stopOf_32 rfl rfl ?_
        refine z_iload_n C (i := 1) (k := 1) hl dX12_stopOf_33 rfl rfl ?_
        refine z_icmp_ne C 44 dX12_stopOf_34 (by decide) (fun hc9 => ?_) (fun hc9 => ?_)
        · replace h := (if_neg hc9).symm.trans h
          refine z_iinc C (i := 2) (k := 2) (x2 + (1 : Int32)) [(2, .int (x2 + (1 : Int32))), (0, .ref (ad 50)), (1, .int x1), (3, .int x3)] hl dX12_stopOf_44 rfl rfl (by decide) rfl (fun ls hl => ?_)
          refine z_iinc C (i := 3) (k := 3) (x3 + (1 : Int32)) [(3, .int (x3 + (1 : Int32))), (2, .int (x2 + (1 : Int32))), (0, .ref (ad 50)), (1, .int x1)] hl dX12_stopOf_47 rfl rfl (by decide) rfl (fun ls hl => ?_)
          refine z_goto C 8 dX12_stopOf_50 (by decide) ?_
          exact ih _ _ _ h _ (lv_sub hl [2, 3, 1, 0] rfl)
        · replace h := (if_pos hc9).symm.trans h
          refine z_aload_n C (i := 0) (k := 0) hl dX12_stopOf_37 rfl rfl ?_
          refine z_getr C 50 13 60 fw_X12_39 sh_50 rfl dX12_stopOf_38 ?_
          refine z_iload_n C (i := 3) (k := 3) hl dX12_stopOf_41 rfl rfl ?_
          obtain ⟨hi8, h⟩ := gd h
          refine z_iald C 60 4096 sh_60 hi8 dX12_stopOf_42 ?_
          exact K1 _ _ (Option.some.inj h).symm _ _ dX12_stopOf_43
      · replace h := (if_neg hc10).symm.trans h
        refine z_goto C 47 dX12_stopOf_29 (by decide) ?_
        refine z_iinc C (i := 3) (k := 3) (x3 + (1 : Int32)) [(3, .int (x3 + (1 : Int32))), (0, .ref (ad 50)), (1, .int x1), (2, .int x2)] hl dX12_stopOf_47 rfl rfl (by decide) rfl (fun ls hl => ?_)
        refine z_goto C 8 dX12_stopOf_50 (by decide) ?_
        exact ih _ _ _ h _ (lv_sub hl [1, 2, 3, 0] rfl)
set_option maxRecDepth 20000 in
set_option maxHeartbeats 4000000 in
theorem m_X12_stopOf (F : Nat) (x1 : Int32) (u : St) (r : Int32) (u' : St)  (h : f_X12_stopOf F x1 u = some (r, u')) : Mt yX12_stopOf cX12_stopOf 4 (some .int) 2 (fun ad => [.ref (ad 50), .int x1]) u (fun _ => some (.int r)) u' := by
  refine Mt.of (by decide) (fun ad => Nat.le_of_ble_eq_true rfl) ?_
  intro p l e s m args below meth c D cA ad ls C hl
  have hl : lv_has ls 4 [(0, .ref (ad 50)), (1, .int x1)] := hl
  unfold f_X12_stopOf at h
  refine z_aload_n C (i := 0) (k := 0) hl dX12_stopOf_0 rfl rfl ?_
  obtain ⟨u1, hc2, h⟩ := bnd h
  refine z_callV C (ci := 12) [] [] [] (m_X12_walks F  _ _ hc2) cw_X12_walks vw_X12_walks ml_X12_126 sh_50 rfl rfl rfl rfl hl.1 (Nat.le_of_ble_eq_true rfl) ⟨Nat.le_of_ble_eq_true rfl, Nat.le_of_ble_eq_true rfl⟩ ⟨Nat.le_refl _, Nat.le_refl _⟩ rfl dX12_stopOf_1 ?_
  refine z_iconst C (0 : Int32) dX12_stopOf_4 (by decide) ?_
  refine z_istore_n C (i := 2) [(2, .int (0 : Int32)), (0, .ref (ad 50)), (1, .int x1)] hl dX12_stopOf_5 rfl (by decide) rfl (fun ls hl => ?_)
  refine z_iconst C (0 : Int32) dX12_stopOf_6 (by decide) ?_
  refine z_istore_n C (i := 3) [(3, .int (0 : Int32)), (2, .int (0 : Int32)), (0, .ref (ad 50)), (1, .int x1)] hl dX12_stopOf_7 rfl (by decide) rfl (fun ls hl => ?_)
  obtain ⟨w12, hw13, h⟩ := bnd h
  refine zl_X12_stopOf_8 C F x1 (out := w12) (fun r8 u8 e15 pc ls hd => ?_) (fun v14 e15 ls hl => ?_) F _ _ _ hw13 _ (lv_sub hl [2, 3, 1, 0] rfl)
  · subst e15
    obtain ⟨rfl, rfl⟩ := r2 h
    exact z_iret C hd
  · subst e15
    try dsimp only [Sum.elim] at h
    refine z_iload_n C (i := 1) (k := 1) hl dX12_stopOf_53 rfl rfl ?_
    refine z_if_ge C 61 dX12_stopOf_54 (by decide) (fun hc16 => ?_) (fun hc16 => ?_)
    · replace h := (if_pos hc16).symm.trans h
      refine z_iconst C (-1 : Int32) dX12_stopOf_61 (by decide) ?_
      obtain ⟨rfl, rfl⟩ := r2 h
      exact z_iret C dX12_stopOf_62
    · replace h := (if_neg hc16).symm.trans h
      refine z_iload_n C (i := 2) (k := 2) hl dX12_stopOf_57 rfl rfl ?_
      refine z_goto C 62 dX12_stopOf_58 (by decide) ?_
      obtain ⟨rfl, rfl⟩ := r2 h
      exact z_iret C dX12_stopOf_62
def b_X12_count_58 (F : Nat)  (rec : Int32 → Int32 → St → Option (Int32 × Int32 × St)) (x2 : Int32) (x3 : Int32) (u : St) : Option (Int32 × Int32 × St) := (if (12 : Int32) ≤ x3 then some (x2, x3, u) else (if x3 < 0 ∨ 12 ≤ x3.toNatClampNeg then none else (if (u.1 52 x3.toNatClampNeg) = (-1 : Int32) then rec ((x2 + (0 : Int32))) ((x3 + (1 : Int32))) u else rec ((x2 + (1 : Int32))) ((x3 + (1 : Int32))) u)))
def l_X12_count_58 (F : Nat)  : Nat → Int32 → Int32 → St → Option (Int32 × Int32 × St)
  | 0, _, _, _ => none
  | k + 1, x2, x3, u => b_X12_count_58 F  (l_X12_count_58 F  k) x2 x3 u
def b_X12_count_92 (F : Nat)  (rec : Int32 → Int32 → St → Option (Int32 × Int32 × St)) (x2 : Int32) (x3 : Int32) (u : St) : Option (Int32 × Int32 × St) := (if (12 : Int32) ≤ x3 then some (x2, x3, u) else (if x3 < 0 ∨ 12 ≤ x3.toNatClampNeg then none else (if (u.1 52 x3.toNatClampNeg) = (-1 : Int32) then rec ((x2 + (0 : Int32))) ((x3 + (1 : Int32))) u else (if x3 < 0 ∨ 12 ≤ x3.toNatClampNeg then none else rec ((x2 + (u.1 52 x3.toNatClampNeg))) ((x3 + (1 : Int32))) u))))
def l_X12_count_92 (F : Nat)  : Nat → Int32 → Int32 → St → Option (Int32 × Int32 × St)
  | 0, _, _, _ => none
  | k + 1, x2, x3, u => b_X12_count_92 F  (l_X12_count_92 F  k) x2 x3 u
def f_X12_count (F : Nat) (x1 : Int32) (u : St) : Option (Int32 × St) := (if x1 = (0 : Int32) then (Option.bind (l_X12_count_58 F  F (0 : Int32) (0 : Int32) (wr u 50 0 (0 : Int32))) (fun w4 => some (w4.1, w4.2.2))) else if x1 = (1 : Int32) then (Option.bind (l_X12_count_92 F  F (0 : Int32) (0 : Int32) (wr u 50 0 (0 : Int32))) (fun w10 => some (w10.1, w10.2.2))) else if x1 = (2 : Int32) then (Option.bind (f_X12_hazardOf F (-1 : Int32) (0 : Int32) (wr u 50 0 (0 : Int32))) (fun w15 => some (w15.1, w15.2))) else if x1 = (3 : Int32) then (Option.bind (f_X12_stopOf F (-1 : Int32) (wr u 50 0 (0 : Int32))) (fun w19 => some (w19.1, w19.2))) else if x1 = (4 : Int32) then some (((wr u 50 0 (0 : Int32)).1 50 24), (wr u 50 0 (0 : Int32))) else if x1 = (5 : Int32) then some (((wr u 50 0 (0 : Int32)).1 50 25), (wr u 50 0 (0 : Int32))) else if x1 = (6 : Int32) then some (((wr u 50 0 (0 : Int32)).1 50 2), (wr u 50 0 (0 : Int32))) else if x1 = (7 : Int32) then some (((wr u 50 0 (0 : Int32)).1 50 9), (wr u 50 0 (0 : Int32))) else some ((-1 : Int32), (wr u 50 0 (0 : Int32))))
set_option maxRecDepth 20000 in
set_option maxHeartbeats 4000000 in
theorem zl_X12_count_58 {p : Program} {l : Launch} {e : Env} {s : State} {m : MethodId} {args : Array Value} {below : List Frame} {meth : Method} {c : Code} {D : va_G} {cA : Nat → ClassId} {ad : Nat → Nat} {Q : State → Prop} (C : Cx SH p s m args meth c cX12_count 4 (some .int) RX12 D cA ad (inAd ad)) (F : Nat)   {out : Int32 × Int32 × St}  (K : ∀ ls : Array Slot, lv_has ls 4 [(0, .ref (ad 50)), (2, .int out.1), (3, .int out.2.1)] → Z SH p l e (rmD 3) s m args below meth c D cA ad (inAd ad) 0 0 Q out.2.2 88 ls []) : ∀ (k : Nat) (x2 : Int32) (x3 : Int32) (u : St), l_X12_count_58 F  k x2 x3 u = some out → ∀ ls : Array Slot, lv_has ls 4 [(0, .ref (ad 50)), (2, .int x2), (3, .int x3)] → Z SH p l e (rmD 3) s m args below meth c D cA ad (inAd ad) 0 0 Q u 58 ls [] := by
  intro k
  induction k with
  | zero => intro x2 x3 u h; cases h
  | succ k ih =>
    intro x2 x3 u h ls hl
    replace h : b_X12_count_58 F  (l_X12_count_58 F  k) x2 x3 u = some out := h
    unfold b_X12_count_58 at h
    refine z_iload_n C (i := 3) (k := 2) hl dX12_count_58 rfl rfl ?_
    refine z_bipush C (12 : Int32) dX12_count_59 (by decide) ?_
    refine z_icmp_ge C 88 dX12_count_61 (by decide) (fun hc3 => ?_) (fun hc3 => ?_)
    · replace h := (if_pos hc3).symm.trans h
      obtain rfl := Option.some.inj h
      exact K _ (lv_sub hl [0, 1, 2] rfl)
    · replace h := (if_neg hc3).symm.trans h
      refine z_iload_n C (i := 2) (k := 1) hl dX12_count_64 rfl rfl ?_
      refine z_aload_n C (i := 0) (k := 0) hl dX12_count_65 rfl rfl ?_
      refine z_getr C 50 3 52 fw_X12_13 sh_50 rfl dX12_count_66 ?_
      refine z_iload_n C (i := 3) (k := 2) hl dX12_count_69 rfl rfl ?_
      obtain ⟨hi1, h⟩ := gd h
      refine z_iald C 52 12 sh_52 hi1 dX12_count_70 ?_
      refine z_iconst C (-1 : Int32) dX12_count_71 (by decide) ?_
      refine z_icmp_eq C 79 dX12_count_72 (by decide) (fun hc2 => ?_) (fun hc2 => ?_)
      · replace h := (if_pos hc2).symm.trans h
        refine z_iconst C (0 : Int32) dX12_count_79 (by decide) ?_
        refine z_iadd C dX12_count_80 ?_
        refine z_istore_n C (i := 2) [(2, .int (x2 + (0 : Int32))), (0, .ref (ad 50)), (3, .int x3)] hl dX12_count_81 rfl (by decide) rfl (fun ls hl => ?_)
        refine z_iinc C (i := 3) (k := 2) (x3 + (1 : Int32)) [(3, .int (x3 + (1 : Int32))), (2, .int (x2 + (0 : Int32))), (0, .ref (ad 50))] hl dX12_count_82 rfl rfl (by decide) rfl (fun ls hl => ?_)
        refine z_goto C 58 dX12_count_85 (by decide) ?_
        exact ih _ _ _ h _ (lv_sub hl [2, 1, 0] rfl)
      · replace h := (if_neg hc2).symm.trans h
        refine z_iconst C (1 : Int32) dX12_count_75 (by decide) ?_
        refine z_goto C 80 dX12_count_76 (by decide) ?_
        refine z_iadd C dX12_count_80 ?_
        refine z_istore_n C (i := 2) [(2, .int (x2 + (1 : Int32))), (0, .ref (ad 50)), (3, .int x3)] hl dX12_count_81 rfl (by decide) rfl (fun ls hl => ?_)
        refine z_iinc C (i := 3) (k := 2) (x3 + (1 : Int32)) [(3, .int (x3 + (1 : Int32))), (2, .int (x2 + (1 : Int32))), (0, .ref (ad 50))] hl dX12_count_82 rfl rfl (by decide) rfl (fun ls hl => ?_)
        refine z_goto C 58 dX12_count_85 (by decide) ?_
        exact ih _ _ _ h _ (lv_sub hl [2, 1, 0] rfl)
set_option maxRecDepth 20000 in
set_option maxHeartbeats 4000000 in
theorem zl_X12_count_92 {p : Program} {l : Launch} {e : Env} {s : State} {m : MethodId} {args : Array Value} {below : List Frame} {meth : Method} {c : Code} {D : va_G} {cA : Nat → ClassId} {ad : Nat → Nat} {Q : State → Prop} (C : Cx SH p s m args meth c cX12_count 4 (some .int) RX12 D cA ad (inAd ad)) (F : Nat)   {out : Int32 × Int32 × St}  (K : ∀ ls : Array Slot, lv_has ls 4 [(0, .ref (ad 50)), (2, .int out.1), (3, .int out.2.1)] → Z SH p l e (rmD 3) s m args below meth c D cA ad (inAd ad) 0 0 Q out.2.2 127 ls []) : ∀ (k : Nat) (x2 : Int32) (x3 : Int32) (u : St), l_X12_count_92 F  k x2 x3 u = some out → ∀ ls : Array Slot, lv_has ls 4 [(0, .ref (ad 50)), (2, .int x2), (3, .int x3)] → Z SH p l e (rmD 3) s m args below meth c D cA ad (inAd ad) 0 0 Q u 92 ls [] := by
  intro k
  induction k with
  | zero => intro x2 x3 u h; cases h
  | succ k ih =>
    intro x2 x3 u h ls hl
    replace h : b_X12_count_92 F  (l_X12_count_92 F  k) x2 x3 u = some out := h
    unfold b_X12_count_92 at h
    refine z_iload_n C (i := 3) (k := 2) hl dX12_count_92 rfl rfl ?_
    refine z_bipush C (12 : Int32) dX12_count_93 (by decide) ?_
    refine z_icmp_ge C 127 dX12_count_95 (by decide) (fun hc9 => ?_) (fun hc9 => ?_)
    · replace h := (if_pos hc9).symm.trans h
      obtain rfl := Option.some.inj h
      exact K _ (lv_sub hl [0, 1, 2] rfl)
    · replace h := (if_neg hc9).symm.trans h
      refine z_iload_n C (i := 2) (k := 1) hl dX12_count_98 rfl rfl ?_
      refine z_aload_n C (i := 0) (k := 0) hl dX12_count_99 rfl rfl ?_
      refine z_getr C 50 3 52 fw_X12_13 sh_50 rfl dX12_count_100 ?_
      refine z_iload_n C (i := 3) (k := 2) hl dX12_count_103 rfl rfl ?_
      obtain ⟨hi6, h⟩ := gd h
      refine z_iald C 52 12 sh_52 hi6 dX12_count_104 ?_
      refine z_iconst C (-1 : Int32) dX12_count_105 (by decide) ?_
      refine z_icmp_eq C 118 dX12_count_106 (by decide) (fun hc8 => ?_) (fun hc8 => ?_)
      · replace h := (if_pos hc8).symm.trans h
        refine z_iconst C (0 : Int32) dX12_count_118 (by decide) ?_
        refine z_iadd C dX12_count_119 ?_
        refine z_istore_n C (i := 2) [(2, .int (x2 + (0 : Int32))), (0, .ref (ad 50)), (3, .int x3)] hl dX12_count_120 rfl (by decide) rfl (fun ls hl => ?_)
        refine z_iinc C (i := 3) (k := 2) (x3 + (1 : Int32)) [(3, .int (x3 + (1 : Int32))), (2, .int (x2 + (0 : Int32))), (0, .ref (ad 50))] hl dX12_count_121 rfl rfl (by decide) rfl (fun ls hl => ?_)
        refine z_goto C 92 dX12_count_124 (by decide) ?_
        exact ih _ _ _ h _ (lv_sub hl [2, 1, 0] rfl)
      · replace h := (if_neg hc8).symm.trans h
        refine z_aload_n C (i := 0) (k := 0) hl dX12_count_109 rfl rfl ?_
        refine z_getr C 50 3 52 fw_X12_13 sh_50 rfl dX12_count_110 ?_
        refine z_iload_n C (i := 3) (k := 2) hl dX12_count_113 rfl rfl ?_
        obtain ⟨hi7, h⟩ := gd h
        refine z_iald C 52 12 sh_52 hi7 dX12_count_114 ?_
        refine z_goto C 119 dX12_count_115 (by decide) ?_
        refine z_iadd C dX12_count_119 ?_
        refine z_istore_n C (i := 2) [(2, .int (x2 + (u.1 52 x3.toNatClampNeg))), (0, .ref (ad 50)), (3, .int x3)] hl dX12_count_120 rfl (by decide) rfl (fun ls hl => ?_)
        refine z_iinc C (i := 3) (k := 2) (x3 + (1 : Int32)) [(3, .int (x3 + (1 : Int32))), (2, .int (x2 + (u.1 52 x3.toNatClampNeg))), (0, .ref (ad 50))] hl dX12_count_121 rfl rfl (by decide) rfl (fun ls hl => ?_)
        refine z_goto C 92 dX12_count_124 (by decide) ?_
        exact ih _ _ _ h _ (lv_sub hl [2, 1, 0] rfl)
set_option maxRecDepth 20000 in
set_option maxHeartbeats 4000000 in
theorem m_X12_count (F : Nat) (x1 : Int32) (u : St) (r : Int32) (u' : St)  (h : f_X12_count F x1 u = some (r, u')) : Mt yX12_count cX12_count 4 (some .int) 3 (fun ad => [.ref (ad 50), .int x1]) u (fun _ => some (.int r)) u' := by
  refine Mt.of (by decide) (fun ad => Nat.le_of_ble_eq_true rfl) ?_
  intro p l e s m args below meth c D cA ad ls C hl
  have hl : lv_has ls 4 [(0, .ref (ad 50)), (1, .int x1)] := hl
  unfold f_X12_count at h
  refine z_aload_n C (i := 0) (k := 0) hl dX12_count_0 rfl rfl ?_
  refine z_iconst C (0 : Int32) dX12_count_1 (by decide) ?_
  refine z_puti C 50 0 pw_X12_75 sh_50 rfl dX12_count_2 ?_
  refine z_iconst C (0 : Int32) dX12_count_5 (by decide) ?_
  refine z_istore_n C (i := 2) [(2, .int (0 : Int32)), (0, .ref (ad 50)), (1, .int x1)] hl dX12_count_6 rfl (by decide) rfl (fun ls hl => ?_)
  refine z_iload_n C (i := 1) (k := 2) hl dX12_count_7 rfl rfl ?_
  by_cases hs0 : x1 = (0 : Int32)
  · replace h := (if_pos hs0).symm.trans h
    refine z_tIn C (off := 48) 56 dX12_count_8 (by rw [hs0]; decide) (by rw [hs0]; decide) (by rw [hs0]; rfl) (by decide) ?_
    refine z_iconst C (0 : Int32) dX12_count_56 (by decide) ?_
    refine z_istore_n C (i := 3) [(3, .int (0 : Int32)), (2, .int (0 : Int32)), (0, .ref (ad 50)), (1, .int x1)] hl dX12_count_57 rfl (by decide) rfl (fun ls hl => ?_)
    obtain ⟨w4, hw5, h⟩ := bnd h
    refine zl_X12_count_58 C F (out := w4) (fun ls hl => ?_) F _ _ _ hw5 _ (lv_sub hl [2, 1, 0] rfl)
    refine z_iload_n C (i := 2) (k := 1) hl dX12_count_88 rfl rfl ?_
    obtain ⟨rfl, rfl⟩ := r2 h
    exact z_iret C dX12_count_89
  replace h := (if_neg hs0).symm.trans h
  by_cases hs1 : x1 = (1 : Int32)
  · replace h := (if_pos hs1).symm.trans h
    refine z_tIn C (off := 82) 90 dX12_count_8 (by rw [hs1]; decide) (by rw [hs1]; decide) (by rw [hs1]; rfl) (by decide) ?_
    refine z_iconst C (0 : Int32) dX12_count_90 (by decide) ?_
    refine z_istore_n C (i := 3) [(3, .int (0 : Int32)), (2, .int (0 : Int32)), (0, .ref (ad 50)), (1, .int x1)] hl dX12_count_91 rfl (by decide) rfl (fun ls hl => ?_)
    obtain ⟨w10, hw11, h⟩ := bnd h
    refine zl_X12_count_92 C F (out := w10) (fun ls hl => ?_) F _ _ _ hw11 _ (lv_sub hl [2, 1, 0] rfl)
    refine z_iload_n C (i := 2) (k := 1) hl dX12_count_127 rfl rfl ?_
    obtain ⟨rfl, rfl⟩ := r2 h
    exact z_iret C dX12_count_128
  replace h := (if_neg hs1).symm.trans h
  by_cases hs2 : x1 = (2 : Int32)
  · replace h := (if_pos hs2).symm.trans h
    refine z_tIn C (off := 121) 129 dX12_count_8 (by rw [hs2]; decide) (by rw [hs2]; decide) (by rw [hs2]; rfl) (by decide) ?_
    refine z_aload_n C (i := 0) (k := 1) hl dX12_count_129 rfl rfl ?_
    refine z_iconst C (-1 : Int32) dX12_count_130 (by decide) ?_
    refine z_iconst C (0 : Int32) dX12_count_131 (by decide) ?_
    obtain ⟨⟨r14, u12⟩, hc13, h⟩ := bnd h
    try dsimp only at h
    refine z_callV C (ci := 12) [.int (-1 : Int32), .int (0 : Int32)] [] [.int r14] (m_X12_hazardOf F _ _ _ _ _ hc13) cw_X12_hazardOf vw_X12_hazardOf ml_X12_129 sh_50 rfl rfl rfl rfl hl.1 (Nat.le_of_ble_eq_true rfl) ⟨Nat.le_of_ble_eq_true rfl, Nat.le_of_ble_eq_true rfl⟩ ⟨Nat.le_refl _, Nat.le_refl _⟩ rfl dX12_count_132 ?_
    obtain ⟨rfl, rfl⟩ := r2 h
    exact z_iret C dX12_count_135
  replace h := (if_neg hs2).symm.trans h
  by_cases hs3 : x1 = (3 : Int32)
  · replace h := (if_pos hs3).symm.trans h
    refine z_tIn C (off := 128) 136 dX12_count_8 (by rw [hs3]; decide) (by rw [hs3]; decide) (by rw [hs3]; rfl) (by decide) ?_
    refine z_aload_n C (i := 0) (k := 1) hl dX12_count_136 rfl rfl ?_
    refine z_iconst C (-1 : Int32) dX12_count_137 (by decide) ?_
    obtain ⟨⟨r18, u16⟩, hc17, h⟩ := bnd h
    try dsimp only at h
    refine z_callV C (ci := 12) [.int (-1 : Int32)] [] [.int r18] (m_X12_stopOf F _ _ _ _ hc17) cw_X12_stopOf vw_X12_stopOf ml_X12_133 sh_50 rfl rfl rfl rfl hl.1 (Nat.le_of_ble_eq_true rfl) ⟨Nat.le_of_ble_eq_true rfl, Nat.le_of_ble_eq_true rfl⟩ ⟨Nat.le_refl _, Nat.le_refl _⟩ rfl dX12_count_138 ?_
    obtain ⟨rfl, rfl⟩ := r2 h
    exact z_iret C dX12_count_141
  replace h := (if_neg hs3).symm.trans h
  by_cases hs4 : x1 = (4 : Int32)
  · replace h := (if_pos hs4).symm.trans h
    refine z_tIn C (off := 134) 142 dX12_count_8 (by rw [hs4]; decide) (by rw [hs4]; decide) (by rw [hs4]; rfl) (by decide) ?_
    refine z_aload_n C (i := 0) (k := 1) hl dX12_count_142 rfl rfl ?_
    refine z_geti C 50 24 fw_X12_156 sh_50 rfl dX12_count_143 ?_
    obtain ⟨rfl, rfl⟩ := r2 h
    exact z_iret C dX12_count_146
  replace h := (if_neg hs4).symm.trans h
  by_cases hs5 : x1 = (5 : Int32)
  · replace h := (if_pos hs5).symm.trans h
    refine z_tIn C (off := 139) 147 dX12_count_8 (by rw [hs5]; decide) (by rw [hs5]; decide) (by rw [hs5]; rfl) (by decide) ?_
    refine z_aload_n C (i := 0) (k := 1) hl dX12_count_147 rfl rfl ?_
    refine z_geti C 50 25 fw_X12_159 sh_50 rfl dX12_count_148 ?_
    obtain ⟨rfl, rfl⟩ := r2 h
    exact z_iret C dX12_count_151
  replace h := (if_neg hs5).symm.trans h
  by_cases hs6 : x1 = (6 : Int32)
  · replace h := (if_pos hs6).symm.trans h
    refine z_tIn C (off := 144) 152 dX12_count_8 (by rw [hs6]; decide) (by rw [hs6]; decide) (by rw [hs6]; rfl) (by decide) ?_
    refine z_aload_n C (i := 0) (k := 1) hl dX12_count_152 rfl rfl ?_
    refine z_geti C 50 2 fw_X12_79 sh_50 rfl dX12_count_153 ?_
    obtain ⟨rfl, rfl⟩ := r2 h
    exact z_iret C dX12_count_156
  replace h := (if_neg hs6).symm.trans h
  by_cases hs7 : x1 = (7 : Int32)
  · replace h := (if_pos hs7).symm.trans h
    refine z_tIn C (off := 149) 157 dX12_count_8 (by rw [hs7]; decide) (by rw [hs7]; decide) (by rw [hs7]; rfl) (by decide) ?_
    refine z_aload_n C (i := 0) (k := 1) hl dX12_count_157 rfl rfl ?_
    refine z_geti C 50 9 fw_X12_114 sh_50 rfl dX12_count_158 ?_
    obtain ⟨rfl, rfl⟩ := r2 h
    exact z_iret C dX12_count_161
  replace h := (if_neg hs7).symm.trans h
  refine z_tOut C 162 dX12_count_8 (tsw8 hs0 hs1 hs2 hs3 hs4 hs5 hs6 hs7) (by decide) ?_
  refine z_iconst C (-1 : Int32) dX12_count_162 (by decide) ?_
  obtain ⟨rfl, rfl⟩ := r2 h
  exact z_iret C dX12_count_163
def f_X12_ring (F : Nat) (x1 : Int32) (x2 : Int32) (u : St) : Option (St) := (if x2 = 0 then some (wr (wr u 50 27 ((u.1 50 27) + (1 : Int32))) 50 26 (1 : Int32)) else (if 0 < (lg_cmp ((x1.toInt64) * ((wr u 50 27 ((u.1 50 27) + (1 : Int32))).2 50 29)) (((wr u 50 27 ((u.1 50 27) + (1 : Int32))).2 50 28) * (x2.toInt64))) then some (wl (wl (wr u 50 27 ((u.1 50 27) + (1 : Int32))) 50 28 (x1.toInt64)) 50 29 (x2.toInt64)) else (if 0 ≤ (lg_cmp ((wr u 50 27 ((u.1 50 27) + (1 : Int32))).2 50 28) (0 : Int64)) then some (wr u 50 27 ((u.1 50 27) + (1 : Int32))) else some (wl (wl (wr u 50 27 ((u.1 50 27) + (1 : Int32))) 50 28 (x1.toInt64)) 50 29 (x2.toInt64)))))
set_option maxRecDepth 20000 in
set_option maxHeartbeats 4000000 in
theorem m_X12_ring (F : Nat) (x1 : Int32) (x2 : Int32) (u : St) (u' : St)  (h : f_X12_ring F x1 x2 u = some u') : Mt yX12_ring cX12_ring 3 none 0 (fun ad => [.ref (ad 50), .int x1, .int x2]) u (fun _ => none) u' := by
  refine Mt.of (by decide) (fun ad => Nat.le_of_ble_eq_true rfl) ?_
  intro p l e s m args below meth c D cA ad ls C hl
  have hl : lv_has ls 3 [(0, .ref (ad 50)), (1, .int x1), (2, .int x2)] := hl
  unfold f_X12_ring at h
  refine z_aload_n C (i := 0) (k := 0) hl dX12_ring_0 rfl rfl ?_
  refine z_dup C dX12_ring_1 rfl ?_
  refine z_geti C 50 27 fw_X12_170 sh_50 rfl dX12_ring_2 ?_
  refine z_iconst C (1 : Int32) dX12_ring_5 (by decide) ?_
  refine z_iadd C dX12_ring_6 ?_
  refine z_puti C 50 27 pw_X12_170 sh_50 rfl dX12_ring_7 ?_
  refine z_iload_n C (i := 2) (k := 2) hl dX12_ring_10 rfl rfl ?_
  refine z_if_ne C 22 dX12_ring_11 (by decide) (fun hc3 => ?_) (fun hc3 => ?_)
  · replace h := (if_neg hc3).symm.trans h
    refine z_iload_n C (i := 1) (k := 1) hl dX12_ring_22 rfl rfl ?_
    refine z_i2l C dX12_ring_23 ?_
    refine z_aload_n C (i := 0) (k := 0) hl dX12_ring_24 rfl rfl ?_
    refine z_getl C 50 29 fw_X12_177 sh_50 rfl dX12_ring_25 ?_
    refine z_lmul C dX12_ring_28 ?_
    refine z_aload_n C (i := 0) (k := 0) hl dX12_ring_29 rfl rfl ?_
    refine z_getl C 50 28 fw_X12_181 sh_50 rfl dX12_ring_30 ?_
    refine z_iload_n C (i := 2) (k := 2) hl dX12_ring_33 rfl rfl ?_
    refine z_i2l C dX12_ring_34 ?_
    refine z_lmul C dX12_ring_35 ?_
    refine z_lcmp C dX12_ring_36 ?_
    refine z_if_gt C 49 dX12_ring_37 (by decide) (fun hc2 => ?_) (fun hc2 => ?_)
    · replace h := (if_pos hc2).symm.trans h
      refine z_aload_n C (i := 0) (k := 0) hl dX12_ring_49 rfl rfl ?_
      refine z_iload_n C (i := 1) (k := 1) hl dX12_ring_50 rfl rfl ?_
      refine z_i2l C dX12_ring_51 ?_
      refine z_putl C 50 28 pw_X12_181 sh_50 rfl dX12_ring_52 ?_
      refine z_aload_n C (i := 0) (k := 0) hl dX12_ring_55 rfl rfl ?_
      refine z_iload_n C (i := 2) (k := 2) hl dX12_ring_56 rfl rfl ?_
      refine z_i2l C dX12_ring_57 ?_
      refine z_putl C 50 29 pw_X12_177 sh_50 rfl dX12_ring_58 ?_
      obtain rfl := Option.some.inj h
      exact z_vret C dX12_ring_61
    · replace h := (if_neg hc2).symm.trans h
      refine z_aload_n C (i := 0) (k := 0) hl dX12_ring_40 rfl rfl ?_
      refine z_getl C 50 28 fw_X12_181 sh_50 rfl dX12_ring_41 ?_
      refine z_lconst C (0 : Int64) dX12_ring_44 (by decide) ?_
      refine z_lcmp C dX12_ring_45 ?_
      refine z_if_ge C 61 dX12_ring_46 (by decide) (fun hc1 => ?_) (fun hc1 => ?_)
      · replace h := (if_pos hc1).symm.trans h
        obtain rfl := Option.some.inj h
        exact z_vret C dX12_ring_61
      · replace h := (if_neg hc1).symm.trans h
        refine z_aload_n C (i := 0) (k := 0) hl dX12_ring_49 rfl rfl ?_
        refine z_iload_n C (i := 1) (k := 1) hl dX12_ring_50 rfl rfl ?_
        refine z_i2l C dX12_ring_51 ?_
        refine z_putl C 50 28 pw_X12_181 sh_50 rfl dX12_ring_52 ?_
        refine z_aload_n C (i := 0) (k := 0) hl dX12_ring_55 rfl rfl ?_
        refine z_iload_n C (i := 2) (k := 2) hl dX12_ring_56 rfl rfl ?_
        refine z_i2l C dX12_ring_57 ?_
        refine z_putl C 50 29 pw_X12_177 sh_50 rfl dX12_ring_58 ?_
        obtain rfl := Option.some.inj h
        exact z_vret C dX12_ring_61
  · replace h := (if_pos hc3).symm.trans h
    refine z_aload_n C (i := 0) (k := 0) hl dX12_ring_14 rfl rfl ?_
    refine z_iconst C (1 : Int32) dX12_ring_15 (by decide) ?_
    refine z_putz C 50 26 pw_X12_173 (by decide) sh_50 rfl dX12_ring_16 ?_
    refine z_goto C 61 dX12_ring_19 (by decide) ?_
    obtain rfl := Option.some.inj h
    exact z_vret C dX12_ring_61
def b_X12_round_3 (F : Nat) (self : Int32 → Int32 → Int32 → Int32 → Int32 → St → Option St) (x1 : Int32) (x2 : Int32) (x3 : Int32) (x4 : Int32) (x5 : Int32) (rec : Int32 → St → Option (Int32 × St)) (x6 : Int32) (u : St) : Option (Int32 × St) := (if (u.1 50 25) ≤ x6 then some (x6, u) else (if x6 < 0 ∨ 20 ≤ x6.toNatClampNeg then none else (if (u.1 67 x6.toNatClampNeg) = x2 then (if x6 < 0 ∨ 20 ≤ x6.toNatClampNeg then none else (if x1 ≤ (u.1 68 x6.toNatClampNeg) then (if x6 < 0 ∨ 20 ≤ x6.toNatClampNeg then none else (if (u.1 68 x6.toNatClampNeg) = x1 then (if x6 < 0 ∨ 20 ≤ x6.toNatClampNeg then none else (Option.bind (f_X12_ring F x4 (x5 + (u.1 69 x6.toNatClampNeg)) u) (fun u10 => rec ((x6 + (1 : Int32))) u10))) else (if ((x3 >>> ((u.1 68 x6.toNatClampNeg) &&& 31)) &&& (1 : Int32)) = 0 then (if (u.1 68 x6.toNatClampNeg) < 0 ∨ 10 ≤ (u.1 68 x6.toNatClampNeg).toNatClampNeg then none else (if x6 < 0 ∨ 20 ≤ x6.toNatClampNeg then none else (Option.bind (self x1 (u.1 68 x6.toNatClampNeg) (x3 ||| ((1 : Int32) <<< ((u.1 68 x6.toNatClampNeg) &&& 31))) (x4 + (u.1 66 (u.1 68 x6.toNatClampNeg).toNatClampNeg)) (x5 + (u.1 69 x6.toNatClampNeg)) u) (fun u6 => rec ((x6 + (1 : Int32))) u6)))) else rec ((x6 + (1 : Int32))) u))) else rec ((x6 + (1 : Int32))) u)) else rec ((x6 + (1 : Int32))) u)))
def l_X12_round_3 (F : Nat) (self : Int32 → Int32 → Int32 → Int32 → Int32 → St → Option St) (x1 : Int32) (x2 : Int32) (x3 : Int32) (x4 : Int32) (x5 : Int32) : Nat → Int32 → St → Option (Int32 × St)
  | 0, _, _ => none
  | k + 1, x6, u => b_X12_round_3 F self x1 x2 x3 x4 x5 (l_X12_round_3 F self x1 x2 x3 x4 x5 k) x6 u
def g_X12_round (F : Nat) (self : Int32 → Int32 → Int32 → Int32 → Int32 → St → Option St) (x1 : Int32) (x2 : Int32) (x3 : Int32) (x4 : Int32) (x5 : Int32) (u : St) : Option St := (Option.bind (l_X12_round_3 F self x1 x2 x3 x4 x5 F (0 : Int32) u) (fun w16 => some w16.2))
def f_X12_round (F : Nat) : Nat → Int32 → Int32 → Int32 → Int32 → Int32 → St → Option St
  | 0, _, _, _, _, _, _ => none
  | n + 1, x1, x2, x3, x4, x5, u => g_X12_round F (f_X12_round F n) x1 x2 x3 x4 x5 u
set_option maxRecDepth 20000 in
set_option maxHeartbeats 4000000 in
theorem zl_X12_round_3 {p : Program} {l : Launch} {e : Env} {s : State} {m : MethodId} {args : Array Value} {below : List Frame} {meth : Method} {c : Code} {D : va_G} {cA : Nat → ClassId} {ad : Nat → Nat} {Q : State → Prop} (C : Cx SH p s m args meth c cX12_round 8 none RX12 D cA ad (inAd ad)) (F : Nat) (n : Nat) (self : Int32 → Int32 → Int32 → Int32 → Int32 → St → Option St) (hself : ∀ (y1 y2 y3 y4 y5 : Int32) (v v' : St), self y1 y2 y3 y4 y5 v = some v' → Mt yX12_round cX12_round 8 none n (fun ad => [.ref (ad 50), .int y1, .int y2, .int y3, .int y4, .int y5]) v (fun _ => none) v') (x1 : Int32) (x2 : Int32) (x3 : Int32) (x4 : Int32) (x5 : Int32)  {out : Int32 × St}  (K : ∀ ls : Array Slot, lv_has ls 8 [(0, .ref (ad 50)), (1, .int x1), (2, .int x2), (3, .int x3), (4, .int x4), (5, .int x5), (6, .int out.1)] → Z SH p l e (rmD (n + 1)) s m args below meth c D cA ad (inAd ad) 0 0 Q out.2 119 ls []) : ∀ (k : Nat) (x6 : Int32) (u : St), l_X12_round_3 F self x1 x2 x3 x4 x5 k x6 u = some out → ∀ ls : Array Slot, lv_has ls 8 [(0, .ref (ad 50)), (1, .int x1), (2, .int x2), (3, .int x3), (4, .int x4), (5, .int x5), (6, .int x6)] → Z SH p l e (rmD (n + 1)) s m args below meth c D cA ad (inAd ad) 0 0 Q u 3 ls [] := by
  intro k
  induction k with
  | zero => intro x6 u h; cases h
  | succ k ih =>
    intro x6 u h ls hl
    replace h : b_X12_round_3 F self x1 x2 x3 x4 x5 (l_X12_round_3 F self x1 x2 x3 x4 x5 k) x6 u = some out := h
    unfold b_X12_round_3 at h
    refine z_iload C (i := 6) (k := 6) hl dX12_round_3 rfl ?_
    refine z_aload_n C (i := 0) (k := 0) hl dX12_round_5 rfl rfl ?_
    refine z_geti C 50 25 fw_X12_159 sh_50 rfl dX12_round_6 ?_
    refine z_icmp_ge C 119 dX12_round_9 (by decide) (fun hc15 => ?_) (fun hc15 => ?_)
    · replace h := (if_pos hc15).symm.trans h
      obtain rfl := Option.some.inj h
      exact K _ (lv_sub hl [0, 1, 2, 3, 4, 5, 6] rfl)
    · replace h := (if_neg hc15).symm.trans h
      refine z_aload_n C (i := 0) (k := 0) hl dX12_round_12 rfl rfl ?_
      refine z_getr C 50 21 67 fw_X12_60 sh_50 rfl dX12_round_13 ?_
      refine z_iload C (i := 6) (k := 6) hl dX12_round_16 rfl ?_
      obtain ⟨hi1, h⟩ := gd h
      refine z_iald C 67 20 sh_67 hi1 dX12_round_18 ?_
      refine z_iload_n C (i := 2) (k := 2) hl dX12_round_19 rfl rfl ?_
      refine z_icmp_ne C 113 dX12_round_20 (by decide) (fun hc14 => ?_) (fun hc14 => ?_)
      · replace h := (if_neg hc14).symm.trans h
        refine z_iinc C (i := 6) (k := 6) (x6 + (1 : Int32)) [(6, .int (x6 + (1 : Int32))), (0, .ref (ad 50)), (1, .int x1), (2, .int x2), (3, .int x3), (4, .int x4), (5, .int x5)] hl dX12_round_113 rfl rfl (by decide) rfl (fun ls hl => ?_)
        refine z_goto C 3 dX12_round_116 (by decide) ?_
        exact ih _ _ h _ (lv_sub hl [1, 2, 3, 4, 5, 6, 0] rfl)
      · replace h := (if_pos hc14).symm.trans h
        refine z_aload_n C (i := 0) (k := 0) hl dX12_round_23 rfl rfl ?_
        refine z_getr C 50 22 68 fw_X12_63 sh_50 rfl dX12_round_24 ?_
        refine z_iload C (i := 6) (k := 6) hl dX12_round_27 rfl ?_
        obtain ⟨hi2, h⟩ := gd h
        refine z_iald C 68 20 sh_68 hi2 dX12_round_29 ?_
        refine z_iload_n C (i := 1) (k := 1) hl dX12_round_30 rfl rfl ?_
        refine z_icmp_ge C 37 dX12_round_31 (by decide) (fun hc13 => ?_) (fun hc13 => ?_)
        · replace h := (if_pos hc13).symm.trans h
          refine z_aload_n C (i := 0) (k := 0) hl dX12_round_37 rfl rfl ?_
          refine z_getr C 50 22 68 fw_X12_63 sh_50 rfl dX12_round_38 ?_
          refine z_iload C (i := 6) (k := 6) hl dX12_round_41 rfl ?_
          obtain ⟨hi3, h⟩ := gd h
          refine z_iald C 68 20 sh_68 hi3 dX12_round_43 ?_
          refine z_istore C (i := 7) [(7, .int (u.1 68 x6.toNatClampNeg)), (0, .ref (ad 50)), (1, .int x1), (2, .int x2), (3, .int x3), (4, .int x4), (5, .int x5), (6, .int x6)] hl dX12_round_44 (by decide) rfl (fun ls hl => ?_)
          refine z_iload C (i := 7) (k := 0) hl dX12_round_46 rfl ?_
          refine z_iload_n C (i := 1) (k := 2) hl dX12_round_48 rfl rfl ?_
          refine z_icmp_ne C 71 dX12_round_49 (by decide) (fun hc12 => ?_) (fun hc12 => ?_)
          · replace h := (if_neg hc12).symm.trans h
            refine z_iload_n C (i := 3) (k := 4) hl dX12_round_71 rfl rfl ?_
            refine z_iload C (i := 7) (k := 0) hl dX12_round_72 rfl ?_
            refine z_ishr C dX12_round_74 ?_
            refine z_iconst C (1 : Int32) dX12_round_75 (by decide) ?_
            refine z_iand C dX12_round_76 ?_
            refine z_if_ne C 113 dX12_round_77 (by decide) (fun hc8 => ?_) (fun hc8 => ?_)
            · replace h := (if_neg hc8).symm.trans h
              refine z_iinc C (i := 6) (k := 7) (x6 + (1 : Int32)) [(6, .int (x6 + (1 : Int32))), (7, .int (u.1 68 x6.toNatClampNeg)), (0, .ref (ad 50)), (1, .int x1), (2, .int x2), (3, .int x3), (4, .int x4), (5, .int x5)] hl dX12_round_113 rfl rfl (by decide) rfl (fun ls hl => ?_)
              refine z_goto C 3 dX12_round_116 (by decide) ?_
              exact ih _ _ h _ (lv_sub hl [2, 3, 4, 5, 6, 7, 0] rfl)
            · replace h := (if_pos hc8).symm.trans h
              refine z_aload_n C (i := 0) (k := 1) hl dX12_round_80 rfl rfl ?_
              refine z_iload_n C (i := 1) (k := 2) hl dX12_round_81 rfl rfl ?_
              refine z_iload C (i := 7) (k := 0) hl dX12_round_82 rfl ?_
              refine z_iload_n C (i := 3) (k := 4) hl dX12_round_84 rfl rfl ?_
              refine z_iconst C (1 : Int32) dX12_round_85 (by decide) ?_
              refine z_iload C (i := 7) (k := 0) hl dX12_round_86 rfl ?_
              refine z_ishl C dX12_round_88 ?_
              refine z_ior C dX12_round_89 ?_
              refine z_iload C (i := 4) (k := 5) hl dX12_round_90 rfl ?_
              refine z_aload_n C (i := 0) (k := 1) hl dX12_round_92 rfl rfl ?_
              refine z_getr C 50 20 66 fw_X12_57 sh_50 rfl dX12_round_93 ?_
              refine z_iload C (i := 7) (k := 0) hl dX12_round_96 rfl ?_
              obtain ⟨hi4, h⟩ := gd h
              refine z_iald C 66 10 sh_66 hi4 dX12_round_98 ?_
              refine z_iadd C dX12_round_99 ?_
              refine z_iload C (i := 5) (k := 6) hl dX12_round_100 rfl ?_
              refine z_aload_n C (i := 0) (k := 1) hl dX12_round_102 rfl rfl ?_
              refine z_getr C 50 23 69 fw_X12_66 sh_50 rfl dX12_round_103 ?_
              refine z_iload C (i := 6) (k := 7) hl dX12_round_106 rfl ?_
              obtain ⟨hi5, h⟩ := gd h
              refine z_iald C 69 20 sh_69 hi5 dX12_round_108 ?_
              refine z_iadd C dX12_round_109 ?_
              obtain ⟨u6, hc7, h⟩ := bnd h
              refine z_callV C (ci := 12) [.int x1, .int (u.1 68 x6.toNatClampNeg), .int (x3 ||| ((1 : Int32) <<< ((u.1 68 x6.toNatClampNeg) &&& 31))), .int (x4 + (u.1 66 (u.1 68 x6.toNatClampNeg).toNatClampNeg)), .int (x5 + (u.1 69 x6.toNatClampNeg))] [] [] (hself _ _ _ _ _ _ _ hc7) cw_X12_round vw_X12_round ml_X12_166 sh_50 rfl rfl rfl rfl hl.1 (Nat.le_of_ble_eq_true rfl) ⟨by show _ ≤ n + 1; omega, by show _ ≤ 60 * (n + 1); omega⟩ ⟨Nat.le_refl _, Nat.le_refl _⟩ rfl dX12_round_110 ?_
              refine z_iinc C (i := 6) (k := 7) (x6 + (1 : Int32)) [(6, .int (x6 + (1 : Int32))), (7, .int (u.1 68 x6.toNatClampNeg)), (0, .ref (ad 50)), (1, .int x1), (2, .int x2), (3, .int x3), (4, .int x4), (5, .int x5)] hl dX12_round_113 rfl rfl (by decide) rfl (fun ls hl => ?_)
              refine z_goto C 3 dX12_round_116 (by decide) ?_
              exact ih _ _ h _ (lv_sub hl [2, 3, 4, 5, 6, 7, 0] rfl)
          · replace h := (if_pos hc12).symm.trans h
            refine z_aload_n C (i := 0) (k := 1) hl dX12_round_52 rfl rfl ?_
            refine z_iload C (i := 4) (k := 5) hl dX12_round_53 rfl ?_
            refine z_iload C (i := 5) (k := 6) hl dX12_round_55 rfl ?_
            refine z_aload_n C (i := 0) (k := 1) hl dX12_round_57 rfl rfl ?_
            refine z_getr C 50 23 69 fw_X12_66 sh_50 rfl dX12_round_58 ?_
            refine z_iload C (i := 6) (k := 7) hl dX12_round_61 rfl ?_
            obtain ⟨hi9, h⟩ := gd h
            refine z_iald C 69 20 sh_69 hi9 dX12_round_63 ?_
            refine z_iadd C dX12_round_64 ?_
            obtain ⟨u10, hc11, h⟩ := bnd h
            refine z_callV C (ci := 12) [.int x4, .int (x5 + (u.1 69 x6.toNatClampNeg))] [] [] (m_X12_ring F _ _ _ _ hc11) cw_X12_ring vw_X12_ring ml_X12_162 sh_50 rfl rfl rfl rfl hl.1 (Nat.le_of_ble_eq_true rfl) ⟨by show _ ≤ n + 1; omega, by show _ ≤ 60 * (n + 1); omega⟩ ⟨Nat.le_refl _, Nat.le_refl _⟩ rfl dX12_round_65 ?_
            refine z_goto C 113 dX12_round_68 (by decide) ?_
            refine z_iinc C (i := 6) (k := 7) (x6 + (1 : Int32)) [(6, .int (x6 + (1 : Int32))), (7, .int (u.1 68 x6.toNatClampNeg)), (0, .ref (ad 50)), (1, .int x1), (2, .int x2), (3, .int x3), (4, .int x4), (5, .int x5)] hl dX12_round_113 rfl rfl (by decide) rfl (fun ls hl => ?_)
            refine z_goto C 3 dX12_round_116 (by decide) ?_
            exact ih _ _ h _ (lv_sub hl [2, 3, 4, 5, 6, 7, 0] rfl)
        · replace h := (if_neg hc13).symm.trans h
          refine z_goto C 113 dX12_round_34 (by decide) ?_
          refine z_iinc C (i := 6) (k := 6) (x6 + (1 : Int32)) [(6, .int (x6 + (1 : Int32))), (0, .ref (ad 50)), (1, .int x1), (2, .int x2), (3, .int x3), (4, .int x4), (5, .int x5)] hl dX12_round_113 rfl rfl (by decide) rfl (fun ls hl => ?_)
          refine z_goto C 3 dX12_round_116 (by decide) ?_
          exact ih _ _ h _ (lv_sub hl [1, 2, 3, 4, 5, 6, 0] rfl)
set_option maxRecDepth 20000 in
set_option maxHeartbeats 4000000 in
theorem m_X12_round (F : Nat) : ∀ (n : Nat) (x1 : Int32) (x2 : Int32) (x3 : Int32) (x4 : Int32) (x5 : Int32) (u u' : St) (h : f_X12_round F n x1 x2 x3 x4 x5 u = some u'), Mt yX12_round cX12_round 8 none n (fun ad => [.ref (ad 50), .int x1, .int x2, .int x3, .int x4, .int x5]) u (fun _ => none) u' := by
  intro n
  induction n with
  | zero => intro x1 x2 x3 x4 x5 u u' h; cases h
  | succ n hself =>
    intro x1 x2 x3 x4 x5 u u' h
    replace h : g_X12_round F (f_X12_round F n) x1 x2 x3 x4 x5 u = some u' := h
    unfold g_X12_round at h
    generalize f_X12_round F n = self at h hself
    refine Mt.of (by decide) (fun ad => Nat.le_of_ble_eq_true rfl) ?_
    intro p l e s m args below meth c D cA ad ls C hl
    have hl : lv_has ls 8 [(0, .ref (ad 50)), (1, .int x1), (2, .int x2), (3, .int x3), (4, .int x4), (5, .int x5)] := hl
    refine z_iconst C (0 : Int32) dX12_round_0 (by decide) ?_
    refine z_istore C (i := 6) [(6, .int (0 : Int32)), (0, .ref (ad 50)), (1, .int x1), (2, .int x2), (3, .int x3), (4, .int x4), (5, .int x5)] hl dX12_round_1 (by decide) rfl (fun ls hl => ?_)
    obtain ⟨w16, hw17, h⟩ := bnd h
    refine zl_X12_round_3 C F n self hself x1 x2 x3 x4 x5 (out := w16) (fun ls hl => ?_) F _ _ hw17 _ (lv_sub hl [1, 2, 3, 4, 5, 6, 0] rfl)
    obtain rfl := Option.some.inj h
    exact z_vret C dX12_round_119
def b_X12_goRound_24 (F : Nat)  (rec : Int32 → St → Option (Int32 × St)) (x1 : Int32) (u : St) : Option (Int32 × St) := (if (u.1 50 24) ≤ x1 then some (x1, u) else (if x1 < 0 ∨ 10 ≤ x1.toNatClampNeg then none else (Option.bind (f_X12_round F 12 x1 x1 ((1 : Int32) <<< (x1 &&& 31)) (u.1 66 x1.toNatClampNeg) (0 : Int32) u) (fun u2 => rec ((x1 + (1 : Int32))) u2))))
def l_X12_goRound_24 (F : Nat)  : Nat → Int32 → St → Option (Int32 × St)
  | 0, _, _ => none
  | k + 1, x1, u => b_X12_goRound_24 F  (l_X12_goRound_24 F  k) x1 u
def f_X12_goRound (F : Nat)  (u : St) : Option (St) := (Option.bind (l_X12_goRound_24 F  F (0 : Int32) (wl (wl (wr (wr u 50 26 (0 : Int32)) 50 27 (0 : Int32)) 50 28 (-1 : Int64)) 50 29 (1 : Int64))) (fun w5 => some w5.2))
set_option maxRecDepth 20000 in
set_option maxHeartbeats 4000000 in
theorem zl_X12_goRound_24 {p : Program} {l : Launch} {e : Env} {s : State} {m : MethodId} {args : Array Value} {below : List Frame} {meth : Method} {c : Code} {D : va_G} {cA : Nat → ClassId} {ad : Nat → Nat} {Q : State → Prop} (C : Cx SH p s m args meth c cX12_goRound 2 none RX12 D cA ad (inAd ad)) (F : Nat)   {out : Int32 × St}  (K : ∀ ls : Array Slot, lv_has ls 2 [(0, .ref (ad 50)), (1, .int out.1)] → Z SH p l e (rmD 13) s m args below meth c D cA ad (inAd ad) 0 0 Q out.2 54 ls []) : ∀ (k : Nat) (x1 : Int32) (u : St), l_X12_goRound_24 F  k x1 u = some out → ∀ ls : Array Slot, lv_has ls 2 [(0, .ref (ad 50)), (1, .int x1)] → Z SH p l e (rmD 13) s m args below meth c D cA ad (inAd ad) 0 0 Q u 24 ls [] := by
  intro k
  induction k with
  | zero => intro x1 u h; cases h
  | succ k ih =>
    intro x1 u h ls hl
    replace h : b_X12_goRound_24 F  (l_X12_goRound_24 F  k) x1 u = some out := h
    unfold b_X12_goRound_24 at h
    refine z_iload_n C (i := 1) (k := 1) hl dX12_goRound_24 rfl rfl ?_
    refine z_aload_n C (i := 0) (k := 0) hl dX12_goRound_25 rfl rfl ?_
    refine z_geti C 50 24 fw_X12_156 sh_50 rfl dX12_goRound_26 ?_
    refine z_icmp_ge C 54 dX12_goRound_29 (by decide) (fun hc4 => ?_) (fun hc4 => ?_)
    · replace h := (if_pos hc4).symm.trans h
      obtain rfl := Option.some.inj h
      exact K _ (lv_sub hl [0, 1] rfl)
    · replace h := (if_neg hc4).symm.trans h
      refine z_aload_n C (i := 0) (k := 0) hl dX12_goRound_32 rfl rfl ?_
      refine z_iload_n C (i := 1) (k := 1) hl dX12_goRound_33 rfl rfl ?_
      refine z_iload_n C (i := 1) (k := 1) hl dX12_goRound_34 rfl rfl ?_
      refine z_iconst C (1 : Int32) dX12_goRound_35 (by decide) ?_
      refine z_iload_n C (i := 1) (k := 1) hl dX12_goRound_36 rfl rfl ?_
      refine z_ishl C dX12_goRound_37 ?_
      refine z_aload_n C (i := 0) (k := 0) hl dX12_goRound_38 rfl rfl ?_
      refine z_getr C 50 20 66 fw_X12_57 sh_50 rfl dX12_goRound_39 ?_
      refine z_iload_n C (i := 1) (k := 1) hl dX12_goRound_42 rfl rfl ?_
      obtain ⟨hi1, h⟩ := gd h
      refine z_iald C 66 10 sh_66 hi1 dX12_goRound_43 ?_
      refine z_iconst C (0 : Int32) dX12_goRound_44 (by decide) ?_
      obtain ⟨u2, hc3, h⟩ := bnd h
      refine z_callV C (ci := 12) [.int x1, .int x1, .int ((1 : Int32) <<< (x1 &&& 31)), .int (u.1 66 x1.toNatClampNeg), .int (0 : Int32)] [] [] (m_X12_round F 12 _ _ _ _ _ _ _ hc3) cw_X12_round vw_X12_round ml_X12_166 sh_50 rfl rfl rfl rfl hl.1 (Nat.le_of_ble_eq_true rfl) ⟨Nat.le_of_ble_eq_true rfl, Nat.le_of_ble_eq_true rfl⟩ ⟨Nat.le_refl _, Nat.le_refl _⟩ rfl dX12_goRound_45 ?_
      refine z_iinc C (i := 1) (k := 1) (x1 + (1 : Int32)) [(1, .int (x1 + (1 : Int32))), (0, .ref (ad 50))] hl dX12_goRound_48 rfl rfl (by decide) rfl (fun ls hl => ?_)
      refine z_goto C 24 dX12_goRound_51 (by decide) ?_
      exact ih _ _ h _ (lv_sub hl [1, 0] rfl)
set_option maxRecDepth 20000 in
set_option maxHeartbeats 4000000 in
theorem m_X12_goRound (F : Nat)  (u : St) (u' : St)  (h : f_X12_goRound F  u = some u') : Mt yX12_goRound cX12_goRound 2 none 13 (fun ad => [.ref (ad 50)]) u (fun _ => none) u' := by
  refine Mt.of (by decide) (fun ad => Nat.le_of_ble_eq_true rfl) ?_
  intro p l e s m args below meth c D cA ad ls C hl
  have hl : lv_has ls 2 [(0, .ref (ad 50))] := hl
  unfold f_X12_goRound at h
  refine z_aload_n C (i := 0) (k := 0) hl dX12_goRound_0 rfl rfl ?_
  refine z_iconst C (0 : Int32) dX12_goRound_1 (by decide) ?_
  refine z_putz C 50 26 pw_X12_173 (by decide) sh_50 rfl dX12_goRound_2 ?_
  refine z_aload_n C (i := 0) (k := 0) hl dX12_goRound_5 rfl rfl ?_
  refine z_iconst C (0 : Int32) dX12_goRound_6 (by decide) ?_
  refine z_puti C 50 27 pw_X12_170 sh_50 rfl dX12_goRound_7 ?_
  refine z_aload_n C (i := 0) (k := 0) hl dX12_goRound_10 rfl rfl ?_
  refine z_ldc2 C (v := (-1 : Int64)) kw_X12_184 dX12_goRound_11 ?_
  refine z_putl C 50 28 pw_X12_181 sh_50 rfl dX12_goRound_14 ?_
  refine z_aload_n C (i := 0) (k := 0) hl dX12_goRound_17 rfl rfl ?_
  refine z_lconst C (1 : Int64) dX12_goRound_18 (by decide) ?_
  refine z_putl C 50 29 pw_X12_177 sh_50 rfl dX12_goRound_19 ?_
  refine z_iconst C (0 : Int32) dX12_goRound_22 (by decide) ?_
  refine z_istore_n C (i := 1) [(1, .int (0 : Int32)), (0, .ref (ad 50))] hl dX12_goRound_23 rfl (by decide) rfl (fun ls hl => ?_)
  obtain ⟨w5, hw6, h⟩ := bnd h
  refine zl_X12_goRound_24 C F (out := w5) (fun ls hl => ?_) F _ _ hw6 _ (lv_sub hl [1, 0] rfl)
  obtain rfl := Option.some.inj h
  exact z_vret C dX12_goRound_54
