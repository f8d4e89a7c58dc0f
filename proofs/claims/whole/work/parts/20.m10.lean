def b_X12_equation_156 (F : Nat) (x2 : Int32) (rec : St → Option ((Int32 × St) ⊕ (St)))  (u : St) : Option ((Int32 × St) ⊕ (St)) := (Option.bind (f_X12_look F u) (fun w39 => (if w39.1 = (43 : Int32) then (Option.bind (f_X12_term F x2 (wr w39.2 50 12 ((w39.2.1 50 12) + (1 : Int32)))) (fun w43 => (if w43.1 = 0 then some (Sum.inr w43.2) else rec w43.2))) else some (Sum.inl ((1 : Int32), w39.2)))))
def l_X12_equation_156 (F : Nat) (x2 : Int32) : Nat → St → Option ((Int32 × St) ⊕ (St))
  | 0, _ => none
  | k + 1, u => b_X12_equation_156 F x2 (l_X12_equation_156 F x2 k)  u
def f_X12_equation (F : Nat)  (u : St) : Option (Int32 × St) := (Option.bind (f_X12_look F u) (fun w4 => (Option.bind (f_X12_isLetter F w4.1 w4.2) (fun w8 => (if w8.1 = 0 then some ((0 : Int32), w8.2) else (if (w4.1 - (97 : Int32)) < 0 ∨ 12 ≤ (w4.1 - (97 : Int32)).toNatClampNeg then none else (if (w8.2.1 55 (w4.1 - (97 : Int32)).toNatClampNeg) = (-1 : Int32) then (Option.bind (f_X12_look F (wr w8.2 50 12 ((w8.2.1 50 12) + (1 : Int32)))) (fun w13 => (if w13.1 = (61 : Int32) then (if (w4.1 - (97 : Int32)) < 0 ∨ 12 ≤ (w4.1 - (97 : Int32)).toNatClampNeg then none else (Option.bind (f_X12_look F (wr (wr w13.2 50 12 ((w13.2.1 50 12) + (1 : Int32))) 55 (w4.1 - (97 : Int32)).toNatClampNeg (0 : Int32))) (fun w18 => (if w18.1 = (48 : Int32) then (if w18.1 = (48 : Int32) then (if ((12 : Int32) * (w4.1 - (97 : Int32))) < 0 ∨ 144 ≤ ((12 : Int32) * (w4.1 - (97 : Int32))).toNatClampNeg then none else (if w18.1 = (48 : Int32) then (if ((12 : Int32) * (w4.1 - (97 : Int32))) < 0 ∨ 144 ≤ ((12 : Int32) * (w4.1 - (97 : Int32))).toNatClampNeg then none else (if (w4.1 - (97 : Int32)) < 0 ∨ 12 ≤ (w4.1 - (97 : Int32)).toNatClampNeg then none else some ((1 : Int32), (wr (wr (wr (wr w18.2 50 12 ((w18.2.1 50 12) + (1 : Int32))) 56 ((12 : Int32) * (w4.1 - (97 : Int32))).toNatClampNeg (1 : Int32)) 57 ((12 : Int32) * (w4.1 - (97 : Int32))).toNatClampNeg (1 : Int32)) 55 (w4.1 - (97 : Int32)).toNatClampNeg (1 : Int32))))) else (if ((12 : Int32) * (w4.1 - (97 : Int32))) < 0 ∨ 144 ≤ ((12 : Int32) * (w4.1 - (97 : Int32))).toNatClampNeg then none else (if (w4.1 - (97 : Int32)) < 0 ∨ 12 ≤ (w4.1 - (97 : Int32)).toNatClampNeg then none else some ((1 : Int32), (wr (wr (wr (wr w18.2 50 12 ((w18.2.1 50 12) + (1 : Int32))) 56 ((12 : Int32) * (w4.1 - (97 : Int32))).toNatClampNeg (1 : Int32)) 57 ((12 : Int32) * (w4.1 - (97 : Int32))).toNatClampNeg (0 : Int32)) 55 (w4.1 - (97 : Int32)).toNatClampNeg (1 : Int32))))))) else (if ((12 : Int32) * (w4.1 - (97 : Int32))) < 0 ∨ 144 ≤ ((12 : Int32) * (w4.1 - (97 : Int32))).toNatClampNeg then none else (if w18.1 = (48 : Int32) then (if ((12 : Int32) * (w4.1 - (97 : Int32))) < 0 ∨ 144 ≤ ((12 : Int32) * (w4.1 - (97 : Int32))).toNatClampNeg then none else (if (w4.1 - (97 : Int32)) < 0 ∨ 12 ≤ (w4.1 - (97 : Int32)).toNatClampNeg then none else some ((1 : Int32), (wr (wr (wr (wr w18.2 50 12 ((w18.2.1 50 12) + (1 : Int32))) 56 ((12 : Int32) * (w4.1 - (97 : Int32))).toNatClampNeg (0 : Int32)) 57 ((12 : Int32) * (w4.1 - (97 : Int32))).toNatClampNeg (1 : Int32)) 55 (w4.1 - (97 : Int32)).toNatClampNeg (1 : Int32))))) else (if ((12 : Int32) * (w4.1 - (97 : Int32))) < 0 ∨ 144 ≤ ((12 : Int32) * (w4.1 - (97 : Int32))).toNatClampNeg then none else (if (w4.1 - (97 : Int32)) < 0 ∨ 12 ≤ (w4.1 - (97 : Int32)).toNatClampNeg then none else some ((1 : Int32), (wr (wr (wr (wr w18.2 50 12 ((w18.2.1 50 12) + (1 : Int32))) 56 ((12 : Int32) * (w4.1 - (97 : Int32))).toNatClampNeg (0 : Int32)) 57 ((12 : Int32) * (w4.1 - (97 : Int32))).toNatClampNeg (0 : Int32)) 55 (w4.1 - (97 : Int32)).toNatClampNeg (1 : Int32)))))))) else (if w18.1 = (49 : Int32) then (if w18.1 = (48 : Int32) then (if ((12 : Int32) * (w4.1 - (97 : Int32))) < 0 ∨ 144 ≤ ((12 : Int32) * (w4.1 - (97 : Int32))).toNatClampNeg then none else (if w18.1 = (48 : Int32) then (if ((12 : Int32) * (w4.1 - (97 : Int32))) < 0 ∨ 144 ≤ ((12 : Int32) * (w4.1 - (97 : Int32))).toNatClampNeg then none else (if (w4.1 - (97 : Int32)) < 0 ∨ 12 ≤ (w4.1 - (97 : Int32)).toNatClampNeg then none else some ((1 : Int32), (wr (wr (wr (wr w18.2 50 12 ((w18.2.1 50 12) + (1 : Int32))) 56 ((12 : Int32) * (w4.1 - (97 : Int32))).toNatClampNeg (1 : Int32)) 57 ((12 : Int32) * (w4.1 - (97 : Int32))).toNatClampNeg (1 : Int32)) 55 (w4.1 - (97 : Int32)).toNatClampNeg (1 : Int32))))) else (if ((12 : Int32) * (w4.1 - (97 : Int32))) < 0 ∨ 144 ≤ ((12 : Int32) * (w4.1 - (97 : Int32))).toNatClampNeg then none else (if (w4.1 - (97 : Int32)) < 0 ∨ 12 ≤ (w4.1 - (97 : Int32)).toNatClampNeg then none else some ((1 : Int32), (wr (wr (wr (wr w18.2 50 12 ((w18.2.1 50 12) + (1 : Int32))) 56 ((12 : Int32) * (w4.1 - (97 : Int32))).toNatClampNeg (1 : Int32)) 57 ((12 : Int32) * (w4.1 - (97 : Int32))).toNatClampNeg (0 : Int32)) 55 (w4.1 - (97 : Int32)).toNatClampNeg (1 : Int32))))))) else (if ((12 : Int32) * (w4.1 - (97 : Int32))) < 0 ∨ 144 ≤ ((12 : Int32) * (w4.1 - (97 : Int32))).toNatClampNeg then none else (if w18.1 = (48 : Int32) then (if ((12 : Int32) * (w4.1 - (97 : Int32))) < 0 ∨ 144 ≤ ((12 : Int32) * (w4.1 - (97 : Int32))).toNatClampNeg then none else (if (w4.1 - (97 : Int32)) < 0 ∨ 12 ≤ (w4.1 - (97 : Int32)).toNatClampNeg then none else some ((1 : Int32), (wr (wr (wr (wr w18.2 50 12 ((w18.2.1 50 12) + (1 : Int32))) 56 ((12 : Int32) * (w4.1 - (97 : Int32))).toNatClampNeg (0 : Int32)) 57 ((12 : Int32) * (w4.1 - (97 : Int32))).toNatClampNeg (1 : Int32)) 55 (w4.1 - (97 : Int32)).toNatClampNeg (1 : Int32))))) else (if ((12 : Int32) * (w4.1 - (97 : Int32))) < 0 ∨ 144 ≤ ((12 : Int32) * (w4.1 - (97 : Int32))).toNatClampNeg then none else (if (w4.1 - (97 : Int32)) < 0 ∨ 12 ≤ (w4.1 - (97 : Int32)).toNatClampNeg then none else some ((1 : Int32), (wr (wr (wr (wr w18.2 50 12 ((w18.2.1 50 12) + (1 : Int32))) 56 ((12 : Int32) * (w4.1 - (97 : Int32))).toNatClampNeg (0 : Int32)) 57 ((12 : Int32) * (w4.1 - (97 : Int32))).toNatClampNeg (0 : Int32)) 55 (w4.1 - (97 : Int32)).toNatClampNeg (1 : Int32)))))))) else (Option.bind (f_X12_term F (w4.1 - (97 : Int32)) w18.2) (fun w35 => (if w35.1 = 0 then some ((0 : Int32), w35.2) else (Option.bind (l_X12_equation_156 F (w4.1 - (97 : Int32)) F  w35.2) (fun w46 => Sum.elim (fun r => some r) (fun v48 => some ((0 : Int32), v48)) w46)))))))))) else some ((0 : Int32), w13.2)))) else some ((0 : Int32), w8.2))))))))
set_option maxRecDepth 20000 in
set_option maxHeartbeats 4000000 in
theorem zl_X12_equation_156 {p : Program} {l : Launch} {e : Env} {s : State} {m : MethodId} {args : Array Value} {below : List Frame} {meth : Method} {c : Code} {D : va_G} {cA : Nat → ClassId} {ad : Nat → Nat} {Q : State → Prop} (C : Cx SH p s m args meth c cX12_equation 3 (some .boolean) RX12 D cA ad (inAd ad)) (F : Nat) (x2 : Int32)  {out : (Int32 × St) ⊕ (St)} (K1 : ∀ (r : Int32) (u' : St), out = .inl (r, u') → (r = 0 ∨ r = 1) → ∀ (pc : Nat) (ls : Array Slot), decode cX12_equation pc = .ok (.ireturn, 1) → Z SH p l e (rmD 2) s m args below meth c D cA ad (inAd ad) 0 0 Q u' pc ls [.int r]) (K : ∀ (v : St), out = .inr v → ∀ ls : Array Slot, lv_has ls 3 [(0, .ref (ad 50)), (2, .int x2)] → Z SH p l e (rmD 2) s m args below meth c D cA ad (inAd ad) 0 0 Q v 183 ls []) : ∀ (k : Nat)  (u : St), l_X12_equation_156 F x2 k  u = some out → ∀ ls : Array Slot, lv_has ls 3 [(0, .ref (ad 50)), (2, .int x2)] → Z SH p l e (rmD 2) s m args below meth c D cA ad (inAd ad) 0 0 Q u 156 ls [] := by
  intro k
  induction k with
  | zero => intro  u h; cases h
  | succ k ih =>
    intro  u h ls hl
    replace h : b_X12_equation_156 F x2 (l_X12_equation_156 F x2 k)  u = some out := h
    unfold b_X12_equation_156 at h
    refine z_aload_n C (i := 0) (k := 0) hl dX12_equation_156 rfl rfl ?_
    obtain ⟨⟨r38, u36⟩, hc37, h⟩ := bnd h
    try dsimp only at h
    refine z_callV C (ci := 12) [] [] [.int r38] (m_X12_look F  _ _ _ hc37) cw_X12_look vw_X12_look ml_X12_93 sh_50 rfl rfl rfl rfl hl.1 (Nat.le_of_ble_eq_true rfl) ⟨Nat.le_of_ble_eq_true rfl, Nat.le_of_ble_eq_true rfl⟩ ⟨Nat.le_refl _, Nat.le_refl _⟩ rfl dX12_equation_157 ?_
    refine z_bipush C (43 : Int32) dX12_equation_160 (by decide) ?_
    refine z_icmp_ne C 185 dX12_equation_162 (by decide) (fun hc45 => ?_) (fun hc45 => ?_)
    · replace h := (if_neg hc45).symm.trans h
      refine z_iconst C (1 : Int32) dX12_equation_185 (by decide) ?_
      exact K1 _ _ (Option.some.inj h).symm (by decide) _ _ dX12_equation_186
    · replace h := (if_pos hc45).symm.trans h
      refine z_aload_n C (i := 0) (k := 0) hl dX12_equation_165 rfl rfl ?_
      refine z_dup C dX12_equation_166 rfl ?_
      refine z_geti C 50 12 fw_X12_90 sh_50 rfl dX12_equation_167 ?_
      refine z_iconst C (1 : Int32) dX12_equation_170 (by decide) ?_
      refine z_iadd C dX12_equation_171 ?_
      refine z_puti C 50 12 pw_X12_90 sh_50 rfl dX12_equation_172 ?_
      refine z_aload_n C (i := 0) (k := 0) hl dX12_equation_175 rfl rfl ?_
      refine z_iload_n C (i := 2) (k := 1) hl dX12_equation_176 rfl rfl ?_
      obtain ⟨⟨r42, u40⟩, hc41, h⟩ := bnd h
      try dsimp only at h
      refine z_callV C (ci := 12) [.int x2] [] [.int r42] (m_X12_term F _ _ _ _ hc41) cw_X12_term vw_X12_term ml_X12_105 sh_50 rfl rfl rfl rfl hl.1 (Nat.le_of_ble_eq_true rfl) ⟨Nat.le_of_ble_eq_true rfl, Nat.le_of_ble_eq_true rfl⟩ ⟨Nat.le_refl _, Nat.le_refl _⟩ rfl dX12_equation_177 ?_
      refine z_if_ne C 156 dX12_equation_180 (by decide) (fun hc44 => ?_) (fun hc44 => ?_)
      · replace h := (if_neg hc44).symm.trans h
        exact ih  _ h _ (lv_sub hl [0, 1] rfl)
      · replace h := (if_pos hc44).symm.trans h
        exact K _ (Option.some.inj h).symm _ (lv_sub hl [0, 1] rfl)
set_option maxRecDepth 20000 in
set_option maxHeartbeats 4000000 in
theorem m_X12_equation (F : Nat)  (u : St) (r : Int32) (u' : St)  (h : f_X12_equation F  u = some (r, u')) : Mt yX12_equation cX12_equation 3 (some .boolean) 2 (fun ad => [.ref (ad 50)]) u (fun _ => some (.int r)) u' := by
  refine Mt.of (by decide) (fun ad => Nat.le_of_ble_eq_true rfl) ?_
  intro p l e s m args below meth c D cA ad ls C hl
  have hl : lv_has ls 3 [(0, .ref (ad 50))] := hl
  unfold f_X12_equation at h
  refine z_aload_n C (i := 0) (k := 0) hl dX12_equation_0 rfl rfl ?_
  obtain ⟨⟨r3, u1⟩, hc2, h⟩ := bnd h
  try dsimp only at h
  refine z_callV C (ci := 12) [] [] [.int r3] (m_X12_look F  _ _ _ hc2) cw_X12_look vw_X12_look ml_X12_93 sh_50 rfl rfl rfl rfl hl.1 (Nat.le_of_ble_eq_true rfl) ⟨Nat.le_of_ble_eq_true rfl, Nat.le_of_ble_eq_true rfl⟩ ⟨Nat.le_refl _, Nat.le_refl _⟩ rfl dX12_equation_1 ?_
  refine z_istore_n C (i := 1) [(1, .int r3), (0, .ref (ad 50))] hl dX12_equation_4 rfl (by decide) rfl (fun ls hl => ?_)
  refine z_iload_n C (i := 1) (k := 0) hl dX12_equation_5 rfl rfl ?_
  obtain ⟨⟨r7, u5⟩, hc6, h⟩ := bnd h
  try dsimp only at h
  refine z_callS C [.int r3] [] [.int r7] (m_X12_isLetter F _ _ _ _ hc6) cw_X12_isLetter sw_X12_isLetter ml_X12_101 rfl rfl rfl hl.1 (Nat.le_of_ble_eq_true rfl) ⟨Nat.le_of_ble_eq_true rfl, Nat.le_of_ble_eq_true rfl⟩ ⟨Nat.le_refl _, Nat.le_refl _⟩ rfl dX12_equation_6 ?_
  refine z_if_eq C 25 dX12_equation_9 (by decide) (fun hc68 => ?_) (fun hc68 => ?_)
  · replace h := (if_pos hc68).symm.trans h
    refine z_iconst C (0 : Int32) dX12_equation_25 (by decide) ?_
    obtain ⟨rfl, rfl⟩ := r2 h
    exact z_zret (by decide) C dX12_equation_26
  · replace h := (if_neg hc68).symm.trans h
    refine z_aload_n C (i := 0) (k := 1) hl dX12_equation_12 rfl rfl ?_
    refine z_getr C 50 6 55 fw_X12_23 sh_50 rfl dX12_equation_13 ?_
    refine z_iload_n C (i := 1) (k := 0) hl dX12_equation_16 rfl rfl ?_
    refine z_bipush C (97 : Int32) dX12_equation_17 (by decide) ?_
    refine z_isub C dX12_equation_19 ?_
    obtain ⟨hi9, h⟩ := gd h
    refine z_iald C 55 12 sh_55 hi9 dX12_equation_20 ?_
    refine z_iconst C (-1 : Int32) dX12_equation_21 (by decide) ?_
    refine z_icmp_eq C 27 dX12_equation_22 (by decide) (fun hc67 => ?_) (fun hc67 => ?_)
    · replace h := (if_pos hc67).symm.trans h
      refine z_iload_n C (i := 1) (k := 0) hl dX12_equation_27 rfl rfl ?_
      refine z_bipush C (97 : Int32) dX12_equation_28 (by decide) ?_
      refine z_isub C dX12_equation_30 ?_
      refine z_istore_n C (i := 2) [(2, .int (r3 - (97 : Int32))), (1, .int r3), (0, .ref (ad 50))] hl dX12_equation_31 rfl (by decide) rfl (fun ls hl => ?_)
      refine z_aload_n C (i := 0) (k := 2) hl dX12_equation_32 rfl rfl ?_
      refine z_dup C dX12_equation_33 rfl ?_
      refine z_geti C 50 12 fw_X12_90 sh_50 rfl dX12_equation_34 ?_
      refine z_iconst C (1 : Int32) dX12_equation_37 (by decide) ?_
      refine z_iadd C dX12_equation_38 ?_
      refine z_puti C 50 12 pw_X12_90 sh_50 rfl dX12_equation_39 ?_
      refine z_aload_n C (i := 0) (k := 2) hl dX12_equation_42 rfl rfl ?_
      obtain ⟨⟨r12, u10⟩, hc11, h⟩ := bnd h
      try dsimp only at h
      refine z_callV C (ci := 12) [] [] [.int r12] (m_X12_look F  _ _ _ hc11) cw_X12_look vw_X12_look ml_X12_93 sh_50 rfl rfl rfl rfl hl.1 (Nat.le_of_ble_eq_true rfl) ⟨Nat.le_of_ble_eq_true rfl, Nat.le_of_ble_eq_true rfl⟩ ⟨Nat.le_refl _, Nat.le_refl _⟩ rfl dX12_equation_43 ?_
      refine z_bipush C (61 : Int32) dX12_equation_46 (by decide) ?_
      refine z_icmp_eq C 53 dX12_equation_48 (by decide) (fun hc66 => ?_) (fun hc66 => ?_)
      · replace h := (if_pos hc66).symm.trans h
        refine z_aload_n C (i := 0) (k := 2) hl dX12_equation_53 rfl rfl ?_
        refine z_dup C dX12_equation_54 rfl ?_
        refine z_geti C 50 12 fw_X12_90 sh_50 rfl dX12_equation_55 ?_
        refine z_iconst C (1 : Int32) dX12_equation_58 (by decide) ?_
        refine z_iadd C dX12_equation_59 ?_
        refine z_puti C 50 12 pw_X12_90 sh_50 rfl dX12_equation_60 ?_
        refine z_aload_n C (i := 0) (k := 2) hl dX12_equation_63 rfl rfl ?_
        refine z_getr C 50 6 55 fw_X12_23 sh_50 rfl dX12_equation_64 ?_
        refine z_iload_n C (i := 2) (k := 0) hl dX12_equation_67 rfl rfl ?_
        refine z_iconst C (0 : Int32) dX12_equation_68 (by decide) ?_
        obtain ⟨hi14, h⟩ := gd h
        refine z_iast C 55 12 sh_55 hi14 dX12_equation_69 ?_
        refine z_aload_n C (i := 0) (k := 2) hl dX12_equation_70 rfl rfl ?_
        obtain ⟨⟨r17, u15⟩, hc16, h⟩ := bnd h
        try dsimp only at h
        refine z_callV C (ci := 12) [] [] [.int r17] (m_X12_look F  _ _ _ hc16) cw_X12_look vw_X12_look ml_X12_93 sh_50 rfl rfl rfl rfl hl.1 (Nat.le_of_ble_eq_true rfl) ⟨Nat.le_of_ble_eq_true rfl, Nat.le_of_ble_eq_true rfl⟩ ⟨Nat.le_refl _, Nat.le_refl _⟩ rfl dX12_equation_71 ?_
        refine z_istore_n C (i := 1) [(1, .int r17), (2, .int (r3 - (97 : Int32))), (0, .ref (ad 50))] hl dX12_equation_74 rfl (by decide) rfl (fun ls hl => ?_)
        refine z_iload_n C (i := 1) (k := 0) hl dX12_equation_75 rfl rfl ?_
        refine z_bipush C (48 : Int32) dX12_equation_76 (by decide) ?_
        refine z_icmp_eq C 87 dX12_equation_78 (by decide) (fun hc65 => ?_) (fun hc65 => ?_)
        · replace h := (if_pos hc65).symm.trans h
          refine z_aload_n C (i := 0) (k := 2) hl dX12_equation_87 rfl rfl ?_
          refine z_dup C dX12_equation_88 rfl ?_
          refine z_geti C 50 12 fw_X12_90 sh_50 rfl dX12_equation_89 ?_
          refine z_iconst C (1 : Int32) dX12_equation_92 (by decide) ?_
          refine z_iadd C dX12_equation_93 ?_
          refine z_puti C 50 12 pw_X12_90 sh_50 rfl dX12_equation_94 ?_
          refine z_aload_n C (i := 0) (k := 2) hl dX12_equation_97 rfl rfl ?_
          refine z_getr C 50 7 56 fw_X12_26 sh_50 rfl dX12_equation_98 ?_
          refine z_bipush C (12 : Int32) dX12_equation_101 (by decide) ?_
          refine z_iload_n C (i := 2) (k := 1) hl dX12_equation_103 rfl rfl ?_
          refine z_imul C dX12_equation_104 ?_
          refine z_iload_n C (i := 1) (k := 0) hl dX12_equation_105 rfl rfl ?_
          refine z_bipush C (48 : Int32) dX12_equation_106 (by decide) ?_
          refine z_icmp_ne C 115 dX12_equation_108 (by decide) (fun hc31 => ?_) (fun hc31 => ?_)
          · replace h := (if_neg hc31).symm.trans h
            refine z_iconst C (0 : Int32) dX12_equation_115 (by decide) ?_
            obtain ⟨hi19, h⟩ := gd h
            refine z_iast C 56 144 sh_56 hi19 dX12_equation_116 ?_
            refine z_aload_n C (i := 0) (k := 2) hl dX12_equation_117 rfl rfl ?_
            refine z_getr C 50 8 57 fw_X12_29 sh_50 rfl dX12_equation_118 ?_
            refine z_bipush C (12 : Int32) dX12_equation_121 (by decide) ?_
            refine z_iload_n C (i := 2) (k := 1) hl dX12_equation_123 rfl rfl ?_
            refine z_imul C dX12_equation_124 ?_
            refine z_iload_n C (i := 1) (k := 0) hl dX12_equation_125 rfl rfl ?_
            refine z_bipush C (48 : Int32) dX12_equation_126 (by decide) ?_
            refine z_icmp_ne C 135 dX12_equation_128 (by decide) (fun hc24 => ?_) (fun hc24 => ?_)
            · replace h := (if_neg hc24).symm.trans h
              refine z_iconst C (0 : Int32) dX12_equation_135 (by decide) ?_
              obtain ⟨hi20, h⟩ := gd h
              refine z_iast C 57 144 sh_57 hi20 dX12_equation_136 ?_
              refine z_aload_n C (i := 0) (k := 2) hl dX12_equation_137 rfl rfl ?_
              refine z_getr C 50 6 55 fw_X12_23 sh_50 rfl dX12_equation_138 ?_
              refine z_iload_n C (i := 2) (k := 1) hl dX12_equation_141 rfl rfl ?_
              refine z_iconst C (1 : Int32) dX12_equation_142 (by decide) ?_
              obtain ⟨hi21, h⟩ := gd h
              refine z_iast C 55 12 sh_55 hi21 dX12_equation_143 ?_
              refine z_iconst C (1 : Int32) dX12_equation_144 (by decide) ?_
              obtain ⟨rfl, rfl⟩ := r2 h
              exact z_zret (by decide) C dX12_equation_145
            · replace h := (if_pos hc24).symm.trans h
              refine z_iconst C (1 : Int32) dX12_equation_131 (by decide) ?_
              refine z_goto C 136 dX12_equation_132 (by decide) ?_
              obtain ⟨hi22, h⟩ := gd h
              refine z_iast C 57 144 sh_57 hi22 dX12_equation_136 ?_
              refine z_aload_n C (i := 0) (k := 2) hl dX12_equation_137 rfl rfl ?_
              refine z_getr C 50 6 55 fw_X12_23 sh_50 rfl dX12_equation_138 ?_
              refine z_iload_n C (i := 2) (k := 1) hl dX12_equation_141 rfl rfl ?_
              refine z_iconst C (1 : Int32) dX12_equation_142 (by decide) ?_
              obtain ⟨hi23, h⟩ := gd h
              refine z_iast C 55 12 sh_55 hi23 dX12_equation_143 ?_
              refine z_iconst C (1 : Int32) dX12_equation_144 (by decide) ?_
              obtain ⟨rfl, rfl⟩ := r2 h
              exact z_zret (by decide) C dX12_equation_145
          · replace h := (if_pos hc31).symm.trans h
            refine z_iconst C (1 : Int32) dX12_equation_111 (by decide) ?_
            refine z_goto C 116 dX12_equation_112 (by decide) ?_
            obtain ⟨hi25, h⟩ := gd h
            refine z_iast C 56 144 sh_56 hi25 dX12_equation_116 ?_
            refine z_aload_n C (i := 0) (k := 2) hl dX12_equation_117 rfl rfl ?_
            refine z_getr C 50 8 57 fw_X12_29 sh_50 rfl dX12_equation_118 ?_
            refine z_bipush C (12 : Int32) dX12_equation_121 (by decide) ?_
            refine z_iload_n C (i := 2) (k := 1) hl dX12_equation_123 rfl rfl ?_
            refine z_imul C dX12_equation_124 ?_
            refine z_iload_n C (i := 1) (k := 0) hl dX12_equation_125 rfl rfl ?_
            refine z_bipush C (48 : Int32) dX12_equation_126 (by decide) ?_
            refine z_icmp_ne C 135 dX12_equation_128 (by decide) (fun hc30 => ?_) (fun hc30 => ?_)
            · replace h := (if_neg hc30).symm.trans h
              refine z_iconst C (0 : Int32) dX12_equation_135 (by decide) ?_
              obtain ⟨hi26, h⟩ := gd h
              refine z_iast C 57 144 sh_57 hi26 dX12_equation_136 ?_
              refine z_aload_n C (i := 0) (k := 2) hl dX12_equation_137 rfl rfl ?_
              refine z_getr C 50 6 55 fw_X12_23 sh_50 rfl dX12_equation_138 ?_
              refine z_iload_n C (i := 2) (k := 1) hl dX12_equation_141 rfl rfl ?_
              refine z_iconst C (1 : Int32) dX12_equation_142 (by decide) ?_
              obtain ⟨hi27, h⟩ := gd h
              refine z_iast C 55 12 sh_55 hi27 dX12_equation_143 ?_
              refine z_iconst C (1 : Int32) dX12_equation_144 (by decide) ?_
              obtain ⟨rfl, rfl⟩ := r2 h
              exact z_zret (by decide) C dX12_equation_145
            · replace h := (if_pos hc30).symm.trans h
              refine z_iconst C (1 : Int32) dX12_equation_131 (by decide) ?_
              refine z_goto C 136 dX12_equation_132 (by decide) ?_
              obtain ⟨hi28, h⟩ := gd h
              refine z_iast C 57 144 sh_57 hi28 dX12_equation_136 ?_
              refine z_aload_n C (i := 0) (k := 2) hl dX12_equation_137 rfl rfl ?_
              refine z_getr C 50 6 55 fw_X12_23 sh_50 rfl dX12_equation_138 ?_
              refine z_iload_n C (i := 2) (k := 1) hl dX12_equation_141 rfl rfl ?_
              refine z_iconst C (1 : Int32) dX12_equation_142 (by decide) ?_
              obtain ⟨hi29, h⟩ := gd h
              refine z_iast C 55 12 sh_55 hi29 dX12_equation_143 ?_
              refine z_iconst C (1 : Int32) dX12_equation_144 (by decide) ?_
              obtain ⟨rfl, rfl⟩ := r2 h
              exact z_zret (by decide) C dX12_equation_145
        · replace h := (if_neg hc65).symm.trans h
          refine z_iload_n C (i := 1) (k := 0) hl dX12_equation_81 rfl rfl ?_
          refine z_bipush C (49 : Int32) dX12_equation_82 (by decide) ?_
          refine z_icmp_ne C 146 dX12_equation_84 (by decide) (fun hc64 => ?_) (fun hc64 => ?_)
          · replace h := (if_neg hc64).symm.trans h
            refine z_aload_n C (i := 0) (k := 2) hl dX12_equation_146 rfl rfl ?_
            refine z_iload_n C (i := 2) (k := 1) hl dX12_equation_147 rfl rfl ?_
            obtain ⟨⟨r34, u32⟩, hc33, h⟩ := bnd h
            try dsimp only at h
            refine z_callV C (ci := 12) [.int (r3 - (97 : Int32))] [] [.int r34] (m_X12_term F _ _ _ _ hc33) cw_X12_term vw_X12_term ml_X12_105 sh_50 rfl rfl rfl rfl hl.1 (Nat.le_of_ble_eq_true rfl) ⟨Nat.le_of_ble_eq_true rfl, Nat.le_of_ble_eq_true rfl⟩ ⟨Nat.le_refl _, Nat.le_refl _⟩ rfl dX12_equation_148 ?_
            refine z_if_ne C 156 dX12_equation_151 (by decide) (fun hc50 => ?_) (fun hc50 => ?_)
            · replace h := (if_neg hc50).symm.trans h
              obtain ⟨w46, hw47, h⟩ := bnd h
              refine zl_X12_equation_156 C F (r3 - (97 : Int32)) (out := w46) (fun r8 u8 e49 hz9 pc ls hd => ?_) (fun v48 e49 ls hl => ?_) F  _ hw47 _ (lv_sub hl [2, 1] rfl)
              · subst e49
                obtain ⟨rfl, rfl⟩ := r2 h
                exact z_zret hz9 C hd
              · subst e49
                try dsimp only [Sum.elim] at h
                refine z_iconst C (0 : Int32) dX12_equation_183 (by decide) ?_
                obtain ⟨rfl, rfl⟩ := r2 h
                exact z_zret (by decide) C dX12_equation_184
            · replace h := (if_pos hc50).symm.trans h
              refine z_iconst C (0 : Int32) dX12_equation_154 (by decide) ?_
              obtain ⟨rfl, rfl⟩ := r2 h
              exact z_zret (by decide) C dX12_equation_155
          · replace h := (if_pos hc64).symm.trans h
            refine z_aload_n C (i := 0) (k := 2) hl dX12_equation_87 rfl rfl ?_
            refine z_dup C dX12_equation_88 rfl ?_
            refine z_geti C 50 12 fw_X12_90 sh_50 rfl dX12_equation_89 ?_
            refine z_iconst C (1 : Int32) dX12_equation_92 (by decide) ?_
            refine z_iadd C dX12_equation_93 ?_
            refine z_puti C 50 12 pw_X12_90 sh_50 rfl dX12_equation_94 ?_
            refine z_aload_n C (i := 0) (k := 2) hl dX12_equation_97 rfl rfl ?_
            refine z_getr C 50 7 56 fw_X12_26 sh_50 rfl dX12_equation_98 ?_
            refine z_bipush C (12 : Int32) dX12_equation_101 (by decide) ?_
            refine z_iload_n C (i := 2) (k := 1) hl dX12_equation_103 rfl rfl ?_
            refine z_imul C dX12_equation_104 ?_
            refine z_iload_n C (i := 1) (k := 0) hl dX12_equation_105 rfl rfl ?_
            refine z_bipush C (48 : Int32) dX12_equation_106 (by decide) ?_
            refine z_icmp_ne C 115 dX12_equation_108 (by decide) (fun hc63 => ?_) (fun hc63 => ?_)
            · replace h := (if_neg hc63).symm.trans h
              refine z_iconst C (0 : Int32) dX12_equation_115 (by decide) ?_
              obtain ⟨hi51, h⟩ := gd h
              refine z_iast C 56 144 sh_56 hi51 dX12_equation_116 ?_
              refine z_aload_n C (i := 0) (k := 2) hl dX12_equation_117 rfl rfl ?_
              refine z_getr C 50 8 57 fw_X12_29 sh_50 rfl dX12_equation_118 ?_
              refine z_bipush C (12 : Int32) dX12_equation_121 (by decide) ?_
              refine z_iload_n C (i := 2) (k := 1) hl dX12_equation_123 rfl rfl ?_
              refine z_imul C dX12_equation_124 ?_
              refine z_iload_n C (i := 1) (k := 0) hl dX12_equation_125 rfl rfl ?_
              refine z_bipush C (48 : Int32) dX12_equation_126 (by decide) ?_
              refine z_icmp_ne C 135 dX12_equation_128 (by decide) (fun hc56 => ?_) (fun hc56 => ?_)
              · replace h := (if_neg hc56).symm.trans h
                refine z_iconst C (0 : Int32) dX12_equation_135 (by decide) ?_
                obtain ⟨hi52, h⟩ := gd h
                refine z_iast C 57 144 sh_57 hi52 dX12_equation_136 ?_
                refine z_aload_n C (i := 0) (k := 2) hl dX12_equation_137 rfl rfl ?_
                refine z_getr C 50 6 55 fw_X12_23 sh_50 rfl dX12_equation_138 ?_
                refine z_iload_n C (i := 2) (k := 1) hl dX12_equation_141 rfl rfl ?_
                refine z_iconst C (1 : Int32) dX12_equation_142 (by decide) ?_
                obtain ⟨hi53, h⟩ := gd h
                refine z_iast C 55 12 sh_55 hi53 dX12_equation_143 ?_
                refine z_iconst C (1 : Int32) dX12_equation_144 (by decide) ?_
                obtain ⟨rfl, rfl⟩ := r2 h
                exact z_zret (by decide) C dX12_equation_145
              · replace h := (if_pos hc56).symm.trans h
                refine z_iconst C (1 : Int32) dX12_equation_131 (by decide) ?_
                refine z_goto C 136 dX12_equation_132 (by decide) ?_
                obtain ⟨hi54, h⟩ := gd h
                refine z_iast C 57 144 sh_57 hi54 dX12_equation_136 ?_
                refine z_aload_n C (i := 0) (k := 2) hl dX12_equation_137 rfl rfl ?_
                refine z_getr C 50 6 55 fw_X12_23 sh_50 rfl dX12_equation_138 ?_
                refine z_iload_n C (i := 2) (k := 1) hl dX12_equation_141 rfl rfl ?_
                refine z_iconst C (1 : Int32) dX12_equation_142 (by decide) ?_
                obtain ⟨hi55, h⟩ := gd h
                refine z_iast C 55 12 sh_55 hi55 dX12_equation_143 ?_
                refine z_iconst C (1 : Int32) dX12_equation_144 (by decide) ?_
                obtain ⟨rfl, rfl⟩ := r2 h
                exact z_zret (by decide) C dX12_equation_145
            · replace h := (if_pos hc63).symm.trans h
              refine z_iconst C (1 : Int32) dX12_equation_111 (by decide) ?_
              refine z_goto C 116 dX12_equation_112 (by decide) ?_
              obtain ⟨hi57, h⟩ := gd h
              refine z_iast C 56 144 sh_56 hi57 dX12_equation_116 ?_
              refine z_aload_n C (i := 0) (k := 2) hl dX12_equation_117 rfl rfl ?_
              refine z_getr C 50 8 57 fw_X12_29 sh_50 rfl dX12_equation_118 ?_
              refine z_bipush C (12 : Int32) dX12_equation_121 (by decide) ?_
              refine z_iload_n C (i := 2) (k := 1) hl dX12_equation_123 rfl rfl ?_
              refine z_imul C dX12_equation_124 ?_
              refine z_iload_n C (i := 1) (k := 0) hl dX12_equation_125 rfl rfl ?_
              refine z_bipush C (48 : Int32) dX12_equation_126 (by decide) ?_
              refine z_icmp_ne C 135 dX12_equation_128 (by decide) (fun hc62 => ?_) (fun hc62 => ?_)
              · replace h := (if_neg hc62).symm.trans h
                refine z_iconst C (0 : Int32) dX12_equation_135 (by decide) ?_
                obtain ⟨hi58, h⟩ := gd h
                refine z_iast C 57 144 sh_57 hi58 dX12_equation_136 ?_
                refine z_aload_n C (i := 0) (k := 2) hl dX12_equation_137 rfl rfl ?_
                refine z_getr C 50 6 55 fw_X12_23 sh_50 rfl dX12_equation_138 ?_
                refine z_iload_n C (i := 2) (k := 1) hl dX12_equation_141 rfl rfl ?_
                refine z_iconst C (1 : Int32) dX12_equation_142 (by decide) ?_
                obtain ⟨hi59, h⟩ := gd h
                refine z_iast C 55 12 sh_55 hi59 dX12_equation_143 ?_
                refine z_iconst C (1 : Int32) dX12_equation_144 (by decide) ?_
                obtain ⟨rfl, rfl⟩ := r2 h
                exact z_zret (by decide) C dX12_equation_145
              · replace h := (if_pos hc62).symm.trans h
                refine z_iconst C (1 : Int32) dX12_equation_131 (by decide) ?_
                refine z_goto C 136 dX12_equation_132 (by decide) ?_
                obtain ⟨hi60, h⟩ := gd h
                refine z_iast C 57 144 sh_57 hi60 dX12_equation_136 ?_
                refine z_aload_n C (i := 0) (k := 2) hl dX12_equation_137 rfl rfl ?_
                refine z_getr C 50 6 55 fw_X12_23 sh_50 rfl dX12_equation_138 ?_
                refine z_iload_n C (i := 2) (k := 1) hl dX12_equation_141 rfl rfl ?_
                refine z_iconst C (1 : Int32) dX12_equation_142 (by decide) ?_
                obtain ⟨hi61, h⟩ := gd h
                refine z_iast C 55 12 sh_55 hi61 dX12_equation_143 ?_
                refine z_iconst C (1 : Int32) dX12_equation_144 (by decide) ?_
                obtain ⟨rfl, rfl⟩ := r2 h
                exact z_zret (by decide) C dX12_equation_145
      · replace h := (if_neg hc66).symm.trans h
        refine z_iconst C (0 : Int32) dX12_equation_51 (by decide) ?_
        obtain ⟨rfl, rfl⟩ := r2 h
        exact z_zret (by decide) C dX12_equation_52
    · replace h := (if_neg hc67).symm.trans h
      refine z_iconst C (0 : Int32) dX12_equation_25 (by decide) ?_
      obtain ⟨rfl, rfl⟩ := r2 h
      exact z_zret (by decide) C dX12_equation_26
def b_X12_read_7 (F : Nat)  (rec : Int32 → St → Option (Int32 × St)) (x1 : Int32) (u : St) : Option (Int32 × St) := (if (12 : Int32) ≤ x1 then some (x1, u) else (if x1 < 0 ∨ 12 ≤ x1.toNatClampNeg then none else rec ((x1 + (1 : Int32))) (wr u 55 x1.toNatClampNeg (-1 : Int32))))
def l_X12_read_7 (F : Nat)  : Nat → Int32 → St → Option (Int32 × St)
  | 0, _, _ => none
  | k + 1, x1, u => b_X12_read_7 F  (l_X12_read_7 F  k) x1 u
def b_X12_read_48 (F : Nat)  (rec : St → Option ((Int32 × St) ⊕ (St)))  (u : St) : Option ((Int32 × St) ⊕ (St)) := (Option.bind (f_X12_look F u) (fun w16 => (if w16.1 = (59 : Int32) then (Option.bind (f_X12_equation F (wr w16.2 50 12 ((w16.2.1 50 12) + (1 : Int32)))) (fun w25 => (if w25.1 = 0 then some (Sum.inr w25.2) else rec w25.2))) else (Option.bind (f_X12_look F w16.2) (fun w20 => (if w20.1 = (-1 : Int32) then some (Sum.inl ((-1 : Int32), w20.2)) else some (Sum.inl ((w20.2.1 50 12), w20.2))))))))
def l_X12_read_48 (F : Nat)  : Nat → St → Option ((Int32 × St) ⊕ (St))
  | 0, _ => none
  | k + 1, u => b_X12_read_48 F  (l_X12_read_48 F  k)  u
def f_X12_read (F : Nat)  (u : St) : Option (Int32 × St) := (Option.bind (l_X12_read_7 F  F (0 : Int32) (wr u 50 12 (0 : Int32))) (fun w3 => (Option.bind (f_X12_look F w3.2) (fun w8 => (if w8.1 = (-1 : Int32) then some ((-1 : Int32), w8.2) else (Option.bind (f_X12_equation F w8.2) (fun w12 => (if w12.1 = 0 then some ((w12.2.1 50 12), w12.2) else (Option.bind (l_X12_read_48 F  F  w12.2) (fun w28 => Sum.elim (fun r => some r) (fun v30 => some ((v30.1 50 12), v30)) w28))))))))))
set_option maxRecDepth 20000 in
set_option maxHeartbeats 4000000 in
theorem zl_X12_read_7 {p : Program} {l : Launch} {e : Env} {s : State} {m : MethodId} {args : Array Value} {below : List Frame} {meth : Method} {c : Code} {D : va_G} {cA : Nat → ClassId} {ad : Nat → Nat} {Q : State → Prop} (C : Cx SH p s m args meth c cX12_read 2 (some .int) RX12 D cA ad (inAd ad)) (F : Nat)   {out : Int32 × St}  (K : ∀ ls : Array Slot, lv_has ls 2 [(0, .ref (ad 50)), (1, .int out.1)] → Z SH p l e (rmD 3) s m args below meth c D cA ad (inAd ad) 0 0 Q out.2 26 ls []) : ∀ (k : Nat) (x1 : Int32) (u : St), l_X12_read_7 F  k x1 u = some out → ∀ ls : Array Slot, lv_has ls 2 [(0, .ref (ad 50)), (1, .int x1)] → Z SH p l e (rmD 3) s m args below meth c D cA ad (inAd ad) 0 0 Q u 7 ls [] := by
  intro k
  induction k with
  | zero => intro x1 u h; cases h
  | succ k ih =>
    intro x1 u h ls hl
    replace h : b_X12_read_7 F  (l_X12_read_7 F  k) x1 u = some out := h
    unfold b_X12_read_7 at h
    refine z_iload_n C (i := 1) (k := 1) hl dX12_read_7 rfl rfl ?_
    refine z_bipush C (12 : Int32) dX12_read_8 (by decide) ?_
    refine z_icmp_ge C 26 dX12_read_10 (by decide) (fun hc2 => ?_) (fun hc2 => ?_)
    · replace h := (if_pos hc2).symm.trans h
      obtain rfl := Option.some.inj h
      exact K _ (lv_sub hl [0, 1] rfl)
    · replace h := (if_neg hc2).symm.trans h
      refine z_aload_n C (i := 0) (k := 0) hl dX12_read_13 rfl rfl ?_
      refine z_getr C 50 6 55 fw_X12_23 sh_50 rfl dX12_read_14 ?_
      refine z_iload_n C (i := 1) (k := 1) hl dX12_read_17 rfl rfl ?_
      refine z_iconst C (-1 : Int32) dX12_read_18 (by decide) ?_
      obtain ⟨hi1, h⟩ := gd h
      refine z_iast C 55 12 sh_55 hi1 dX12_read_19 ?_
      refine z_iinc C (i := 1) (k := 1) (x1 + (1 : Int32)) [(1, .int (x1 + (1 : Int32))), (0, .ref (ad 50))] hl dX12_read_20 rfl rfl (by decide) rfl (fun ls hl => ?_)
      refine z_goto C 7 dX12_read_23 (by decide) ?_
      exact ih _ _ h _ (lv_sub hl [1, 0] rfl)
set_option maxRecDepth 20000 in
set_option maxHeartbeats 4000000 in
theorem zl_X12_read_48 {p : Program} {l : Launch} {e : Env} {s : State} {m : MethodId} {args : Array Value} {below : List Frame} {meth : Method} {c : Code} {D : va_G} {cA : Nat → ClassId} {ad : Nat → Nat} {Q : State → Prop} (C : Cx SH p s m args meth c cX12_read 2 (some .int) RX12 D cA ad (inAd ad)) (F : Nat)   {out : (Int32 × St) ⊕ (St)} (K1 : ∀ (r : Int32) (u' : St), out = .inl (r, u') → ∀ (pc : Nat) (ls : Array Slot), decode cX12_read pc = .ok (.ireturn, 1) → Z SH p l e (rmD 3) s m args below meth c D cA ad (inAd ad) 0 0 Q u' pc ls [.int r]) (K : ∀ (v : St), out = .inr v → ∀ ls : Array Slot, lv_has ls 2 [(0, .ref (ad 50))] → Z SH p l e (rmD 3) s m args below meth c D cA ad (inAd ad) 0 0 Q v 74 ls []) : ∀ (k : Nat)  (u : St), l_X12_read_48 F  k  u = some out → ∀ ls : Array Slot, lv_has ls 2 [(0, .ref (ad 50))] → Z SH p l e (rmD 3) s m args below meth c D cA ad (inAd ad) 0 0 Q u 48 ls [] := by
  intro k
  induction k with
  | zero => intro  u h; cases h
  | succ k ih =>
    intro  u h ls hl
    replace h : b_X12_read_48 F  (l_X12_read_48 F  k)  u = some out := h
    unfold b_X12_read_48 at h
    refine z_aload_n C (i := 0) (k := 0) hl dX12_read_48 rfl rfl ?_
    obtain ⟨⟨r15, u13⟩, hc14, h⟩ := bnd h
    try dsimp only at h
    refine z_callV C (ci := 12) [] [] [.int r15] (m_X12_look F  _ _ _ hc14) cw_X12_look vw_X12_look ml_X12_93 sh_50 rfl rfl rfl rfl hl.1 (Nat.le_of_ble_eq_true rfl) ⟨Nat.le_of_ble_eq_true rfl, Nat.le_of_ble_eq_true rfl⟩ ⟨Nat.le_refl _, Nat.le_refl _⟩ rfl dX12_read_49 ?_
    refine z_bipush C (59 : Int32) dX12_read_52 (by decide) ?_
    refine z_icmp_ne C 79 dX12_read_54 (by decide) (fun hc27 => ?_) (fun hc27 => ?_)
    · replace h := (if_neg hc27).symm.trans h
      refine z_aload_n C (i := 0) (k := 0) hl dX12_read_79 rfl rfl ?_
      obtain ⟨⟨r19, u17⟩, hc18, h⟩ := bnd h
      try dsimp only at h
      refine z_callV C (ci := 12) [] [] [.int r19] (m_X12_look F  _ _ _ hc18) cw_X12_look vw_X12_look ml_X12_93 sh_50 rfl rfl rfl rfl hl.1 (Nat.le_of_ble_eq_true rfl) ⟨Nat.le_of_ble_eq_true rfl, Nat.le_of_ble_eq_true rfl⟩ ⟨Nat.le_refl _, Nat.le_refl _⟩ rfl dX12_read_80 ?_
      refine z_iconst C (-1 : Int32) dX12_read_83 (by decide) ?_
      refine z_icmp_ne C 91 dX12_read_84 (by decide) (fun hc21 => ?_) (fun hc21 => ?_)
      · replace h := (if_neg hc21).symm.trans h
        refine z_aload_n C (i := 0) (k := 0) hl dX12_read_91 rfl rfl ?_
        refine z_geti C 50 12 fw_X12_90 sh_50 rfl dX12_read_92 ?_
        exact K1 _ _ (Option.some.inj h).symm _ _ dX12_read_95
      · replace h := (if_pos hc21).symm.trans h
        refine z_iconst C (-1 : Int32) dX12_read_87 (by decide) ?_
        refine z_goto C 95 dX12_read_88 (by decide) ?_
        exact K1 _ _ (Option.some.inj h).symm _ _ dX12_read_95
    · replace h := (if_pos hc27).symm.trans h
      refine z_aload_n C (i := 0) (k := 0) hl dX12_read_57 rfl rfl ?_
      refine z_dup C dX12_read_58 rfl ?_
      refine z_geti C 50 12 fw_X12_90 sh_50 rfl dX12_read_59 ?_
      refine z_iconst C (1 : Int32) dX12_read_62 (by decide) ?_
      refine z_iadd C dX12_read_63 ?_
      refine z_puti C 50 12 pw_X12_90 sh_50 rfl dX12_read_64 ?_
      refine z_aload_n C (i := 0) (k := 0) hl dX12_read_67 rfl rfl ?_
      obtain ⟨⟨r24, u22⟩, hc23, h⟩ := bnd h
      try dsimp only at h
      refine z_callV C (ci := 12) [] [] [.int r24] (m_X12_equation F  _ _ _ hc23) cw_X12_equation vw_X12_equation ml_X12_97 sh_50 rfl rfl rfl rfl hl.1 (Nat.le_of_ble_eq_true rfl) ⟨Nat.le_of_ble_eq_true rfl, Nat.le_of_ble_eq_true rfl⟩ ⟨Nat.le_refl _, Nat.le_refl _⟩ rfl dX12_read_68 ?_
      refine z_if_ne C 48 dX12_read_71 (by decide) (fun hc26 => ?_) (fun hc26 => ?_)
      · replace h := (if_neg hc26).symm.trans h
        exact ih  _ h _ (lv_sub hl [0] rfl)
      · replace h := (if_pos hc26).symm.trans h
        exact K _ (Option.some.inj h).symm _ (lv_sub hl [0] rfl)
set_option maxRecDepth 20000 in
set_option maxHeartbeats 4000000 in
theorem m_X12_read (F : Nat)  (u : St) (r : Int32) (u' : St)  (h : f_X12_read F  u = some (r, u')) : Mt yX12_read cX12_read 2 (some .int) 3 (fun ad => [.ref (ad 50)]) u (fun _ => some (.int r)) u' := by
  refine Mt.of (by decide) (fun ad => Nat.le_of_ble_eq_true rfl) ?_
  intro p l e s m args below meth c D cA ad ls C hl
  have hl : lv_has ls 2 [(0, .ref (ad 50))] := hl
  unfold f_X12_read at h
  refine z_aload_n C (i := 0) (k := 0) hl dX12_read_0 rfl rfl ?_
  refine z_iconst C (0 : Int32) dX12_read_1 (by decide) ?_
  refine z_puti C 50 12 pw_X12_90 sh_50 rfl dX12_read_2 ?_
  refine z_iconst C (0 : Int32) dX12_read_5 (by decide) ?_
  refine z_istore_n C (i := 1) [(1, .int (0 : Int32)), (0, .ref (ad 50))] hl dX12_read_6 rfl (by decide) rfl (fun ls hl => ?_)
  obtain ⟨w3, hw4, h⟩ := bnd h
  refine zl_X12_read_7 C F (out := w3) (fun ls hl => ?_) F _ _ hw4 _ (lv_sub hl [1, 0] rfl)
  refine z_aload_n C (i := 0) (k := 0) hl dX12_read_26 rfl rfl ?_
  obtain ⟨⟨r7, u5⟩, hc6, h⟩ := bnd h
  try dsimp only at h
  refine z_callV C (ci := 12) [] [] [.int r7] (m_X12_look F  _ _ _ hc6) cw_X12_look vw_X12_look ml_X12_93 sh_50 rfl rfl rfl rfl hl.1 (Nat.le_of_ble_eq_true rfl) ⟨Nat.le_of_ble_eq_true rfl, Nat.le_of_ble_eq_true rfl⟩ ⟨Nat.le_refl _, Nat.le_refl _⟩ rfl dX12_read_27 ?_
  refine z_iconst C (-1 : Int32) dX12_read_30 (by decide) ?_
  refine z_icmp_ne C 36 dX12_read_31 (by decide) (fun hc33 => ?_) (fun hc33 => ?_)
  · replace h := (if_neg hc33).symm.trans h
    refine z_aload_n C (i := 0) (k := 0) hl dX12_read_36 rfl rfl ?_
    obtain ⟨⟨r11, u9⟩, hc10, h⟩ := bnd h
    try dsimp only at h
    refine z_callV C (ci := 12) [] [] [.int r11] (m_X12_equation F  _ _ _ hc10) cw_X12_equation vw_X12_equation ml_X12_97 sh_50 rfl rfl rfl rfl hl.1 (Nat.le_of_ble_eq_true rfl) ⟨Nat.le_of_ble_eq_true rfl, Nat.le_of_ble_eq_true rfl⟩ ⟨Nat.le_refl _, Nat.le_refl _⟩ rfl dX12_read_37 ?_
    refine z_if_ne C 48 dX12_read_40 (by decide) (fun hc32 => ?_) (fun hc32 => ?_)
    · replace h := (if_neg hc32).symm.trans h
      obtain ⟨w28, hw29, h⟩ := bnd h
      refine zl_X12_read_48 C F (out := w28) (fun r8 u8 e31 pc ls hd => ?_) (fun v30 e31 ls hl => ?_) F  _ hw29 _ (lv_sub hl [0] rfl)
      · subst e31
        obtain ⟨rfl, rfl⟩ := r2 h
        exact z_iret C hd
      · subst e31
        try dsimp only [Sum.elim] at h
        refine z_aload_n C (i := 0) (k := 0) hl dX12_read_74 rfl rfl ?_
        refine z_geti C 50 12 fw_X12_90 sh_50 rfl dX12_read_75 ?_
        obtain ⟨rfl, rfl⟩ := r2 h
        exact z_iret C dX12_read_78
    · replace h := (if_pos hc32).symm.trans h
      refine z_aload_n C (i := 0) (k := 0) hl dX12_read_43 rfl rfl ?_
      refine z_geti C 50 12 fw_X12_90 sh_50 rfl dX12_read_44 ?_
      obtain ⟨rfl, rfl⟩ := r2 h
      exact z_iret C dX12_read_47
  · replace h := (if_pos hc33).symm.trans h
    refine z_iconst C (-1 : Int32) dX12_read_34 (by decide) ?_
    obtain ⟨rfl, rfl⟩ := r2 h
    exact z_iret C dX12_read_35
def b_X12_circuit_24 (F : Nat) (x1 : Int32) (rec : Int32 → St → Option (Int32 × St)) (x2 : Int32) (u : St) : Option (Int32 × St) := (if (12 : Int32) ≤ x2 then some (x2, u) else (if x2 < 0 ∨ 12 ≤ x2.toNatClampNeg then none else (if x2 < 0 ∨ 12 ≤ x2.toNatClampNeg then none else (if x2 < 0 ∨ 12 ≤ x2.toNatClampNeg then none else rec ((x2 + (1 : Int32))) (wr (wr u 52 x2.toNatClampNeg (u.1 55 x2.toNatClampNeg)) 58 x2.toNatClampNeg (vp_nar .boolean (0 : Int32)))))))
def l_X12_circuit_24 (F : Nat) (x1 : Int32) : Nat → Int32 → St → Option (Int32 × St)
  | 0, _, _ => none
  | k + 1, x2, u => b_X12_circuit_24 F x1 (l_X12_circuit_24 F x1 k) x2 u
def b_X12_circuit_57 (F : Nat) (x1 : Int32) (rec : Int32 → St → Option (Int32 × St)) (x2 : Int32) (u : St) : Option (Int32 × St) := (if (144 : Int32) ≤ x2 then some (x2, u) else (if x2 < 0 ∨ 144 ≤ x2.toNatClampNeg then none else (if x2 < 0 ∨ 144 ≤ x2.toNatClampNeg then none else (if x2 < 0 ∨ 144 ≤ x2.toNatClampNeg then none else (if x2 < 0 ∨ 144 ≤ x2.toNatClampNeg then none else rec ((x2 + (1 : Int32))) (wr (wr u 53 x2.toNatClampNeg (u.1 56 x2.toNatClampNeg)) 54 x2.toNatClampNeg ((wr u 53 x2.toNatClampNeg (u.1 56 x2.toNatClampNeg)).1 57 x2.toNatClampNeg)))))))
def l_X12_circuit_57 (F : Nat) (x1 : Int32) : Nat → Int32 → St → Option (Int32 × St)
  | 0, _, _ => none
  | k + 1, x2, u => b_X12_circuit_57 F x1 (l_X12_circuit_57 F x1 k) x2 u
def b_X12_circuit_96 (F : Nat) (x1 : Int32) (rec : Int32 → St → Option (Int32 × St)) (x2 : Int32) (u : St) : Option (Int32 × St) := (if (144 : Int32) ≤ x2 then some (x2, u) else (if x2 < 0 ∨ 144 ≤ x2.toNatClampNeg then none else rec ((x2 + (1 : Int32))) (wr u 59 x2.toNatClampNeg (vp_nar .boolean (0 : Int32)))))
def l_X12_circuit_96 (F : Nat) (x1 : Int32) : Nat → Int32 → St → Option (Int32 × St)
  | 0, _, _ => none
  | k + 1, x2, u => b_X12_circuit_96 F x1 (l_X12_circuit_96 F x1 k) x2 u
def f_X12_circuit (F : Nat) (x1 : Int32) (u : St) : Option (Int32 × St) := (Option.bind (f_X12_isState F x1 (wr u 50 0 (0 : Int32))) (fun w4 => (if w4.1 = 0 then some ((0 : Int32), w4.2) else (Option.bind (f_X12_read F w4.2) (fun w8 => (if w8.1 = (-1 : Int32) then (Option.bind (l_X12_circuit_24 F x1 F (0 : Int32) w8.2) (fun w13 => (Option.bind (l_X12_circuit_57 F x1 F (0 : Int32) w13.2) (fun w20 => (Option.bind (l_X12_circuit_96 F x1 F (0 : Int32) w20.2) (fun w24 => some ((1 : Int32), (wr (wr w24.2 50 9 x1) 50 2 (0 : Int32))))))))) else some ((0 : Int32), w8.2)))))))
set_option maxRecDepth 20000 in
set_option maxHeartbeats 4000000 in
theorem zl_X12_circuit_24 {p : Program} {l : Launch} {e : Env} {s : State} {m : MethodId} {args : Array Value} {below : List Frame} {meth : Method} {c : Code} {D : va_G} {cA : Nat → ClassId} {ad : Nat → Nat} {Q : State → Prop} (C : Cx SH p s m args meth c cX12_circuit 3 (some .boolean) RX12 D cA ad (inAd ad)) (F : Nat) (x1 : Int32)  {out : Int32 × St}  (K : ∀ ls : Array Slot, lv_has ls 3 [(0, .ref (ad 50)), (1, .int x1), (2, .int out.1)] → Z SH p l e (rmD 4) s m args below meth c D cA ad (inAd ad) 0 0 Q out.2 55 ls []) : ∀ (k : Nat) (x2 : Int32) (u : St), l_X12_circuit_24 F x1 k x2 u = some out → ∀ ls : Array Slot, lv_has ls 3 [(0, .ref (ad 50)), (1, .int x1), (2, .int x2)] → Z SH p l e (rmD 4) s m args below meth c D cA ad (inAd ad) 0 0 Q u 24 ls [] := by
  intro k
  induction k with
  | zero => intro x2 u h; cases h
  | succ k ih =>
    intro x2 u h ls hl
    replace h : b_X12_circuit_24 F x1 (l_X12_circuit_24 F x1 k) x2 u = some out := h
    unfold b_X12_circuit_24 at h
    refine z_iload_n C (i := 2) (k := 2) hl dX12_circuit_24 rfl rfl ?_
    refine z_bipush C (12 : Int32) dX12_circuit_25 (by decide) ?_
    refine z_icmp_ge C 55 dX12_circuit_27 (by decide) (fun hc12 => ?_) (fun hc12 => ?_)
    · replace h := (if_pos hc12).symm.trans h
      obtain rfl := Option.some.inj h
      exact K _ (lv_sub hl [0, 1, 2] rfl)
    · replace h := (if_neg hc12).symm.trans h
      refine z_aload_n C (i := 0) (k := 0) hl dX12_circuit_30 rfl rfl ?_
      refine z_getr C 50 3 52 fw_X12_13 sh_50 rfl dX12_circuit_31 ?_
      refine z_iload_n C (i := 2) (k := 2) hl dX12_circuit_34 rfl rfl ?_
      refine z_aload_n C (i := 0) (k := 0) hl dX12_circuit_35 rfl rfl ?_
      refine z_getr C 50 6 55 fw_X12_23 sh_50 rfl dX12_circuit_36 ?_
      refine z_iload_n C (i := 2) (k := 2) hl dX12_circuit_39 rfl rfl ?_
      obtain ⟨hi9, h⟩ := gd h
      refine z_iald C 55 12 sh_55 hi9 dX12_circuit_40 ?_
      obtain ⟨hi10, h⟩ := gd h
      refine z_iast C 52 12 sh_52 hi10 dX12_circuit_41 ?_
      refine z_aload_n C (i := 0) (k := 0) hl dX12_circuit_42 rfl rfl ?_
      refine z_getr C 50 10 58 fw_X12_32 sh_50 rfl dX12_circuit_43 ?_
      refine z_iload_n C (i := 2) (k := 2) hl dX12_circuit_46 rfl rfl ?_
      refine z_iconst C (0 : Int32) dX12_circuit_47 (by decide) ?_
      obtain ⟨hi11, h⟩ := gd h
      refine z_zast C 58 12 sh_58 hi11 dX12_circuit_48 ?_
      refine z_iinc C (i := 2) (k := 2) (x2 + (1 : Int32)) [(2, .int (x2 + (1 : Int32))), (0, .ref (ad 50)), (1, .int x1)] hl dX12_circuit_49 rfl rfl (by decide) rfl (fun ls hl => ?_)
      refine z_goto C 24 dX12_circuit_52 (by decide) ?_
      exact ih _ _ h _ (lv_sub hl [1, 2, 0] rfl)
set_option maxRecDepth 20000 in
set_option maxHeartbeats 4000000 in
theorem zl_X12_circuit_57 {p : Program} {l : Launch} {e : Env} {s : State} {m : MethodId} {args : Array Value} {below : List Frame} {meth : Method} {c : Code} {D : va_G} {cA : Nat → ClassId} {ad : Nat → Nat} {Q : State → Prop} (C : Cx SH p s m args meth c cX12_circuit 3 (some .boolean) RX12 D cA ad (inAd ad)) (F : Nat) (x1 : Int32)  {out : Int32 × St}  (K : ∀ ls : Array Slot, lv_has ls 3 [(0, .ref (ad 50)), (1, .int x1), (2, .int out.1)] → Z SH p l e (rmD 4) s m args below meth c D cA ad (inAd ad) 0 0 Q out.2 94 ls []) : ∀ (k : Nat) (x2 : Int32) (u : St), l_X12_circuit_57 F x1 k x2 u = some out → ∀ ls : Array Slot, lv_has ls 3 [(0, .ref (ad 50)), (1, .int x1), (2, .int x2)] → Z SH p l e (rmD 4) s m args below meth c D cA ad (inAd ad) 0 0 Q u 57 ls [] := by
  intro k
  induction k with
  | zero => intro x2 u h; cases h
  | succ k ih =>
    intro x2 u h ls hl
    replace h : b_X12_circuit_57 F x1 (l_X12_circuit_57 F x1 k) x2 u = some out := h
    unfold b_X12_circuit_57 at h
    refine z_iload_n C (i := 2) (k := 2) hl dX12_circuit_57 rfl rfl ?_
    refine z_sipush C (144 : Int32) dX12_circuit_58 (by decide) ?_
    refine z_icmp_ge C 94 dX12_circuit_61 (by decide) (fun hc19 => ?_) (fun hc19 => ?_)
    · replace h := (if_pos hc19).symm.trans h
      obtain rfl := Option.some.inj h
      exact K _ (lv_sub hl [0, 1, 2] rfl)
    · replace h := (if_neg hc19).symm.trans h
      refine z_aload_n C (i := 0) (k := 0) hl dX12_circuit_64 rfl rfl ?_
      refine z_getr C 50 4 53 fw_X12_17 sh_50 rfl dX12_circuit_65 ?_
      refine z_iload_n C (i := 2) (k := 2) hl dX12_circuit_68 rfl rfl ?_
      refine z_aload_n C (i := 0) (k := 0) hl dX12_circuit_69 rfl rfl ?_
      refine z_getr C 50 7 56 fw_X12_26 sh_50 rfl dX12_circuit_70 ?_
      refine z_iload_n C (i := 2) (k := 2) hl dX12_circuit_73 rfl rfl ?_
      obtain ⟨hi15, h⟩ := gd h
      refine z_iald C 56 144 sh_56 hi15 dX12_circuit_74 ?_
      obtain ⟨hi16, h⟩ := gd h
      refine z_iast C 53 144 sh_53 hi16 dX12_circuit_75 ?_
      refine z_aload_n C (i := 0) (k := 0) hl dX12_circuit_76 rfl rfl ?_
      refine z_getr C 50 5 54 fw_X12_20 sh_50 rfl dX12_circuit_77 ?_
      refine z_iload_n C (i := 2) (k := 2) hl dX12_circuit_80 rfl rfl ?_
      refine z_aload_n C (i := 0) (k := 0) hl dX12_circuit_81 rfl rfl ?_
      refine z_getr C 50 8 57 fw_X12_29 sh_50 rfl dX12_circuit_82 ?_
      refine z_iload_n C (i := 2) (k := 2) hl dX12_circuit_85 rfl rfl ?_
      obtain ⟨hi17, h⟩ := gd h
      refine z_iald C 57 144 sh_57 hi17 dX12_circuit_86 ?_
      obtain ⟨hi18, h⟩ := gd h
      refine z_iast C 54 144 sh_54 hi18 dX12_circuit_87 ?_
      refine z_iinc C (i := 2) (k := 2) (x2 + (1 : Int32)) [(2, .int (x2 + (1 : Int32))), (0, .ref (ad 50)), (1, .int x1)] hl dX12_circuit_88 rfl rfl (by decide) rfl (fun ls hl => ?_)
      refine z_goto C 57 dX12_circuit_91 (by decide) ?_
      exact ih _ _ h _ (lv_sub hl [1, 2, 0] rfl)
set_option maxRecDepth 20000 in
set_option maxHeartbeats 4000000 in
theorem zl_X12_circuit_96 {p : Program} {l : Launch} {e : Env} {s : State} {m : MethodId} {args : Array Value} {below : List Frame} {meth : Method} {c : Code} {D : va_G} {cA : Nat → ClassId} {ad : Nat → Nat} {Q : State → Prop} (C : Cx SH p s m args meth c cX12_circuit 3 (some .boolean) RX12 D cA ad (inAd ad)) (F : Nat) (x1 : Int32)  {out : Int32 × St}  (K : ∀ ls : Array Slot, lv_has ls 3 [(0, .ref (ad 50)), (1, .int x1), (2, .int out.1)] → Z SH p l e (rmD 4) s m args below meth c D cA ad (inAd ad) 0 0 Q out.2 116 ls []) : ∀ (k : Nat) (x2 : Int32) (u : St), l_X12_circuit_96 F x1 k x2 u = some out → ∀ ls : Array Slot, lv_has ls 3 [(0, .ref (ad 50)), (1, .int x1), (2, .int x2)] → Z SH p l e (rmD 4) s m args below meth c D cA ad (inAd ad) 0 0 Q u 96 ls [] := by
  intro k
  induction k with
  | zero => intro x2 u h; cases h
  | succ k ih =>
    intro x2 u h ls hl
    replace h : b_X12_circuit_96 F x1 (l_X12_circuit_96 F x1 k) x2 u = some out := h
    unfold b_X12_circuit_96 at h
    refine z_iload_n C (i := 2) (k := 2) hl dX12_circuit_96 rfl rfl ?_
    refine z_sipush C (144 : Int32) dX12_circuit_97 (by decide) ?_
    refine z_icmp_ge C 116 dX12_circuit_100 (by decide) (fun hc23 => ?_) (fun hc23 => ?_)
    · replace h := (if_pos hc23).symm.trans h
      obtain rfl := Option.some.inj h
      exact K _ (lv_sub hl [0, 1, 2] rfl)
    · replace h := (if_neg hc23).symm.trans h
      refine z_aload_n C (i := 0) (k := 0) hl dX12_circuit_103 rfl rfl ?_
      refine z_getr C 50 11 59 fw_X12_36 sh_50 rfl dX12_circuit_104 ?_
      refine z_iload_n C (i := 2) (k := 2) hl dX12_circuit_107 rfl rfl ?_
      refine z_iconst C (0 : Int32) dX12_circuit_108 (by decide) ?_
      obtain ⟨hi22, h⟩ := gd h
      refine z_zast C 59 144 sh_59 hi22 dX12_circuit_109 ?_
      refine z_iinc C (i := 2) (k := 2) (x2 + (1 : Int32)) [(2, .int (x2 + (1 : Int32))), (0, .ref (ad 50)), (1, .int x1)] hl dX12_circuit_110 rfl rfl (by decide) rfl (fun ls hl => ?_)
      refine z_goto C 96 dX12_circuit_113 (by decide) ?_
      exact ih _ _ h _ (lv_sub hl [1, 2, 0] rfl)
set_option maxRecDepth 20000 in
set_option maxHeartbeats 4000000 in
theorem m_X12_circuit (F : Nat) (x1 : Int32) (u : St) (r : Int32) (u' : St)  (h : f_X12_circuit F x1 u = some (r, u')) : Mt yX12_circuit cX12_circuit 3 (some .boolean) 4 (fun ad => [.ref (ad 50), .int x1]) u (fun _ => some (.int r)) u' := by
  refine Mt.of (by decide) (fun ad => Nat.le_of_ble_eq_true rfl) ?_
  intro p l e s m args below meth c D cA ad ls C hl
  have hl : lv_has ls 3 [(0, .ref (ad 50)), (1, .int x1)] := hl
  unfold f_X12_circuit at h
  refine z_aload_n C (i := 0) (k := 0) hl dX12_circuit_0 rfl rfl ?_
  refine z_iconst C (0 : Int32) dX12_circuit_1 (by decide) ?_
  refine z_puti C 50 0 pw_X12_75 sh_50 rfl dX12_circuit_2 ?_
  refine z_iload_n C (i := 1) (k := 1) hl dX12_circuit_5 rfl rfl ?_
  obtain ⟨⟨r3, u1⟩, hc2, h⟩ := bnd h
  try dsimp only at h
  refine z_callS C [.int x1] [] [.int r3] (m_X12_isState F _ _ _ _ hc2) cw_X12_isState sw_X12_isState ml_X12_111 rfl rfl rfl hl.1 (Nat.le_of_ble_eq_true rfl) ⟨Nat.le_of_ble_eq_true rfl, Nat.le_of_ble_eq_true rfl⟩ ⟨Nat.le_refl _, Nat.le_refl _⟩ rfl dX12_circuit_6 ?_
  refine z_if_eq C 20 dX12_circuit_9 (by decide) (fun hc27 => ?_) (fun hc27 => ?_)
  · replace h := (if_pos hc27).symm.trans h
    refine z_iconst C (0 : Int32) dX12_circuit_20 (by decide) ?_
    obtain ⟨rfl, rfl⟩ := r2 h
    exact z_zret (by decide) C dX12_circuit_21
  · replace h := (if_neg hc27).symm.trans h
    refine z_aload_n C (i := 0) (k := 0) hl dX12_circuit_12 rfl rfl ?_
    obtain ⟨⟨r7, u5⟩, hc6, h⟩ := bnd h
    try dsimp only at h
    refine z_callV C (ci := 12) [] [] [.int r7] (m_X12_read F  _ _ _ hc6) cw_X12_read vw_X12_read ml_X12_108 sh_50 rfl rfl rfl rfl hl.1 (Nat.le_of_ble_eq_true rfl) ⟨Nat.le_of_ble_eq_true rfl, Nat.le_of_ble_eq_true rfl⟩ ⟨Nat.le_refl _, Nat.le_refl _⟩ rfl dX12_circuit_13 ?_
    refine z_iconst C (-1 : Int32) dX12_circuit_16 (by decide) ?_
    refine z_icmp_eq C 22 dX12_circuit_17 (by decide) (fun hc26 => ?_) (fun hc26 => ?_)
    · replace h := (if_pos hc26).symm.trans h
      refine z_iconst C (0 : Int32) dX12_circuit_22 (by decide) ?_
      refine z_istore_n C (i := 2) [(2, .int (0 : Int32)), (0, .ref (ad 50)), (1, .int x1)] hl dX12_circuit_23 rfl (by decide) rfl (fun ls hl => ?_)
      obtain ⟨w13, hw14, h⟩ := bnd h
      refine zl_X12_circuit_24 C F x1 (out := w13) (fun ls hl => ?_) F _ _ hw14 _ (lv_sub hl [1, 2, 0] rfl)
      refine z_iconst C (0 : Int32) dX12_circuit_55 (by decide) ?_
      refine z_istore_n C (i := 2) [(2, .int (0 : Int32)), (0, .ref (ad 50)), (1, .int x1)] hl dX12_circuit_56 rfl (by decide) rfl (fun ls hl => ?_)
      obtain ⟨w20, hw21, h⟩ := bnd h
      refine zl_X12_circuit_57 C F x1 (out := w20) (fun ls hl => ?_) F _ _ hw21 _ (lv_sub hl [1, 2, 0] rfl)
      refine z_iconst C (0 : Int32) dX12_circuit_94 (by decide) ?_
      refine z_istore_n C (i := 2) [(2, .int (0 : Int32)), (0, .ref (ad 50)), (1, .int x1)] hl dX12_circuit_95 rfl (by decide) rfl (fun ls hl => ?_)
      obtain ⟨w24, hw25, h⟩ := bnd h
      refine zl_X12_circuit_96 C F x1 (out := w24) (fun ls hl => ?_) F _ _ hw25 _ (lv_sub hl [1, 2, 0] rfl)
      refine z_aload_n C (i := 0) (k := 0) hl dX12_circuit_116 rfl rfl ?_
      refine z_iload_n C (i := 1) (k := 1) hl dX12_circuit_117 rfl rfl ?_
      refine z_puti C 50 9 pw_X12_114 sh_50 rfl dX12_circuit_118 ?_
      refine z_aload_n C (i := 0) (k := 0) hl dX12_circuit_121 rfl rfl ?_
      refine z_iconst C (0 : Int32) dX12_circuit_122 (by decide) ?_
      refine z_puti C 50 2 pw_X12_79 sh_50 rfl dX12_circuit_123 ?_
      refine z_iconst C (1 : Int32) dX12_circuit_126 (by decide) ?_
      obtain ⟨rfl, rfl⟩ := r2 h
      exact z_zret (by decide) C dX12_circuit_127
    · replace h := (if_neg hc26).symm.trans h
      refine z_iconst C (0 : Int32) dX12_circuit_20 (by decide) ?_
      obtain ⟨rfl, rfl⟩ := r2 h
      exact z_zret (by decide) C dX12_circuit_21
def f_X12_clear (F : Nat)  (u : St) : Option (St) := some (wr (wr (wr u 50 0 (0 : Int32)) 50 24 (0 : Int32)) 50 25 (0 : Int32))
set_option maxRecDepth 20000 in
set_option maxHeartbeats 4000000 in
theorem m_X12_clear (F : Nat)  (u : St) (u' : St)  (h : f_X12_clear F  u = some u') : Mt yX12_clear cX12_clear 1 none 0 (fun ad => [.ref (ad 50)]) u (fun _ => none) u' := by
  refine Mt.of (by decide) (fun ad => Nat.le_of_ble_eq_true rfl) ?_
  intro p l e s m args below meth c D cA ad ls C hl
  have hl : lv_has ls 1 [(0, .ref (ad 50))] := hl
  unfold f_X12_clear at h
  refine z_aload_n C (i := 0) (k := 0) hl dX12_clear_0 rfl rfl ?_
  refine z_iconst C (0 : Int32) dX12_clear_1 (by decide) ?_
  refine z_puti C 50 0 pw_X12_75 sh_50 rfl dX12_clear_2 ?_
  refine z_aload_n C (i := 0) (k := 0) hl dX12_clear_5 rfl rfl ?_
  refine z_iconst C (0 : Int32) dX12_clear_6 (by decide) ?_
  refine z_puti C 50 24 pw_X12_156 sh_50 rfl dX12_clear_7 ?_
  refine z_aload_n C (i := 0) (k := 0) hl dX12_clear_10 rfl rfl ?_
  refine z_iconst C (0 : Int32) dX12_clear_11 (by decide) ?_
  refine z_puti C 50 25 pw_X12_159 sh_50 rfl dX12_clear_12 ?_
  obtain rfl := Option.some.inj h
  exact z_vret C dX12_clear_15
