def b_X2_signalOf_26 (F : Nat) (x1 : Int32) (x2 : Int32) (x3 : Int32) (x4 : Int32) (x6 : Int32) (rec : Int32 → Int32 → St → Option ((Int32 × St) ⊕ (Int32 × Int32 × St))) (x5 : Int32) (x7 : Int32) (u : St) : Option ((Int32 × St) ⊕ (Int32 × Int32 × St)) := (if (12 : Int32) ≤ x7 then some (Sum.inr (x5, x7, u)) else (Option.bind (f_X11_isIn F x4 x7 u) (fun w8 => (if w8.1 = 0 then rec x5 ((x7 + (1 : Int32))) w8.2 else (Option.bind (f_X0_takenBackBy F x7 x1 w8.2) (fun w12 => (Option.bind (f_X11_isIn F w12.1 x6 w12.2) (fun w16 => (if w16.1 = 0 then rec x5 ((x7 + (1 : Int32))) w16.2 else (if x5 = x2 then (if x3 = (1 : Int32) then some (Sum.inl (x6, w16.2)) else some (Sum.inl (x7, w16.2))) else rec ((x5 + (1 : Int32))) ((x7 + (1 : Int32))) w16.2))))))))))
def l_X2_signalOf_26 (F : Nat) (x1 : Int32) (x2 : Int32) (x3 : Int32) (x4 : Int32) (x6 : Int32) : Nat → Int32 → Int32 → St → Option ((Int32 × St) ⊕ (Int32 × Int32 × St))
  | 0, _, _, _ => none
  | k + 1, x5, x7, u => b_X2_signalOf_26 F x1 x2 x3 x4 x6 (l_X2_signalOf_26 F x1 x2 x3 x4 x6 k) x5 x7 u
def b_X2_signalOf_16 (F : Nat) (x1 : Int32) (x2 : Int32) (x3 : Int32) (x4 : Int32) (rec : Int32 → Int32 → St → Option ((Int32 × St) ⊕ (Int32 × Int32 × St))) (x5 : Int32) (x6 : Int32) (u : St) : Option ((Int32 × St) ⊕ (Int32 × Int32 × St)) := (if (12 : Int32) ≤ x6 then some (Sum.inr (x5, x6, u)) else (Option.bind (l_X2_signalOf_26 F x1 x2 x3 x4 x6 F x5 (0 : Int32) u) (fun w22 => Sum.elim (fun r => some (Sum.inl r)) (fun v24 => rec v24.1 ((x6 + (1 : Int32))) v24.2.2) w22)))
def l_X2_signalOf_16 (F : Nat) (x1 : Int32) (x2 : Int32) (x3 : Int32) (x4 : Int32) : Nat → Int32 → Int32 → St → Option ((Int32 × St) ⊕ (Int32 × Int32 × St))
  | 0, _, _, _ => none
  | k + 1, x5, x6, u => b_X2_signalOf_16 F x1 x2 x3 x4 (l_X2_signalOf_16 F x1 x2 x3 x4 k) x5 x6 u
def f_X2_signalOf (F : Nat) (x1 : Int32) (x2 : Int32) (x3 : Int32) (u : St) : Option (Int32 × St) := (Option.bind (f_X0_askedIn F x1 u) (fun w4 => (Option.bind (l_X2_signalOf_16 F x1 x2 x3 w4.1 F (0 : Int32) (0 : Int32) w4.2) (fun w27 => Sum.elim (fun r => some r) (fun v29 => some ((-1 : Int32), v29.2.2)) w27))))
set_option maxRecDepth 20000 in
set_option maxHeartbeats 4000000 in
theorem zl_X2_signalOf_26 {p : Program} {l : Launch} {e : Env} {s : State} {m : MethodId} {args : Array Value} {below : List Frame} {meth : Method} {c : Code} {D : va_G} {cA : Nat → ClassId} {ad : Nat → Nat} {Q : State → Prop} (C : Cx SH p s m args meth c cX2_signalOf 8 (some .int) RX2 D cA ad (inAd ad)) (F : Nat) (x1 : Int32) (x2 : Int32) (x3 : Int32) (x4 : Int32) (x6 : Int32)  {out : (Int32 × St) ⊕ (Int32 × Int32 × St)} (K1 : ∀ (r : Int32) (u' : St), out = .inl (r, u') → ∀ (pc : Nat) (ls : Array Slot), decode cX2_signalOf pc = .ok (.ireturn, 1) → Z SH p l e (rmD 3) s m args below meth c D cA ad (inAd ad) 0 0 Q u' pc ls [.int r]) (K : ∀ (v : Int32 × Int32 × St), out = .inr v → ∀ ls : Array Slot, lv_has ls 8 [(0, .ref (ad 16)), (1, .int x1), (2, .int x2), (3, .int x3), (4, .int x4), (5, .int v.1), (6, .int x6), (7, .int v.2.1)] → Z SH p l e (rmD 3) s m args below meth c D cA ad (inAd ad) 0 0 Q v.2.2 89 ls []) : ∀ (k : Nat) (x5 : Int32) (x7 : Int32) (u : St), l_X2_signalOf_26 F x1 x2 x3 x4 x6 k x5 x7 u = some out → ∀ ls : Array Slot, lv_has ls 8 [(0, .ref (ad 16)), (1, .int x1), (2, .int x2), (3, .int x3), (4, .int x4), (5, .int x5), (6, .int x6), (7, .int x7)] → Z SH p l e (rmD 3) s m args below meth c D cA ad (inAd ad) 0 0 Q u 26 ls [] := by
  intro k
  induction k with
  | zero => intro x5 x7 u h; cases h
  | succ k ih =>
    intro x5 x7 u h ls hl
    replace h : b_X2_signalOf_26 F x1 x2 x3 x4 x6 (l_X2_signalOf_26 F x1 x2 x3 x4 x6 k) x5 x7 u = some out := h
    unfold b_X2_signalOf_26 at h
    refine z_iload C (i := 7) (k := 7) hl dX2_signalOf_26 rfl ?_
    refine z_bipush C (12 : Int32) dX2_signalOf_28 (by decide) ?_
    refine z_icmp_ge C 89 dX2_signalOf_30 (by decide) (fun hc21 => ?_) (fun hc21 => ?_)
    · replace h := (if_pos hc21).symm.trans h
      exact K _ (Option.some.inj h).symm _ (lv_sub hl [0, 1, 2, 3, 4, 5, 6, 7] rfl)
    · replace h := (if_neg hc21).symm.trans h
      refine z_iload C (i := 4) (k := 4) hl dX2_signalOf_33 rfl ?_
      refine z_iload C (i := 7) (k := 7) hl dX2_signalOf_35 rfl ?_
      obtain ⟨⟨r7, u5⟩, hc6, h⟩ := bnd h
      try dsimp only at h
      refine z_callSN C [.int x4, .int x7] [] [.int r7] (m_X11_isIn F _ _ _ _ _ hc6) cw_X11_isIn sw_X11_isIn mn_X2_48 rfl rfl rfl hl.1 (Nat.le_of_ble_eq_true rfl) ⟨Nat.le_of_ble_eq_true rfl, Nat.le_of_ble_eq_true rfl⟩ ⟨Nat.le_refl _, Nat.le_refl _⟩ rfl dX2_signalOf_37 ?_
      refine z_if_eq C 83 dX2_signalOf_40 (by decide) (fun hc20 => ?_) (fun hc20 => ?_)
      · replace h := (if_pos hc20).symm.trans h
        refine z_iinc C (i := 7) (k := 7) (x7 + (1 : Int32)) [(7, .int (x7 + (1 : Int32))), (0, .ref (ad 16)), (1, .int x1), (2, .int x2), (3, .int x3), (4, .int x4), (5, .int x5), (6, .int x6)] hl dX2_signalOf_83 rfl rfl (by decide) rfl (fun ls hl => ?_)
        refine z_goto C 26 dX2_signalOf_86 (by decide) ?_
        exact ih _ _ _ h _ (lv_sub hl [1, 2, 3, 4, 5, 6, 7, 0] rfl)
      · replace h := (if_neg hc20).symm.trans h
        refine z_aload_n C (i := 0) (k := 0) hl dX2_signalOf_43 rfl rfl ?_
        refine z_getr C 16 0 4 fw_X2_15 sh_16 rfl dX2_signalOf_44 ?_
        refine z_iload C (i := 7) (k := 7) hl dX2_signalOf_47 rfl ?_
        refine z_iload_n C (i := 1) (k := 1) hl dX2_signalOf_49 rfl rfl ?_
        obtain ⟨⟨r11, u9⟩, hc10, h⟩ := bnd h
        try dsimp only at h
        refine z_callV C (ci := 0) [.int x7, .int x1] [] [.int r11] (m_X0_takenBackBy F _ _ _ _ _ hc10) cw_X0_takenBackBy vw_X0_takenBackBy ml_X2_52 sh_4 rfl rfl rfl rfl hl.1 (Nat.le_of_ble_eq_true rfl) ⟨Nat.le_of_ble_eq_true rfl, Nat.le_of_ble_eq_true rfl⟩ ⟨Nat.le_refl _, Nat.le_refl _⟩ rfl dX2_signalOf_50 ?_
        refine z_iload C (i := 6) (k := 6) hl dX2_signalOf_53 rfl ?_
        obtain ⟨⟨r15, u13⟩, hc14, h⟩ := bnd h
        try dsimp only at h
        refine z_callSN C [.int r11, .int x6] [] [.int r15] (m_X11_isIn F _ _ _ _ _ hc14) cw_X11_isIn sw_X11_isIn mn_X2_48 rfl rfl rfl hl.1 (Nat.le_of_ble_eq_true rfl) ⟨Nat.le_of_ble_eq_true rfl, Nat.le_of_ble_eq_true rfl⟩ ⟨Nat.le_refl _, Nat.le_refl _⟩ rfl dX2_signalOf_55 ?_
        refine z_if_eq C 83 dX2_signalOf_58 (by decide) (fun hc19 => ?_) (fun hc19 => ?_)
        · replace h := (if_pos hc19).symm.trans h
          refine z_iinc C (i := 7) (k := 7) (x7 + (1 : Int32)) [(7, .int (x7 + (1 : Int32))), (0, .ref (ad 16)), (1, .int x1), (2, .int x2), (3, .int x3), (4, .int x4), (5, .int x5), (6, .int x6)] hl dX2_signalOf_83 rfl rfl (by decide) rfl (fun ls hl => ?_)
          refine z_goto C 26 dX2_signalOf_86 (by decide) ?_
          exact ih _ _ _ h _ (lv_sub hl [1, 2, 3, 4, 5, 6, 7, 0] rfl)
        · replace h := (if_neg hc19).symm.trans h
          refine z_iload C (i := 5) (k := 5) hl dX2_signalOf_61 rfl ?_
          refine z_iload_n C (i := 2) (k := 2) hl dX2_signalOf_63 rfl rfl ?_
          refine z_icmp_ne C 80 dX2_signalOf_64 (by decide) (fun hc18 => ?_) (fun hc18 => ?_)
          · replace h := (if_neg hc18).symm.trans h
            refine z_iinc C (i := 5) (k := 5) (x5 + (1 : Int32)) [(5, .int (x5 + (1 : Int32))), (0, .ref (ad 16)), (1, .int x1), (2, .int x2), (3, .int x3), (4, .int x4), (6, .int x6), (7, .int x7)] hl dX2_signalOf_80 rfl rfl (by decide) rfl (fun ls hl => ?_)
            refine z_iinc C (i := 7) (k := 7) (x7 + (1 : Int32)) [(7, .int (x7 + (1 : Int32))), (5, .int (x5 + (1 : Int32))), (0, .ref (ad 16)), (1, .int x1), (2, .int x2), (3, .int x3), (4, .int x4), (6, .int x6)] hl dX2_signalOf_83 rfl rfl (by decide) rfl (fun ls hl => ?_)
            refine z_goto C 26 dX2_signalOf_86 (by decide) ?_
            exact ih _ _ _ h _ (lv_sub hl [2, 3, 4, 5, 6, 1, 7, 0] rfl)
          · replace h := (if_pos hc18).symm.trans h
            refine z_iload_n C (i := 3) (k := 3) hl dX2_signalOf_67 rfl rfl ?_
            refine z_iconst C (1 : Int32) dX2_signalOf_68 (by decide) ?_
            refine z_icmp_ne C 77 dX2_signalOf_69 (by decide) (fun hc17 => ?_) (fun hc17 => ?_)
            · replace h := (if_neg hc17).symm.trans h
              refine z_iload C (i := 7) (k := 7) hl dX2_signalOf_77 rfl ?_
              exact K1 _ _ (Option.some.inj h).symm _ _ dX2_signalOf_79
            · replace h := (if_pos hc17).symm.trans h
              refine z_iload C (i := 6) (k := 6) hl dX2_signalOf_72 rfl ?_
              refine z_goto C 79 dX2_signalOf_74 (by decide) ?_
              exact K1 _ _ (Option.some.inj h).symm _ _ dX2_signalOf_79
set_option maxRecDepth 20000 in
set_option maxHeartbeats 4000000 in
theorem zl_X2_signalOf_16 {p : Program} {l : Launch} {e : Env} {s : State} {m : MethodId} {args : Array Value} {below : List Frame} {meth : Method} {c : Code} {D : va_G} {cA : Nat → ClassId} {ad : Nat → Nat} {Q : State → Prop} (C : Cx SH p s m args meth c cX2_signalOf 8 (some .int) RX2 D cA ad (inAd ad)) (F : Nat) (x1 : Int32) (x2 : Int32) (x3 : Int32) (x4 : Int32)  {out : (Int32 × St) ⊕ (Int32 × Int32 × St)} (K1 : ∀ (r : Int32) (u' : St), out = .inl (r, u') → ∀ (pc : Nat) (ls : Array Slot), decode cX2_signalOf pc = .ok (.ireturn, 1) → Z SH p l e (rmD 3) s m args below meth c D cA ad (inAd ad) 0 0 Q u' pc ls [.int r]) (K : ∀ (v : Int32 × Int32 × St), out = .inr v → ∀ ls : Array Slot, lv_has ls 8 [(0, .ref (ad 16)), (1, .int x1), (2, .int x2), (3, .int x3), (4, .int x4), (5, .int v.1), (6, .int v.2.1)] → Z SH p l e (rmD 3) s m args below meth c D cA ad (inAd ad) 0 0 Q v.2.2 95 ls []) : ∀ (k : Nat) (x5 : Int32) (x6 : Int32) (u : St), l_X2_signalOf_16 F x1 x2 x3 x4 k x5 x6 u = some out → ∀ ls : Array Slot, lv_has ls 8 [(0, .ref (ad 16)), (1, .int x1), (2, .int x2), (3, .int x3), (4, .int x4), (5, .int x5), (6, .int x6)] → Z SH p l e (rmD 3) s m args below meth c D cA ad (inAd ad) 0 0 Q u 16 ls [] := by
  intro k
  induction k with
  | zero => intro x5 x6 u h; cases h
  | succ k ih =>
    intro x5 x6 u h ls hl
    replace h : b_X2_signalOf_16 F x1 x2 x3 x4 (l_X2_signalOf_16 F x1 x2 x3 x4 k) x5 x6 u = some out := h
    unfold b_X2_signalOf_16 at h
    refine z_iload C (i := 6) (k := 6) hl dX2_signalOf_16 rfl ?_
    refine z_bipush C (12 : Int32) dX2_signalOf_18 (by decide) ?_
    refine z_icmp_ge C 95 dX2_signalOf_20 (by decide) (fun hc26 => ?_) (fun hc26 => ?_)
    · replace h := (if_pos hc26).symm.trans h
      exact K _ (Option.some.inj h).symm _ (lv_sub hl [0, 1, 2, 3, 4, 5, 6] rfl)
    · replace h := (if_neg hc26).symm.trans h
      refine z_iconst C (0 : Int32) dX2_signalOf_23 (by decide) ?_
      refine z_istore C (i := 7) [(7, .int (0 : Int32)), (0, .ref (ad 16)), (1, .int x1), (2, .int x2), (3, .int x3), (4, .int x4), (5, .int x5), (6, .int x6)] hl dX2_signalOf_24 (by decide) rfl (fun ls hl => ?_)
      obtain ⟨w22, hw23, h⟩ := bnd h
      refine zl_X2_signalOf_26 C F x1 x2 x3 x4 x6 (out := w22) (fun r8 u8 e25 pc ls hd => ?_) (fun v24 e25 ls hl => ?_) F _ _ _ hw23 _ (lv_sub hl [1, 2, 3, 4, 5, 6, 7, 0] rfl)
      · subst e25
        exact K1 _ _ (Option.some.inj h).symm _ _ hd
      · subst e25
        try dsimp only [Sum.elim] at h
        refine z_iinc C (i := 6) (k := 6) (x6 + (1 : Int32)) [(6, .int (x6 + (1 : Int32))), (0, .ref (ad 16)), (1, .int x1), (2, .int x2), (3, .int x3), (4, .int x4), (5, .int v24.1), (7, .int v24.2.1)] hl dX2_signalOf_89 rfl rfl (by decide) rfl (fun ls hl => ?_)
        refine z_goto C 16 dX2_signalOf_92 (by decide) ?_
        exact ih _ _ _ h _ (lv_sub hl [1, 2, 3, 4, 5, 6, 0] rfl)
set_option maxRecDepth 20000 in
set_option maxHeartbeats 4000000 in
theorem m_X2_signalOf (F : Nat) (x1 : Int32) (x2 : Int32) (x3 : Int32) (u : St) (r : Int32) (u' : St)  (h : f_X2_signalOf F x1 x2 x3 u = some (r, u')) : Mt yX2_signalOf cX2_signalOf 8 (some .int) 3 (fun ad => [.ref (ad 16), .int x1, .int x2, .int x3]) u (fun _ => some (.int r)) u' := by
  refine Mt.of (by decide) (fun ad => Nat.le_of_ble_eq_true rfl) ?_
  intro p l e s m args below meth c D cA ad ls C hl
  have hl : lv_has ls 8 [(0, .ref (ad 16)), (1, .int x1), (2, .int x2), (3, .int x3)] := hl
  unfold f_X2_signalOf at h
  refine z_aload_n C (i := 0) (k := 0) hl dX2_signalOf_0 rfl rfl ?_
  refine z_getr C 16 0 4 fw_X2_15 sh_16 rfl dX2_signalOf_1 ?_
  refine z_iload_n C (i := 1) (k := 1) hl dX2_signalOf_4 rfl rfl ?_
  obtain ⟨⟨r3, u1⟩, hc2, h⟩ := bnd h
  try dsimp only at h
  refine z_callV C (ci := 0) [.int x1] [] [.int r3] (m_X0_askedIn F _ _ _ _ hc2) cw_X0_askedIn vw_X0_askedIn ml_X2_43 sh_4 rfl rfl rfl rfl hl.1 (Nat.le_of_ble_eq_true rfl) ⟨Nat.le_of_ble_eq_true rfl, Nat.le_of_ble_eq_true rfl⟩ ⟨Nat.le_refl _, Nat.le_refl _⟩ rfl dX2_signalOf_5 ?_
  refine z_istore C (i := 4) [(4, .int r3), (0, .ref (ad 16)), (1, .int x1), (2, .int x2), (3, .int x3)] hl dX2_signalOf_8 (by decide) rfl (fun ls hl => ?_)
  refine z_iconst C (0 : Int32) dX2_signalOf_10 (by decide) ?_
  refine z_istore C (i := 5) [(5, .int (0 : Int32)), (4, .int r3), (0, .ref (ad 16)), (1, .int x1), (2, .int x2), (3, .int x3)] hl dX2_signalOf_11 (by decide) rfl (fun ls hl => ?_)
  refine z_iconst C (0 : Int32) dX2_signalOf_13 (by decide) ?_
  refine z_istore C (i := 6) [(6, .int (0 : Int32)), (5, .int (0 : Int32)), (4, .int r3), (0, .ref (ad 16)), (1, .int x1), (2, .int x2), (3, .int x3)] hl dX2_signalOf_14 (by decide) rfl (fun ls hl => ?_)
  obtain ⟨w27, hw28, h⟩ := bnd h
  refine zl_X2_signalOf_16 C F x1 x2 x3 r3 (out := w27) (fun r8 u8 e30 pc ls hd => ?_) (fun v29 e30 ls hl => ?_) F _ _ _ hw28 _ (lv_sub hl [3, 4, 5, 6, 2, 1, 0] rfl)
  · subst e30
    obtain ⟨rfl, rfl⟩ := r2 h
    exact z_iret C hd
  · subst e30
    try dsimp only [Sum.elim] at h
    refine z_iconst C (-1 : Int32) dX2_signalOf_95 (by decide) ?_
    obtain ⟨rfl, rfl⟩ := r2 h
    exact z_iret C dX2_signalOf_96
def f_X2_partOf (F : Nat) (x1 : Int32) (x2 : Int32) (u : St) : Option (Int32 × St) := (if x1 < 0 then some ((-1 : Int32), u) else (if x1 < (u.1 16 3) then (Option.bind (f_X2_placeWith F x1 u) (fun w4 => (Option.bind (f_X10_stateAt F w4.1 w4.2) (fun w8 => (if x2 = 0 then some (w8.1, w8.2) else (if w4.1 = 0 then (Option.bind (f_X2_signalOf F w8.1 x1 x2 w8.2) (fun w17 => some (w17.1, w17.2))) else (if (w4.1 - (1 : Int32)) < 0 ∨ 4096 ≤ (w4.1 - (1 : Int32)).toNatClampNeg then none else (Option.bind (f_X2_signalOf F w8.1 (x1 - (w8.2.1 17 (w4.1 - (1 : Int32)).toNatClampNeg)) x2 w8.2) (fun w13 => some (w13.1, w13.2)))))))))) else some ((-1 : Int32), u)))
set_option maxRecDepth 20000 in
set_option maxHeartbeats 4000000 in
theorem m_X2_partOf (F : Nat) (x1 : Int32) (x2 : Int32) (u : St) (r : Int32) (u' : St)  (h : f_X2_partOf F x1 x2 u = some (r, u')) : Mt yX2_partOf cX2_partOf 5 (some .int) 4 (fun ad => [.ref (ad 16), .int x1, .int x2]) u (fun _ => some (.int r)) u' := by
  refine Mt.of (by decide) (fun ad => Nat.le_of_ble_eq_true rfl) ?_
  intro p l e s m args below meth c D cA ad ls C hl
  have hl : lv_has ls 5 [(0, .ref (ad 16)), (1, .int x1), (2, .int x2)] := hl
  unfold f_X2_partOf at h
  refine z_iload_n C (i := 1) (k := 1) hl dX2_partOf_0 rfl rfl ?_
  refine z_if_lt C 12 dX2_partOf_1 (by decide) (fun hc21 => ?_) (fun hc21 => ?_)
  · replace h := (if_pos hc21).symm.trans h
    refine z_iconst C (-1 : Int32) dX2_partOf_12 (by decide) ?_
    obtain ⟨rfl, rfl⟩ := r2 h
    exact z_iret C dX2_partOf_13
  · replace h := (if_neg hc21).symm.trans h
    refine z_iload_n C (i := 1) (k := 1) hl dX2_partOf_4 rfl rfl ?_
    refine z_aload_n C (i := 0) (k := 0) hl dX2_partOf_5 rfl rfl ?_
    refine z_geti C 16 3 fw_X2_27 sh_16 rfl dX2_partOf_6 ?_
    refine z_icmp_lt C 14 dX2_partOf_9 (by decide) (fun hc20 => ?_) (fun hc20 => ?_)
    · replace h := (if_pos hc20).symm.trans h
      refine z_aload_n C (i := 0) (k := 0) hl dX2_partOf_14 rfl rfl ?_
      refine z_iload_n C (i := 1) (k := 1) hl dX2_partOf_15 rfl rfl ?_
      obtain ⟨⟨r3, u1⟩, hc2, h⟩ := bnd h
      try dsimp only at h
      refine z_callV C (ci := 2) [.int x1] [] [.int r3] (m_X2_placeWith F _ _ _ _ hc2) cw_X2_placeWith vw_X2_placeWith ml_X2_61 sh_16 rfl rfl rfl rfl hl.1 (Nat.le_of_ble_eq_true rfl) ⟨Nat.le_of_ble_eq_true rfl, Nat.le_of_ble_eq_true rfl⟩ ⟨Nat.le_refl _, Nat.le_refl _⟩ rfl dX2_partOf_16 ?_
      refine z_istore_n C (i := 3) [(3, .int r3), (0, .ref (ad 16)), (1, .int x1), (2, .int x2)] hl dX2_partOf_19 rfl (by decide) rfl (fun ls hl => ?_)
      refine z_aload_n C (i := 0) (k := 1) hl dX2_partOf_20 rfl rfl ?_
      refine z_getr C 16 1 11 fw_X2_19 sh_16 rfl dX2_partOf_21 ?_
      refine z_iload_n C (i := 3) (k := 0) hl dX2_partOf_24 rfl rfl ?_
      obtain ⟨⟨r7, u5⟩, hc6, h⟩ := bnd h
      try dsimp only at h
      refine z_callV C (ci := 10) [.int r3] [] [.int r7] (m_X10_stateAt F _ _ _ _ hc6) cw_X10_stateAt vw_X10_stateAt ml_X2_36 sh_11 rfl rfl rfl rfl hl.1 (Nat.le_of_ble_eq_true rfl) ⟨Nat.le_of_ble_eq_true rfl, Nat.le_of_ble_eq_true rfl⟩ ⟨Nat.le_refl _, Nat.le_refl _⟩ rfl dX2_partOf_25 ?_
      refine z_istore C (i := 4) [(4, .int r7), (3, .int r3), (0, .ref (ad 16)), (1, .int x1), (2, .int x2)] hl dX2_partOf_28 (by decide) rfl (fun ls hl => ?_)
      refine z_iload_n C (i := 2) (k := 4) hl dX2_partOf_30 rfl rfl ?_
      refine z_if_ne C 37 dX2_partOf_31 (by decide) (fun hc19 => ?_) (fun hc19 => ?_)
      · replace h := (if_neg hc19).symm.trans h
        refine z_aload_n C (i := 0) (k := 2) hl dX2_partOf_37 rfl rfl ?_
        refine z_iload C (i := 4) (k := 0) hl dX2_partOf_38 rfl ?_
        refine z_iload_n C (i := 3) (k := 1) hl dX2_partOf_40 rfl rfl ?_
        refine z_if_ne C 48 dX2_partOf_41 (by decide) (fun hc18 => ?_) (fun hc18 => ?_)
        · replace h := (if_neg hc18).symm.trans h
          refine z_iload_n C (i := 1) (k := 3) hl dX2_partOf_48 rfl rfl ?_
          refine z_aload_n C (i := 0) (k := 2) hl dX2_partOf_49 rfl rfl ?_
          refine z_getr C 16 2 17 fw_X2_9 sh_16 rfl dX2_partOf_50 ?_
          refine z_iload_n C (i := 3) (k := 1) hl dX2_partOf_53 rfl rfl ?_
          refine z_iconst C (1 : Int32) dX2_partOf_54 (by decide) ?_
          refine z_isub C dX2_partOf_55 ?_
          obtain ⟨hi9, h⟩ := gd h
          refine z_iald C 17 4096 sh_17 hi9 dX2_partOf_56 ?_
          refine z_isub C dX2_partOf_57 ?_
          refine z_iload_n C (i := 2) (k := 4) hl dX2_partOf_58 rfl rfl ?_
          obtain ⟨⟨r12, u10⟩, hc11, h⟩ := bnd h
          try dsimp only at h
          refine z_callV C (ci := 2) [.int r7, .int (x1 - (u5.1 17 (r3 - (1 : Int32)).toNatClampNeg)), .int x2] [] [.int r12] (m_X2_signalOf F _ _ _ _ _ _ hc11) cw_X2_signalOf vw_X2_signalOf ml_X2_64 sh_16 rfl rfl rfl rfl hl.1 (Nat.le_of_ble_eq_true rfl) ⟨Nat.le_of_ble_eq_true rfl, Nat.le_of_ble_eq_true rfl⟩ ⟨Nat.le_refl _, Nat.le_refl _⟩ rfl dX2_partOf_59 ?_
          obtain ⟨rfl, rfl⟩ := r2 h
          exact z_iret C dX2_partOf_62
        · replace h := (if_pos hc18).symm.trans h
          refine z_iload_n C (i := 1) (k := 3) hl dX2_partOf_44 rfl rfl ?_
          refine z_goto C 58 dX2_partOf_45 (by decide) ?_
          refine z_iload_n C (i := 2) (k := 4) hl dX2_partOf_58 rfl rfl ?_
          obtain ⟨⟨r16, u14⟩, hc15, h⟩ := bnd h
          try dsimp only at h
          refine z_callV C (ci := 2) [.int r7, .int x1, .int x2] [] [.int r16] (m_X2_signalOf F _ _ _ _ _ _ hc15) cw_X2_signalOf vw_X2_signalOf ml_X2_64 sh_16 rfl rfl rfl rfl hl.1 (Nat.le_of_ble_eq_true rfl) ⟨Nat.le_of_ble_eq_true rfl, Nat.le_of_ble_eq_true rfl⟩ ⟨Nat.le_refl _, Nat.le_refl _⟩ rfl dX2_partOf_59 ?_
          obtain ⟨rfl, rfl⟩ := r2 h
          exact z_iret C dX2_partOf_62
      · replace h := (if_pos hc19).symm.trans h
        refine z_iload C (i := 4) (k := 0) hl dX2_partOf_34 rfl ?_
        obtain ⟨rfl, rfl⟩ := r2 h
        exact z_iret C dX2_partOf_36
    · replace h := (if_neg hc20).symm.trans h
      refine z_iconst C (-1 : Int32) dX2_partOf_12 (by decide) ?_
      obtain ⟨rfl, rfl⟩ := r2 h
      exact z_iret C dX2_partOf_13
def f_X11_hazard (F : Nat) (x1 : Int32) (x2 : Int32) (u : St) : Option (Int32 × St) := (if x2 < 0 then some ((-1 : Int32), u) else (if x2 ≤ (2 : Int32) then (Option.bind (f_X10_renew F u) (fun u1 => (Option.bind (f_X2_renew F u1) (fun u3 => (Option.bind (f_X2_partOf F x1 x2 u3) (fun w8 => some (w8.1, w8.2))))))) else some ((-1 : Int32), u)))
set_option maxRecDepth 20000 in
set_option maxHeartbeats 4000000 in
theorem m_X11_hazard (F : Nat) (x1 : Int32) (x2 : Int32) (u : St) (r : Int32) (u' : St)  (h : f_X11_hazard F x1 x2 u = some (r, u')) : Mt yX11_hazard cX11_hazard 3 (some .int) 5 (fun ad => [.ref (ad 0), .int x1, .int x2]) u (fun _ => some (.int r)) u' := by
  refine Mt.of (by decide) (fun ad => Nat.le_of_ble_eq_true rfl) ?_
  intro p l e s m args below meth c D cA ad ls C hl
  have hl : lv_has ls 3 [(0, .ref (ad 0)), (1, .int x1), (2, .int x2)] := hl
  unfold f_X11_hazard at h
  refine z_iload_n C (i := 2) (k := 2) hl dX11_hazard_0 rfl rfl ?_
  refine z_if_lt C 9 dX11_hazard_1 (by decide) (fun hc10 => ?_) (fun hc10 => ?_)
  · replace h := (if_pos hc10).symm.trans h
    refine z_iconst C (-1 : Int32) dX11_hazard_9 (by decide) ?_
    obtain ⟨rfl, rfl⟩ := r2 h
    exact z_iret C dX11_hazard_10
  · replace h := (if_neg hc10).symm.trans h
    refine z_iload_n C (i := 2) (k := 2) hl dX11_hazard_4 rfl rfl ?_
    refine z_iconst C (2 : Int32) dX11_hazard_5 (by decide) ?_
    refine z_icmp_le C 11 dX11_hazard_6 (by decide) (fun hc9 => ?_) (fun hc9 => ?_)
    · replace h := (if_pos hc9).symm.trans h
      refine z_aload_n C (i := 0) (k := 0) hl dX11_hazard_11 rfl rfl ?_
      refine z_getr C 0 3 11 fw_X11_37 sh_0 rfl dX11_hazard_12 ?_
      obtain ⟨u1, hc2, h⟩ := bnd h
      refine z_callV C (ci := 10) [] [] [] (m_X10_renew F  _ _ hc2) cw_X10_renew vw_X10_renew ml_X11_144 sh_11 rfl rfl rfl rfl hl.1 (Nat.le_of_ble_eq_true rfl) ⟨Nat.le_of_ble_eq_true rfl, Nat.le_of_ble_eq_true rfl⟩ ⟨Nat.le_refl _, Nat.le_refl _⟩ rfl dX11_hazard_15 ?_
      refine z_aload_n C (i := 0) (k := 0) hl dX11_hazard_18 rfl rfl ?_
      refine z_getr C 0 4 16 fw_X11_46 sh_0 rfl dX11_hazard_19 ?_
      obtain ⟨u3, hc4, h⟩ := bnd h
      refine z_callV C (ci := 2) [] [] [] (m_X2_renew F  _ _ hc4) cw_X2_renew vw_X2_renew ml_X11_154 sh_16 rfl rfl rfl rfl hl.1 (Nat.le_of_ble_eq_true rfl) ⟨Nat.le_of_ble_eq_true rfl, Nat.le_of_ble_eq_true rfl⟩ ⟨Nat.le_refl _, Nat.le_refl _⟩ rfl dX11_hazard_22 ?_
      refine z_aload_n C (i := 0) (k := 0) hl dX11_hazard_25 rfl rfl ?_
      refine z_getr C 0 4 16 fw_X11_46 sh_0 rfl dX11_hazard_26 ?_
      refine z_iload_n C (i := 1) (k := 1) hl dX11_hazard_29 rfl rfl ?_
      refine z_iload_n C (i := 2) (k := 2) hl dX11_hazard_30 rfl rfl ?_
      obtain ⟨⟨r7, u5⟩, hc6, h⟩ := bnd h
      try dsimp only at h
      refine z_callV C (ci := 2) [.int x1, .int x2] [] [.int r7] (m_X2_partOf F _ _ _ _ _ hc6) cw_X2_partOf vw_X2_partOf ml_X11_155 sh_16 rfl rfl rfl rfl hl.1 (Nat.le_of_ble_eq_true rfl) ⟨Nat.le_of_ble_eq_true rfl, Nat.le_of_ble_eq_true rfl⟩ ⟨Nat.le_refl _, Nat.le_refl _⟩ rfl dX11_hazard_31 ?_
      obtain ⟨rfl, rfl⟩ := r2 h
      exact z_iret C dX11_hazard_34
    · replace h := (if_neg hc9).symm.trans h
      refine z_iconst C (-1 : Int32) dX11_hazard_9 (by decide) ?_
      obtain ⟨rfl, rfl⟩ := r2 h
      exact z_iret C dX11_hazard_10
def f_X5_isLess (F : Nat) (q0 : Nat) (q1 : Nat) (u : St) : Option (Int32 × St) := (if ((u.1 q1 0) * (u.1 q0 1)) ≤ ((u.1 q0 0) * (u.1 q1 1)) then some ((0 : Int32), u) else some ((1 : Int32), u))
set_option maxRecDepth 20000 in
set_option maxHeartbeats 4000000 in
theorem m_X5_isLess (F : Nat) (q0 : Nat) (q1 : Nat) (u : St) (r : Int32) (u' : St) (hQ0 : IsR q0) (hQ1 : IsR q1) (h : f_X5_isLess F q0 q1 u = some (r, u')) : Mt yX5_isLess cX5_isLess 2 (some .boolean) 0 (fun ad => [.ref (ad q0), .ref (ad q1)]) u (fun _ => some (.int r)) u' := by
  refine Mt.of (by decide) (fun ad => Nat.le_of_ble_eq_true rfl) ?_
  intro p l e s m args below meth c D cA ad ls C hl
  have hl : lv_has ls 2 [(0, .ref (ad q0)), (1, .ref (ad q1))] := hl
  unfold f_X5_isLess at h
  refine z_aload_n C (i := 0) (k := 0) hl dX5_isLess_0 rfl rfl ?_
  refine z_geti C q0 0 fw_X5_15 (shR hQ0) rfl dX5_isLess_1 ?_
  refine z_aload_n C (i := 1) (k := 1) hl dX5_isLess_4 rfl rfl ?_
  refine z_geti C q1 1 fw_X5_9 (shR hQ1) rfl dX5_isLess_5 ?_
  refine z_imul C dX5_isLess_8 ?_
  refine z_aload_n C (i := 1) (k := 1) hl dX5_isLess_9 rfl rfl ?_
  refine z_geti C q1 0 fw_X5_15 (shR hQ1) rfl dX5_isLess_10 ?_
  refine z_aload_n C (i := 0) (k := 0) hl dX5_isLess_13 rfl rfl ?_
  refine z_geti C q0 1 fw_X5_9 (shR hQ0) rfl dX5_isLess_14 ?_
  refine z_imul C dX5_isLess_17 ?_
  refine z_icmp_ge C 25 dX5_isLess_18 (by decide) (fun hc1 => ?_) (fun hc1 => ?_)
  · replace h := (if_pos hc1).symm.trans h
    refine z_iconst C (0 : Int32) dX5_isLess_25 (by decide) ?_
    obtain ⟨rfl, rfl⟩ := r2 h
    exact z_zret (by decide) C dX5_isLess_26
  · replace h := (if_neg hc1).symm.trans h
    refine z_iconst C (1 : Int32) dX5_isLess_21 (by decide) ?_
    refine z_goto C 26 dX5_isLess_22 (by decide) ?_
    obtain ⟨rfl, rfl⟩ := r2 h
    exact z_zret (by decide) C dX5_isLess_26
def f_X5_putAs (F : Nat) (q0 : Nat) (q1 : Nat) (u : St) : Option (St) := some (wr (wr u q0 0 (u.1 q1 0)) q0 1 ((wr u q0 0 (u.1 q1 0)).1 q1 1))
set_option maxRecDepth 20000 in
set_option maxHeartbeats 4000000 in
theorem m_X5_putAs (F : Nat) (q0 : Nat) (q1 : Nat) (u : St) (u' : St) (hQ0 : IsR q0) (hQ1 : IsR q1) (h : f_X5_putAs F q0 q1 u = some u') : Mt yX5_putAs cX5_putAs 2 none 0 (fun ad => [.ref (ad q0), .ref (ad q1)]) u (fun _ => none) u' := by
  refine Mt.of (by decide) (fun ad => Nat.le_of_ble_eq_true rfl) ?_
  intro p l e s m args below meth c D cA ad ls C hl
  have hl : lv_has ls 2 [(0, .ref (ad q0)), (1, .ref (ad q1))] := hl
  unfold f_X5_putAs at h
  refine z_aload_n C (i := 0) (k := 0) hl dX5_putAs_0 rfl rfl ?_
  refine z_aload_n C (i := 1) (k := 1) hl dX5_putAs_1 rfl rfl ?_
  refine z_geti C q1 0 fw_X5_15 (shR hQ1) rfl dX5_putAs_2 ?_
  refine z_puti C q0 0 pw_X5_15 (shR hQ0) rfl dX5_putAs_5 ?_
  refine z_aload_n C (i := 0) (k := 0) hl dX5_putAs_8 rfl rfl ?_
  refine z_aload_n C (i := 1) (k := 1) hl dX5_putAs_9 rfl rfl ?_
  refine z_geti C q1 1 fw_X5_9 (shR hQ1) rfl dX5_putAs_10 ?_
  refine z_puti C q0 1 pw_X5_9 (shR hQ0) rfl dX5_putAs_13 ?_
  obtain rfl := Option.some.inj h
  exact z_vret C dX5_putAs_16
def f_X5_putBelowAll (F : Nat) (q0 : Nat) (u : St) : Option (St) := some (wr (wr u q0 0 (-1 : Int32)) q0 1 (1 : Int32))
set_option maxRecDepth 20000 in
set_option maxHeartbeats 4000000 in
theorem m_X5_putBelowAll (F : Nat) (q0 : Nat) (u : St) (u' : St) (hQ0 : IsR q0) (h : f_X5_putBelowAll F q0 u = some u') : Mt yX5_putBelowAll cX5_putBelowAll 1 none 0 (fun ad => [.ref (ad q0)]) u (fun _ => none) u' := by
  refine Mt.of (by decide) (fun ad => Nat.le_of_ble_eq_true rfl) ?_
  intro p l e s m args below meth c D cA ad ls C hl
  have hl : lv_has ls 1 [(0, .ref (ad q0))] := hl
  unfold f_X5_putBelowAll at h
  refine z_aload_n C (i := 0) (k := 0) hl dX5_putBelowAll_0 rfl rfl ?_
  refine z_iconst C (-1 : Int32) dX5_putBelowAll_1 (by decide) ?_
  refine z_puti C q0 0 pw_X5_15 (shR hQ0) rfl dX5_putBelowAll_2 ?_
  refine z_aload_n C (i := 0) (k := 0) hl dX5_putBelowAll_5 rfl rfl ?_
  refine z_iconst C (1 : Int32) dX5_putBelowAll_6 (by decide) ?_
  refine z_puti C q0 1 pw_X5_9 (shR hQ0) rfl dX5_putBelowAll_7 ?_
  obtain rfl := Option.some.inj h
  exact z_vret C dX5_putBelowAll_10
def f_X5_bottom (F : Nat) (q0 : Nat) (u : St) : Option (Int32 × St) := some ((u.1 q0 1), u)
set_option maxRecDepth 20000 in
set_option maxHeartbeats 4000000 in
theorem m_X5_bottom (F : Nat) (q0 : Nat) (u : St) (r : Int32) (u' : St) (hQ0 : IsR q0) (h : f_X5_bottom F q0 u = some (r, u')) : Mt yX5_bottom cX5_bottom 1 (some .int) 0 (fun ad => [.ref (ad q0)]) u (fun _ => some (.int r)) u' := by
  refine Mt.of (by decide) (fun ad => Nat.le_of_ble_eq_true rfl) ?_
  intro p l e s m args below meth c D cA ad ls C hl
  have hl : lv_has ls 1 [(0, .ref (ad q0))] := hl
  unfold f_X5_bottom at h
  refine z_aload_n C (i := 0) (k := 0) hl dX5_bottom_0 rfl rfl ?_
  refine z_geti C q0 1 fw_X5_9 (shR hQ0) rfl dX5_bottom_1 ?_
  obtain ⟨rfl, rfl⟩ := r2 h
  exact z_iret C dX5_bottom_4
def f_X5_top (F : Nat) (q0 : Nat) (u : St) : Option (Int32 × St) := some ((u.1 q0 0), u)
set_option maxRecDepth 20000 in
set_option maxHeartbeats 4000000 in
theorem m_X5_top (F : Nat) (q0 : Nat) (u : St) (r : Int32) (u' : St) (hQ0 : IsR q0) (h : f_X5_top F q0 u = some (r, u')) : Mt yX5_top cX5_top 1 (some .int) 0 (fun ad => [.ref (ad q0)]) u (fun _ => some (.int r)) u' := by
  refine Mt.of (by decide) (fun ad => Nat.le_of_ble_eq_true rfl) ?_
  intro p l e s m args below meth c D cA ad ls C hl
  have hl : lv_has ls 1 [(0, .ref (ad q0))] := hl
  unfold f_X5_top at h
  refine z_aload_n C (i := 0) (k := 0) hl dX5_top_0 rfl rfl ?_
  refine z_geti C q0 0 fw_X5_15 (shR hQ0) rfl dX5_top_1 ?_
  obtain ⟨rfl, rfl⟩ := r2 h
  exact z_iret C dX5_top_4
def f_X9_tokensOn (F : Nat) (x1 : Int32) (u : St) : Option (Int32 × St) := (Option.bind (f_X4_tokensOf F x1 u) (fun w4 => (if x1 = (w4.2.1 27 10) then some ((w4.1 + (1 : Int32)), w4.2) else some ((w4.1 + (0 : Int32)), w4.2))))
set_option maxRecDepth 20000 in
set_option maxHeartbeats 4000000 in
theorem m_X9_tokensOn (F : Nat) (x1 : Int32) (u : St) (r : Int32) (u' : St)  (h : f_X9_tokensOn F x1 u = some (r, u')) : Mt yX9_tokensOn cX9_tokensOn 2 (some .int) 1 (fun ad => [.ref (ad 27), .int x1]) u (fun _ => some (.int r)) u' := by
  refine Mt.of (by decide) (fun ad => Nat.le_of_ble_eq_true rfl) ?_
  intro p l e s m args below meth c D cA ad ls C hl
  have hl : lv_has ls 2 [(0, .ref (ad 27)), (1, .int x1)] := hl
  unfold f_X9_tokensOn at h
  refine z_aload_n C (i := 0) (k := 0) hl dX9_tokensOn_0 rfl rfl ?_
  refine z_getr C 27 0 22 fw_X9_35 sh_27 rfl dX9_tokensOn_1 ?_
  refine z_iload_n C (i := 1) (k := 1) hl dX9_tokensOn_4 rfl rfl ?_
  obtain ⟨⟨r3, u1⟩, hc2, h⟩ := bnd h
  try dsimp only at h
  refine z_callV C (ci := 4) [.int x1] [] [.int r3] (m_X4_tokensOf F _ _ _ _ hc2) cw_X4_tokensOf vw_X4_tokensOf ml_X9_122 sh_22 rfl rfl rfl rfl hl.1 (Nat.le_of_ble_eq_true rfl) ⟨Nat.le_of_ble_eq_true rfl, Nat.le_of_ble_eq_true rfl⟩ ⟨Nat.le_refl _, Nat.le_refl _⟩ rfl dX9_tokensOn_5 ?_
  refine z_iload_n C (i := 1) (k := 1) hl dX9_tokensOn_8 rfl rfl ?_
  refine z_aload_n C (i := 0) (k := 0) hl dX9_tokensOn_9 rfl rfl ?_
  refine z_geti C 27 10 fw_X9_31 sh_27 rfl dX9_tokensOn_10 ?_
  refine z_icmp_ne C 20 dX9_tokensOn_13 (by decide) (fun hc5 => ?_) (fun hc5 => ?_)
  · replace h := (if_neg hc5).symm.trans h
    refine z_iconst C (0 : Int32) dX9_tokensOn_20 (by decide) ?_
    refine z_iadd C dX9_tokensOn_21 ?_
    obtain ⟨rfl, rfl⟩ := r2 h
    exact z_iret C dX9_tokensOn_22
  · replace h := (if_pos hc5).symm.trans h
    refine z_iconst C (1 : Int32) dX9_tokensOn_16 (by decide) ?_
    refine z_goto C 21 dX9_tokensOn_17 (by decide) ?_
    refine z_iadd C dX9_tokensOn_21 ?_
    obtain ⟨rfl, rfl⟩ := r2 h
    exact z_iret C dX9_tokensOn_22
def b_X9_growPaths_4 (F : Nat) (q1 : Nat) (rec : Int32 → Int32 → St → Option (Int32 × Int32 × St)) (x2 : Int32) (x3 : Int32) (u : St) : Option (Int32 × Int32 × St) := (Option.bind (f_X4_arcs F u) (fun w4 => (if w4.1 ≤ x3 then some (x2, x3, w4.2) else (Option.bind (f_X4_targetOf F x3 w4.2) (fun w8 => (Option.bind (f_X5_bottom F q1 w8.2) (fun w12 => (Option.bind (f_X4_delayOf F w8.1 w12.2) (fun w16 => (Option.bind (f_X5_top F q1 w16.2) (fun w20 => (Option.bind (f_X9_tokensOn F x3 w20.2) (fun w24 => (Option.bind (f_X4_sourceOf F x3 w24.2) (fun w28 => (if w28.1 < 0 ∨ 10 ≤ w28.1.toNatClampNeg then none else (if w8.1 < 0 ∨ 10 ≤ w8.1.toNatClampNeg then none else (if ((w28.2.1 31 w28.1.toNatClampNeg) + ((w12.1 * w16.1) - (w20.1 * w24.1))) ≤ (w28.2.1 31 w8.1.toNatClampNeg) then rec x2 ((x3 + (1 : Int32))) w28.2 else (if w8.1 < 0 ∨ 10 ≤ w8.1.toNatClampNeg then none else (if w8.1 < 0 ∨ 10 ≤ w8.1.toNatClampNeg then none else rec w8.1 ((x3 + (1 : Int32))) (wr (wr w28.2 31 w8.1.toNatClampNeg ((w28.2.1 31 w28.1.toNatClampNeg) + ((w12.1 * w16.1) - (w20.1 * w24.1)))) 32 w8.1.toNatClampNeg x3)))))))))))))))))))))
def l_X9_growPaths_4 (F : Nat) (q1 : Nat) : Nat → Int32 → Int32 → St → Option (Int32 × Int32 × St)
  | 0, _, _, _ => none
  | k + 1, x2, x3, u => b_X9_growPaths_4 F q1 (l_X9_growPaths_4 F q1 k) x2 x3 u
def f_X9_growPaths (F : Nat) (q1 : Nat) (u : St) : Option (Int32 × St) := (Option.bind (l_X9_growPaths_4 F q1 F (-1 : Int32) (0 : Int32) u) (fun w35 => some (w35.1, w35.2.2)))
set_option maxRecDepth 20000 in
set_option maxHeartbeats 4000000 in
theorem zl_X9_growPaths_4 {p : Program} {l : Launch} {e : Env} {s : State} {m : MethodId} {args : Array Value} {below : List Frame} {meth : Method} {c : Code} {D : va_G} {cA : Nat → ClassId} {ad : Nat → Nat} {Q : State → Prop} (C : Cx SH p s m args meth c cX9_growPaths 7 (some .int) RX9 D cA ad (inAd ad)) (F : Nat) (q1 : Nat) (hQ1 : IsR q1) {out : Int32 × Int32 × St}  (K : ∀ ls : Array Slot, lv_has ls 7 [(0, .ref (ad 27)), (1, .ref (ad q1)), (2, .int out.1), (3, .int out.2.1)] → Z SH p l e (rmD 2) s m args below meth c D cA ad (inAd ad) 0 0 Q out.2.2 108 ls []) : ∀ (k : Nat) (x2 : Int32) (x3 : Int32) (u : St), l_X9_growPaths_4 F q1 k x2 x3 u = some out → ∀ ls : Array Slot, lv_has ls 7 [(0, .ref (ad 27)), (1, .ref (ad q1)), (2, .int x2), (3, .int x3)] → Z SH p l e (rmD 2) s m args below meth c D cA ad (inAd ad) 0 0 Q u 4 ls [] := by
  intro k
  induction k with
  | zero => intro x2 x3 u h; cases h
  | succ k ih =>
    intro x2 x3 u h ls hl
    replace h : b_X9_growPaths_4 F q1 (l_X9_growPaths_4 F q1 k) x2 x3 u = some out := h
    unfold b_X9_growPaths_4 at h
    refine z_iload_n C (i := 3) (k := 3) hl dX9_growPaths_4 rfl rfl ?_
    refine z_aload_n C (i := 0) (k := 0) hl dX9_growPaths_5 rfl rfl ?_
    refine z_getr C 27 0 22 fw_X9_35 sh_27 rfl dX9_growPaths_6 ?_
    obtain ⟨⟨r3, u1⟩, hc2, h⟩ := bnd h
    try dsimp only at h
    refine z_callV C (ci := 4) [] [.int x3] [.int r3, .int x3] (m_X4_arcs F  _ _ _ hc2) cw_X4_arcs vw_X4_arcs ml_X9_75 sh_22 rfl rfl rfl rfl hl.1 (Nat.le_of_ble_eq_true rfl) ⟨Nat.le_of_ble_eq_true rfl, Nat.le_of_ble_eq_true rfl⟩ ⟨Nat.le_refl _, Nat.le_refl _⟩ rfl dX9_growPaths_9 ?_
    refine z_icmp_ge C 108 dX9_growPaths_12 (by decide) (fun hc34 => ?_) (fun hc34 => ?_)
    · replace h := (if_pos hc34).symm.trans h
      obtain rfl := Option.some.inj h
      exact K _ (lv_sub hl [0, 1, 2, 3] rfl)
    · replace h := (if_neg hc34).symm.trans h
      refine z_aload_n C (i := 0) (k := 0) hl dX9_growPaths_15 rfl rfl ?_
      refine z_getr C 27 0 22 fw_X9_35 sh_27 rfl dX9_growPaths_16 ?_
      refine z_iload_n C (i := 3) (k := 3) hl dX9_growPaths_19 rfl rfl ?_
      obtain ⟨⟨r7, u5⟩, hc6, h⟩ := bnd h
      try dsimp only at h
      refine z_callV C (ci := 4) [.int x3] [] [.int r7] (m_X4_targetOf F _ _ _ _ hc6) cw_X4_targetOf vw_X4_targetOf ml_X9_110 sh_22 rfl rfl rfl rfl hl.1 (Nat.le_of_ble_eq_true rfl) ⟨Nat.le_of_ble_eq_true rfl, Nat.le_of_ble_eq_true rfl⟩ ⟨Nat.le_refl _, Nat.le_refl _⟩ rfl dX9_growPaths_20 ?_
      refine z_istore C (i := 4) [(4, .int r7), (0, .ref (ad 27)), (1, .ref (ad q1)), (2, .int x2), (3, .int x3)] hl dX9_growPaths_23 (by decide) rfl (fun ls hl => ?_)
      refine z_aload_n C (i := 1) (k := 2) hl dX9_growPaths_25 rfl rfl ?_
      obtain ⟨⟨r11, u9⟩, hc10, h⟩ := bnd h
      try dsimp only at h
      refine z_callV C (ci := 5) [] [] [.int r11] (m_X5_bottom F _ _ _ _ hQ1 hc10) cw_X5_bottom vw_X5_bottom ml_X9_66 (shR hQ1) rfl rfl rfl rfl hl.1 (Nat.le_of_ble_eq_true rfl) ⟨Nat.le_of_ble_eq_true rfl, Nat.le_of_ble_eq_true rfl⟩ ⟨Nat.le_refl _, Nat.le_refl _⟩ rfl dX9_growPaths_26 ?_
      refine z_aload_n C (i := 0) (k := 1) hl dX9_growPaths_29 rfl rfl ?_
      refine z_getr C 27 0 22 fw_X9_35 sh_27 rfl dX9_growPaths_30 ?_
      refine z_iload C (i := 4) (k := 0) hl dX9_growPaths_33 rfl ?_
      obtain ⟨⟨r15, u13⟩, hc14, h⟩ := bnd h
      try dsimp only at h
      refine z_callV C (ci := 4) [.int r7] [.int r11] [.int r15, .int r11] (m_X4_delayOf F _ _ _ _ hc14) cw_X4_delayOf vw_X4_delayOf ml_X9_113 sh_22 rfl rfl rfl rfl hl.1 (Nat.le_of_ble_eq_true rfl) ⟨Nat.le_of_ble_eq_true rfl, Nat.le_of_ble_eq_true rfl⟩ ⟨Nat.le_refl _, Nat.le_refl _⟩ rfl dX9_growPaths_35 ?_
      refine z_imul C dX9_growPaths_38 ?_
      refine z_aload_n C (i := 1) (k := 2) hl dX9_growPaths_39 rfl rfl ?_
      obtain ⟨⟨r19, u17⟩, hc18, h⟩ := bnd h
      try dsimp only at h
      refine z_callV C (ci := 5) [] [.int (r11 * r15)] [.int r19, .int (r11 * r15)] (m_X5_top F _ _ _ _ hQ1 hc18) cw_X5_top vw_X5_top ml_X9_62 (shR hQ1) rfl rfl rfl rfl hl.1 (Nat.le_of_ble_eq_true rfl) ⟨Nat.le_of_ble_eq_true rfl, Nat.le_of_ble_eq_true rfl⟩ ⟨Nat.le_refl _, Nat.le_refl _⟩ rfl dX9_growPaths_40 ?_
      refine z_aload_n C (i := 0) (k := 1) hl dX9_growPaths_43 rfl rfl ?_
      refine z_iload_n C (i := 3) (k := 4) hl dX9_growPaths_44 rfl rfl ?_
      obtain ⟨⟨r23, u21⟩, hc22, h⟩ := bnd h
      try dsimp only at h
      refine z_callV C (ci := 9) [.int x3] [.int r19, .int (r11 * r15)] [.int r23, .int r19, .int (r11 * r15)] (m_X9_tokensOn F _ _ _ _ hc22) cw_X9_tokensOn vw_X9_tokensOn ml_X9_116 sh_27 rfl rfl rfl rfl hl.1 (Nat.le_of_ble_eq_true rfl) ⟨Nat.le_of_ble_eq_true rfl, Nat.le_of_ble_eq_true rfl⟩ ⟨Nat.le_refl _, Nat.le_refl _⟩ rfl dX9_growPaths_45 ?_
      refine z_imul C dX9_growPaths_48 ?_
      refine z_isub C dX9_growPaths_49 ?_
      refine z_istore C (i := 5) [(5, .int ((r11 * r15) - (r19 * r23))), (4, .int r7), (0, .ref (ad 27)), (1, .ref (ad q1)), (2, .int x2), (3, .int x3)] hl dX9_growPaths_50 (by decide) rfl (fun ls hl => ?_)
      refine z_aload_n C (i := 0) (k := 2) hl dX9_growPaths_52 rfl rfl ?_
      refine z_getr C 27 4 31 fw_X9_24 sh_27 rfl dX9_growPaths_53 ?_
      refine z_aload_n C (i := 0) (k := 2) hl dX9_growPaths_56 rfl rfl ?_
      refine z_getr C 27 0 22 fw_X9_35 sh_27 rfl dX9_growPaths_57 ?_
      refine z_iload_n C (i := 3) (k := 5) hl dX9_growPaths_60 rfl rfl ?_
      obtain ⟨⟨r27, u25⟩, hc26, h⟩ := bnd h
      try dsimp only at h
      refine z_callV C (ci := 4) [.int x3] [.ref (ad 31)] [.int r27, .ref (ad 31)] (m_X4_sourceOf F _ _ _ _ hc26) cw_X4_sourceOf vw_X4_sourceOf ml_X9_119 sh_22 rfl rfl rfl rfl hl.1 (Nat.le_of_ble_eq_true rfl) ⟨Nat.le_of_ble_eq_true rfl, Nat.le_of_ble_eq_true rfl⟩ ⟨Nat.le_refl _, Nat.le_refl _⟩ rfl dX9_growPaths_61 ?_
      obtain ⟨hi29, h⟩ := gd h
      refine z_iald C 31 10 sh_31 hi29 dX9_growPaths_64 ?_
      refine z_iload C (i := 5) (k := 0) hl dX9_growPaths_65 rfl ?_
      refine z_iadd C dX9_growPaths_67 ?_
      refine z_istore C (i := 6) [(6, .int ((u25.1 31 r27.toNatClampNeg) + ((r11 * r15) - (r19 * r23)))), (5, .int ((r11 * r15) - (r19 * r23))), (4, .int r7), (0, .ref (ad 27)), (1, .ref (ad q1)), (2, .int x2), (3, .int x3)] hl dX9_growPaths_68 (by decide) rfl (fun ls hl => ?_)
      refine z_iload C (i := 6) (k := 0) hl dX9_growPaths_70 rfl ?_
      refine z_aload_n C (i := 0) (k := 3) hl dX9_growPaths_72 rfl rfl ?_
      refine z_getr C 27 4 31 fw_X9_24 sh_27 rfl dX9_growPaths_73 ?_
      refine z_iload C (i := 4) (k := 2) hl dX9_growPaths_76 rfl ?_
      obtain ⟨hi30, h⟩ := gd h
      refine z_iald C 31 10 sh_31 hi30 dX9_growPaths_78 ?_
      refine z_icmp_le C 102 dX9_growPaths_79 (by decide) (fun hc33 => ?_) (fun hc33 => ?_)
      · replace h := (if_pos hc33).symm.trans h
        refine z_iinc C (i := 3) (k := 6) (x3 + (1 : Int32)) [(3, .int (x3 + (1 : Int32))), (6, .int ((u25.1 31 r27.toNatClampNeg) + ((r11 * r15) - (r19 * r23)))), (5, .int ((r11 * r15) - (r19 * r23))), (4, .int r7), (0, .ref (ad 27)), (1, .ref (ad q1)), (2, .int x2)] hl dX9_growPaths_102 rfl rfl (by decide) rfl (fun ls hl => ?_)
        refine z_goto C 4 dX9_growPaths_105 (by decide) ?_
        exact ih _ _ _ h _ (lv_sub hl [4, 5, 6, 0] rfl)
      · replace h := (if_neg hc33).symm.trans h
        refine z_aload_n C (i := 0) (k := 3) hl dX9_growPaths_82 rfl rfl ?_
        refine z_getr C 27 4 31 fw_X9_24 sh_27 rfl dX9_growPaths_83 ?_
        refine z_iload C (i := 4) (k := 2) hl dX9_growPaths_86 rfl ?_
        refine z_iload C (i := 6) (k := 0) hl dX9_growPaths_88 rfl ?_
        obtain ⟨hi31, h⟩ := gd h
        refine z_iast C 31 10 sh_31 hi31 dX9_growPaths_90 ?_
        refine z_aload_n C (i := 0) (k := 3) hl dX9_growPaths_91 rfl rfl ?_
        refine z_getr C 27 5 32 fw_X9_28 sh_27 rfl dX9_growPaths_92 ?_
        refine z_iload C (i := 4) (k := 2) hl dX9_growPaths_95 rfl ?_
        refine z_iload_n C (i := 3) (k := 6) hl dX9_growPaths_97 rfl rfl ?_
        obtain ⟨hi32, h⟩ := gd h
        refine z_iast C 32 10 sh_32 hi32 dX9_growPaths_98 ?_
        refine z_iload C (i := 4) (k := 2) hl dX9_growPaths_99 rfl ?_
        refine z_istore_n C (i := 2) [(2, .int r7), (6, .int ((u25.1 31 r27.toNatClampNeg) + ((r11 * r15) - (r19 * r23)))), (5, .int ((r11 * r15) - (r19 * r23))), (4, .int r7), (0, .ref (ad 27)), (1, .ref (ad q1)), (3, .int x3)] hl dX9_growPaths_101 rfl (by decide) rfl (fun ls hl => ?_)
        refine z_iinc C (i := 3) (k := 6) (x3 + (1 : Int32)) [(3, .int (x3 + (1 : Int32))), (2, .int r7), (6, .int ((u25.1 31 r27.toNatClampNeg) + ((r11 * r15) - (r19 * r23)))), (5, .int ((r11 * r15) - (r19 * r23))), (4, .int r7), (0, .ref (ad 27)), (1, .ref (ad q1))] hl dX9_growPaths_102 rfl rfl (by decide) rfl (fun ls hl => ?_)
        refine z_goto C 4 dX9_growPaths_105 (by decide) ?_
        exact ih _ _ _ h _ (lv_sub hl [5, 6, 1, 0] rfl)
set_option maxRecDepth 20000 in
set_option maxHeartbeats 4000000 in
theorem m_X9_growPaths (F : Nat) (q1 : Nat) (u : St) (r : Int32) (u' : St) (hQ1 : IsR q1) (h : f_X9_growPaths F q1 u = some (r, u')) : Mt yX9_growPaths cX9_growPaths 7 (some .int) 2 (fun ad => [.ref (ad 27), .ref (ad q1)]) u (fun _ => some (.int r)) u' := by
  refine Mt.of (by decide) (fun ad => Nat.le_of_ble_eq_true rfl) ?_
  intro p l e s m args below meth c D cA ad ls C hl
  have hl : lv_has ls 7 [(0, .ref (ad 27)), (1, .ref (ad q1))] := hl
  unfold f_X9_growPaths at h
  refine z_iconst C (-1 : Int32) dX9_growPaths_0 (by decide) ?_
  refine z_istore_n C (i := 2) [(2, .int (-1 : Int32)), (0, .ref (ad 27)), (1, .ref (ad q1))] hl dX9_growPaths_1 rfl (by decide) rfl (fun ls hl => ?_)
  refine z_iconst C (0 : Int32) dX9_growPaths_2 (by decide) ?_
  refine z_istore_n C (i := 3) [(3, .int (0 : Int32)), (2, .int (-1 : Int32)), (0, .ref (ad 27)), (1, .ref (ad q1))] hl dX9_growPaths_3 rfl (by decide) rfl (fun ls hl => ?_)
  obtain ⟨w35, hw36, h⟩ := bnd h
  refine zl_X9_growPaths_4 C F q1 hQ1 (out := w35) (fun ls hl => ?_) F _ _ _ hw36 _ (lv_sub hl [2, 3, 1, 0] rfl)
  refine z_iload_n C (i := 2) (k := 2) hl dX9_growPaths_108 rfl rfl ?_
  obtain ⟨rfl, rfl⟩ := r2 h
  exact z_iret C dX9_growPaths_109
def b_X9_nodeBehindGreaterRing_20 (F : Nat) (q1 : Nat) (rec : Int32 → Int32 → St → Option ((Int32 × St) ⊕ (Int32 × Int32 × St))) (x2 : Int32) (x3 : Int32) (u : St) : Option ((Int32 × St) ⊕ (Int32 × Int32 × St)) := (Option.bind (f_X4_nodes F u) (fun w4 => (if w4.1 ≤ x3 then some (Sum.inr (x2, x3, w4.2)) else (Option.bind (f_X9_growPaths F q1 w4.2) (fun w8 => (if w8.1 = (-1 : Int32) then some (Sum.inl ((-1 : Int32), w8.2)) else rec w8.1 ((x3 + (1 : Int32))) w8.2))))))
def l_X9_nodeBehindGreaterRing_20 (F : Nat) (q1 : Nat) : Nat → Int32 → Int32 → St → Option ((Int32 × St) ⊕ (Int32 × Int32 × St))
  | 0, _, _, _ => none
  | k + 1, x2, x3, u => b_X9_nodeBehindGreaterRing_20 F q1 (l_X9_nodeBehindGreaterRing_20 F q1 k) x2 x3 u
def f_X9_nodeBehindGreaterRing (F : Nat) (q1 : Nat) (u : St) : Option (Int32 × St) := (Option.bind (l_X9_nodeBehindGreaterRing_20 F q1 F (-1 : Int32) (0 : Int32) (fil (fil u 31 10 (0 : Int32)) 32 10 (-1 : Int32))) (fun w11 => Sum.elim (fun r => some r) (fun v13 => some (v13.1, v13.2.2)) w11))
set_option maxRecDepth 20000 in
set_option maxHeartbeats 4000000 in
theorem zl_X9_nodeBehindGreaterRing_20 {p : Program} {l : Launch} {e : Env} {s : State} {m : MethodId} {args : Array Value} {below : List Frame} {meth : Method} {c : Code} {D : va_G} {cA : Nat → ClassId} {ad : Nat → Nat} {Q : State → Prop} (C : Cx SH p s m args meth c cX9_nodeBehindGreaterRing 4 (some .int) RX9 D cA ad (inAd ad)) (F : Nat) (q1 : Nat) (hQ1 : IsR q1) {out : (Int32 × St) ⊕ (Int32 × Int32 × St)} (K1 : ∀ (r : Int32) (u' : St), out = .inl (r, u') → ∀ (pc : Nat) (ls : Array Slot), decode cX9_nodeBehindGreaterRing pc = .ok (.ireturn, 1) → Z SH p l e (rmD 3) s m args below meth c D cA ad (inAd ad) 0 0 Q u' pc ls [.int r]) (K : ∀ (v : Int32 × Int32 × St), out = .inr v → ∀ ls : Array Slot, lv_has ls 4 [(0, .ref (ad 27)), (1, .ref (ad q1)), (2, .int v.1), (3, .int v.2.1)] → Z SH p l e (rmD 3) s m args below meth c D cA ad (inAd ad) 0 0 Q v.2.2 50 ls []) : ∀ (k : Nat) (x2 : Int32) (x3 : Int32) (u : St), l_X9_nodeBehindGreaterRing_20 F q1 k x2 x3 u = some out → ∀ ls : Array Slot, lv_has ls 4 [(0, .ref (ad 27)), (1, .ref (ad q1)), (2, .int x2), (3, .int x3)] → Z SH p l e (rmD 3) s m args below meth c D cA ad (inAd ad) 0 0 Q u 20 ls [] := by
  intro k
  induction k with
  | zero => intro x2 x3 u h; cases h
  | succ k ih =>
    intro x2 x3 u h ls hl
    replace h : b_X9_nodeBehindGreaterRing_20 F q1 (l_X9_nodeBehindGreaterRing_20 F q1 k) x2 x3 u = some out := h
    unfold b_X9_nodeBehindGreaterRing_20 at h
    refine z_iload_n C (i := 3) (k := 3) hl dX9_nodeBehindGreaterRing_20 rfl rfl ?_
    refine z_aload_n C (i := 0) (k := 0) hl dX9_nodeBehindGreaterRing_21 rfl rfl ?_
    refine z_getr C 27 0 22 fw_X9_35 sh_27 rfl dX9_nodeBehindGreaterRing_22 ?_
    obtain ⟨⟨r3, u1⟩, hc2, h⟩ := bnd h
    try dsimp only at h
    refine z_callV C (ci := 4) [] [.int x3] [.int r3, .int x3] (m_X4_nodes F  _ _ _ hc2) cw_X4_nodes vw_X4_nodes ml_X9_104 sh_22 rfl rfl rfl rfl hl.1 (Nat.le_of_ble_eq_true rfl) ⟨Nat.le_of_ble_eq_true rfl, Nat.le_of_ble_eq_true rfl⟩ ⟨Nat.le_refl _, Nat.le_refl _⟩ rfl dX9_nodeBehindGreaterRing_25 ?_
    refine z_icmp_ge C 50 dX9_nodeBehindGreaterRing_28 (by decide) (fun hc10 => ?_) (fun hc10 => ?_)
    · replace h := (if_pos hc10).symm.trans h
      exact K _ (Option.some.inj h).symm _ (lv_sub hl [0, 1, 2, 3] rfl)
    · replace h := (if_neg hc10).symm.trans h
      refine z_aload_n C (i := 0) (k := 0) hl dX9_nodeBehindGreaterRing_31 rfl rfl ?_
      refine z_aload_n C (i := 1) (k := 1) hl dX9_nodeBehindGreaterRing_32 rfl rfl ?_
      obtain ⟨⟨r7, u5⟩, hc6, h⟩ := bnd h
      try dsimp only at h
      refine z_callV C (ci := 9) [.ref (ad q1)] [] [.int r7] (m_X9_growPaths F _ _ _ _ hQ1 hc6) cw_X9_growPaths vw_X9_growPaths ml_X9_107 sh_27 rfl rfl rfl rfl hl.1 (Nat.le_of_ble_eq_true rfl) ⟨Nat.le_of_ble_eq_true rfl, Nat.le_of_ble_eq_true rfl⟩ ⟨Nat.le_refl _, Nat.le_refl _⟩ rfl dX9_nodeBehindGreaterRing_33 ?_
      refine z_istore_n C (i := 2) [(2, .int r7), (0, .ref (ad 27)), (1, .ref (ad q1)), (3, .int x3)] hl dX9_nodeBehindGreaterRing_36 rfl (by decide) rfl (fun ls hl => ?_)
      refine z_iload_n C (i := 2) (k := 0) hl dX9_nodeBehindGreaterRing_37 rfl rfl ?_
      refine z_iconst C (-1 : Int32) dX9_nodeBehindGreaterRing_38 (by decide) ?_
      refine z_icmp_ne C 44 dX9_nodeBehindGreaterRing_39 (by decide) (fun hc9 => ?_) (fun hc9 => ?_)
      · replace h := (if_neg hc9).symm.trans h
        refine z_iinc C (i := 3) (k := 3) (x3 + (1 : Int32)) [(3, .int (x3 + (1 : Int32))), (2, .int r7), (0, .ref (ad 27)), (1, .ref (ad q1))] hl dX9_nodeBehindGreaterRing_44 rfl rfl (by decide) rfl (fun ls hl => ?_)
        refine z_goto C 20 dX9_nodeBehindGreaterRing_47 (by decide) ?_
        exact ih _ _ _ h _ (lv_sub hl [2, 3, 1, 0] rfl)
      · replace h := (if_pos hc9).symm.trans h
        refine z_iconst C (-1 : Int32) dX9_nodeBehindGreaterRing_42 (by decide) ?_
        exact K1 _ _ (Option.some.inj h).symm _ _ dX9_nodeBehindGreaterRing_43
set_option maxRecDepth 20000 in
set_option maxHeartbeats 4000000 in
theorem m_X9_nodeBehindGreaterRing (F : Nat) (q1 : Nat) (u : St) (r : Int32) (u' : St) (hQ1 : IsR q1) (h : f_X9_nodeBehindGreaterRing F q1 u = some (r, u')) : Mt yX9_nodeBehindGreaterRing cX9_nodeBehindGreaterRing 4 (some .int) 3 (fun ad => [.ref (ad 27), .ref (ad q1)]) u (fun _ => some (.int r)) u' := by
  refine Mt.of (by decide) (fun ad => Nat.le_of_ble_eq_true rfl) ?_
  intro p l e s m args below meth c D cA ad ls C hl
  have hl : lv_has ls 4 [(0, .ref (ad 27)), (1, .ref (ad q1))] := hl
  unfold f_X9_nodeBehindGreaterRing at h
  refine z_aload_n C (i := 0) (k := 0) hl dX9_nodeBehindGreaterRing_0 rfl rfl ?_
  refine z_getr C 27 4 31 fw_X9_24 sh_27 rfl dX9_nodeBehindGreaterRing_1 ?_
  refine z_iconst C (0 : Int32) dX9_nodeBehindGreaterRing_4 (by decide) ?_
  refine z_callS C [.ref (ad 31), .int (0 : Int32)] [] [] (m_fill 31 10 (0 : Int32) u (by decide) sh_31) cw_J7_fill_53178 sw_J7_fill_53178 ml_X9_98 rfl rfl rfl hl.1 (Nat.le_of_ble_eq_true rfl) ⟨Nat.le_of_ble_eq_true rfl, Nat.le_of_ble_eq_true rfl⟩ ⟨Nat.le_refl _, Nat.le_refl _⟩ rfl dX9_nodeBehindGreaterRing_5 ?_
  refine z_aload_n C (i := 0) (k := 0) hl dX9_nodeBehindGreaterRing_8 rfl rfl ?_
  refine z_getr C 27 5 32 fw_X9_28 sh_27 rfl dX9_nodeBehindGreaterRing_9 ?_
  refine z_iconst C (-1 : Int32) dX9_nodeBehindGreaterRing_12 (by decide) ?_
  refine z_callS C [.ref (ad 32), .int (-1 : Int32)] [] [] (m_fill 32 10 (-1 : Int32) (fil u 31 10 (0 : Int32)) (by decide) sh_32) cw_J7_fill_53178 sw_J7_fill_53178 ml_X9_98 rfl rfl rfl hl.1 (Nat.le_of_ble_eq_true rfl) ⟨Nat.le_of_ble_eq_true rfl, Nat.le_of_ble_eq_true rfl⟩ ⟨Nat.le_refl _, Nat.le_refl _⟩ rfl dX9_nodeBehindGreaterRing_13 ?_
  refine z_iconst C (-1 : Int32) dX9_nodeBehindGreaterRing_16 (by decide) ?_
  refine z_istore_n C (i := 2) [(2, .int (-1 : Int32)), (0, .ref (ad 27)), (1, .ref (ad q1))] hl dX9_nodeBehindGreaterRing_17 rfl (by decide) rfl (fun ls hl => ?_)
  refine z_iconst C (0 : Int32) dX9_nodeBehindGreaterRing_18 (by decide) ?_
  refine z_istore_n C (i := 3) [(3, .int (0 : Int32)), (2, .int (-1 : Int32)), (0, .ref (ad 27)), (1, .ref (ad q1))] hl dX9_nodeBehindGreaterRing_19 rfl (by decide) rfl (fun ls hl => ?_)
  obtain ⟨w11, hw12, h⟩ := bnd h
  refine zl_X9_nodeBehindGreaterRing_20 C F q1 hQ1 (out := w11) (fun r8 u8 e14 pc ls hd => ?_) (fun v13 e14 ls hl => ?_) F _ _ _ hw12 _ (lv_sub hl [2, 3, 1, 0] rfl)
  · subst e14
    obtain ⟨rfl, rfl⟩ := r2 h
    exact z_iret C hd
  · subst e14
    try dsimp only [Sum.elim] at h
    refine z_iload_n C (i := 2) (k := 2) hl dX9_nodeBehindGreaterRing_50 rfl rfl ?_
    obtain ⟨rfl, rfl⟩ := r2 h
    exact z_iret C dX9_nodeBehindGreaterRing_51
def b_X9_nodeOnRing_4 (F : Nat)  (rec : Int32 → Int32 → St → Option (Int32 × Int32 × St)) (x2 : Int32) (x3 : Int32) (u : St) : Option (Int32 × Int32 × St) := (Option.bind (f_X4_nodes F u) (fun w4 => (if w4.1 ≤ x3 then some (x2, x3, w4.2) else (if x2 < 0 ∨ 10 ≤ x2.toNatClampNeg then none else (if (w4.2.1 32 x2.toNatClampNeg) = (-1 : Int32) then some (x2, x3, w4.2) else (if x2 < 0 ∨ 10 ≤ x2.toNatClampNeg then none else (Option.bind (f_X4_sourceOf F (w4.2.1 32 x2.toNatClampNeg) w4.2) (fun w10 => rec w10.1 ((x3 + (1 : Int32))) w10.2))))))))
def l_X9_nodeOnRing_4 (F : Nat)  : Nat → Int32 → Int32 → St → Option (Int32 × Int32 × St)
  | 0, _, _, _ => none
  | k + 1, x2, x3, u => b_X9_nodeOnRing_4 F  (l_X9_nodeOnRing_4 F  k) x2 x3 u
def f_X9_nodeOnRing (F : Nat) (x1 : Int32) (u : St) : Option (Int32 × St) := (Option.bind (l_X9_nodeOnRing_4 F  F x1 (0 : Int32) u) (fun w13 => some (w13.1, w13.2.2)))
set_option maxRecDepth 20000 in
set_option maxHeartbeats 4000000 in
theorem zl_X9_nodeOnRing_4 {p : Program} {l : Launch} {e : Env} {s : State} {m : MethodId} {args : Array Value} {below : List Frame} {meth : Method} {c : Code} {D : va_G} {cA : Nat → ClassId} {ad : Nat → Nat} {Q : State → Prop} (C : Cx SH p s m args meth c cX9_nodeOnRing 4 (some .int) RX9 D cA ad (inAd ad)) (F : Nat)   {out : Int32 × Int32 × St}  (K : ∀ ls : Array Slot, lv_has ls 4 [(0, .ref (ad 27)), (2, .int out.1), (3, .int out.2.1)] → Z SH p l e (rmD 1) s m args below meth c D cA ad (inAd ad) 0 0 Q out.2.2 45 ls []) : ∀ (k : Nat) (x2 : Int32) (x3 : Int32) (u : St), l_X9_nodeOnRing_4 F  k x2 x3 u = some out → ∀ ls : Array Slot, lv_has ls 4 [(0, .ref (ad 27)), (2, .int x2), (3, .int x3)] → Z SH p l e (rmD 1) s m args below meth c D cA ad (inAd ad) 0 0 Q u 4 ls [] := by
  intro k
  induction k with
  | zero => intro x2 x3 u h; cases h
  | succ k ih =>
    intro x2 x3 u h ls hl
    replace h : b_X9_nodeOnRing_4 F  (l_X9_nodeOnRing_4 F  k) x2 x3 u = some out := h
    unfold b_X9_nodeOnRing_4 at h
    refine z_iload_n C (i := 3) (k := 2) hl dX9_nodeOnRing_4 rfl rfl ?_
    refine z_aload_n C (i := 0) (k := 0) hl dX9_nodeOnRing_5 rfl rfl ?_
    refine z_getr C 27 0 22 fw_X9_35 sh_27 rfl dX9_nodeOnRing_6 ?_
    obtain ⟨⟨r3, u1⟩, hc2, h⟩ := bnd h
    try dsimp only at h
    refine z_callV C (ci := 4) [] [.int x3] [.int r3, .int x3] (m_X4_nodes F  _ _ _ hc2) cw_X4_nodes vw_X4_nodes ml_X9_104 sh_22 rfl rfl rfl rfl hl.1 (Nat.le_of_ble_eq_true rfl) ⟨Nat.le_of_ble_eq_true rfl, Nat.le_of_ble_eq_true rfl⟩ ⟨Nat.le_refl _, Nat.le_refl _⟩ rfl dX9_nodeOnRing_9 ?_
    refine z_icmp_ge C 45 dX9_nodeOnRing_12 (by decide) (fun hc12 => ?_) (fun hc12 => ?_)
    · replace h := (if_pos hc12).symm.trans h
      obtain rfl := Option.some.inj h
      exact K _ (lv_sub hl [0, 1, 2] rfl)
    · replace h := (if_neg hc12).symm.trans h
      refine z_aload_n C (i := 0) (k := 0) hl dX9_nodeOnRing_15 rfl rfl ?_
      refine z_getr C 27 5 32 fw_X9_28 sh_27 rfl dX9_nodeOnRing_16 ?_
      refine z_iload_n C (i := 2) (k := 1) hl dX9_nodeOnRing_19 rfl rfl ?_
      obtain ⟨hi5, h⟩ := gd h
      refine z_iald C 32 10 sh_32 hi5 dX9_nodeOnRing_20 ?_
      refine z_iconst C (-1 : Int32) dX9_nodeOnRing_21 (by decide) ?_
      refine z_icmp_eq C 45 dX9_nodeOnRing_22 (by decide) (fun hc11 => ?_) (fun hc11 => ?_)
      · replace h := (if_pos hc11).symm.trans h
        obtain rfl := Option.some.inj h
        exact K _ (lv_sub hl [0, 1, 2] rfl)
      · replace h := (if_neg hc11).symm.trans h
        refine z_aload_n C (i := 0) (k := 0) hl dX9_nodeOnRing_25 rfl rfl ?_
        refine z_getr C 27 0 22 fw_X9_35 sh_27 rfl dX9_nodeOnRing_26 ?_
        refine z_aload_n C (i := 0) (k := 0) hl dX9_nodeOnRing_29 rfl rfl ?_
        refine z_getr C 27 5 32 fw_X9_28 sh_27 rfl dX9_nodeOnRing_30 ?_
        refine z_iload_n C (i := 2) (k := 1) hl dX9_nodeOnRing_33 rfl rfl ?_
        obtain ⟨hi6, h⟩ := gd h
        refine z_iald C 32 10 sh_32 hi6 dX9_nodeOnRing_34 ?_
        obtain ⟨⟨r9, u7⟩, hc8, h⟩ := bnd h
        try dsimp only at h
        refine z_callV C (ci := 4) [.int (u1.1 32 x2.toNatClampNeg)] [] [.int r9] (m_X4_sourceOf F _ _ _ _ hc8) cw_X4_sourceOf vw_X4_sourceOf ml_X9_119 sh_22 rfl rfl rfl rfl hl.1 (Nat.le_of_ble_eq_true rfl) ⟨Nat.le_of_ble_eq_true rfl, Nat.le_of_ble_eq_true rfl⟩ ⟨Nat.le_refl _, Nat.le_refl _⟩ rfl dX9_nodeOnRing_35 ?_
        refine z_istore_n C (i := 2) [(2, .int r9), (0, .ref (ad 27)), (3, .int x3)] hl dX9_nodeOnRing_38 rfl (by decide) rfl (fun ls hl => ?_)
        refine z_iinc C (i := 3) (k := 2) (x3 + (1 : Int32)) [(3, .int (x3 + (1 : Int32))), (2, .int r9), (0, .ref (ad 27))] hl dX9_nodeOnRing_39 rfl rfl (by decide) rfl (fun ls hl => ?_)
        refine z_goto C 4 dX9_nodeOnRing_42 (by decide) ?_
        exact ih _ _ _ h _ (lv_sub hl [2, 1, 0] rfl)
set_option maxRecDepth 20000 in
set_option maxHeartbeats 4000000 in
theorem m_X9_nodeOnRing (F : Nat) (x1 : Int32) (u : St) (r : Int32) (u' : St)  (h : f_X9_nodeOnRing F x1 u = some (r, u')) : Mt yX9_nodeOnRing cX9_nodeOnRing 4 (some .int) 1 (fun ad => [.ref (ad 27), .int x1]) u (fun _ => some (.int r)) u' := by
  refine Mt.of (by decide) (fun ad => Nat.le_of_ble_eq_true rfl) ?_
  intro p l e s m args below meth c D cA ad ls C hl
  have hl : lv_has ls 4 [(0, .ref (ad 27)), (1, .int x1)] := hl
  unfold f_X9_nodeOnRing at h
  refine z_iload_n C (i := 1) (k := 1) hl dX9_nodeOnRing_0 rfl rfl ?_
  refine z_istore_n C (i := 2) [(2, .int x1), (0, .ref (ad 27)), (1, .int x1)] hl dX9_nodeOnRing_1 rfl (by decide) rfl (fun ls hl => ?_)
  refine z_iconst C (0 : Int32) dX9_nodeOnRing_2 (by decide) ?_
  refine z_istore_n C (i := 3) [(3, .int (0 : Int32)), (2, .int x1), (0, .ref (ad 27)), (1, .int x1)] hl dX9_nodeOnRing_3 rfl (by decide) rfl (fun ls hl => ?_)
  obtain ⟨w13, hw14, h⟩ := bnd h
  refine zl_X9_nodeOnRing_4 C F (out := w13) (fun ls hl => ?_) F _ _ _ hw14 _ (lv_sub hl [2, 1, 0] rfl)
  refine z_iload_n C (i := 2) (k := 1) hl dX9_nodeOnRing_45 rfl rfl ?_
  obtain ⟨rfl, rfl⟩ := r2 h
  exact z_iret C dX9_nodeOnRing_46
def b_X5_commonDivisor_7 (F : Nat)  (rec : Int32 → Int32 → Int32 → St → Option (Int32 × Int32 × Int32 × St)) (x2 : Int32) (x3 : Int32) (x4 : Int32) (u : St) : Option (Int32 × Int32 × Int32 × St) := (if (64 : Int32) ≤ x4 then some (x2, x3, x4, u) else (if x3 = 0 then some (x2, x3, x4, u) else (if x3 = 0 then none else rec x3 ((x2 - x2 / x3 * x3)) ((x4 + (1 : Int32))) u)))
def l_X5_commonDivisor_7 (F : Nat)  : Nat → Int32 → Int32 → Int32 → St → Option (Int32 × Int32 × Int32 × St)
  | 0, _, _, _, _ => none
  | k + 1, x2, x3, x4, u => b_X5_commonDivisor_7 F  (l_X5_commonDivisor_7 F  k) x2 x3 x4 u
def f_X5_commonDivisor (F : Nat) (x0 : Int32) (x1 : Int32) (u : St) : Option (Int32 × St) := (Option.bind (l_X5_commonDivisor_7 F  F x0 x1 (0 : Int32) u) (fun w4 => some (w4.1, w4.2.2.2)))
set_option maxRecDepth 20000 in
set_option maxHeartbeats 4000000 in
theorem zl_X5_commonDivisor_7 {p : Program} {l : Launch} {e : Env} {s : State} {m : MethodId} {args : Array Value} {below : List Frame} {meth : Method} {c : Code} {D : va_G} {cA : Nat → ClassId} {ad : Nat → Nat} {Q : State → Prop} (C : Cx SH p s m args meth c cX5_commonDivisor 6 (some .int) RX5 D cA ad (inAd ad)) (F : Nat)   {out : Int32 × Int32 × Int32 × St}  (K : ∀ ls : Array Slot, lv_has ls 6 [(2, .int out.1), (3, .int out.2.1), (4, .int out.2.2.1)] → Z SH p l e (rmD 0) s m args below meth c D cA ad (inAd ad) 0 0 Q out.2.2.2 34 ls []) : ∀ (k : Nat) (x2 : Int32) (x3 : Int32) (x4 : Int32) (u : St), l_X5_commonDivisor_7 F  k x2 x3 x4 u = some out → ∀ ls : Array Slot, lv_has ls 6 [(2, .int x2), (3, .int x3), (4, .int x4)] → Z SH p l e (rmD 0) s m args below meth c D cA ad (inAd ad) 0 0 Q u 7 ls [] := by
  intro k
  induction k with
  | zero => intro x2 x3 x4 u h; cases h
  | succ k ih =>
    intro x2 x3 x4 u h ls hl
    replace h : b_X5_commonDivisor_7 F  (l_X5_commonDivisor_7 F  k) x2 x3 x4 u = some out := h
    unfold b_X5_commonDivisor_7 at h
    refine z_iload C (i := 4) (k := 2) hl dX5_commonDivisor_7 rfl ?_
    refine z_bipush C (64 : Int32) dX5_commonDivisor_9 (by decide) ?_
    refine z_icmp_ge C 34 dX5_commonDivisor_11 (by decide) (fun hc3 => ?_) (fun hc3 => ?_)
    · replace h := (if_pos hc3).symm.trans h
      obtain rfl := Option.some.inj h
      exact K _ (lv_sub hl [0, 1, 2] rfl)
    · replace h := (if_neg hc3).symm.trans h
      refine z_iload_n C (i := 3) (k := 1) hl dX5_commonDivisor_14 rfl rfl ?_
      refine z_if_eq C 34 dX5_commonDivisor_15 (by decide) (fun hc2 => ?_) (fun hc2 => ?_)
      · replace h := (if_pos hc2).symm.trans h
        obtain rfl := Option.some.inj h
        exact K _ (lv_sub hl [0, 1, 2] rfl)
      · replace h := (if_neg hc2).symm.trans h
        refine z_iload_n C (i := 2) (k := 0) hl dX5_commonDivisor_18 rfl rfl ?_
        refine z_iload_n C (i := 3) (k := 1) hl dX5_commonDivisor_19 rfl rfl ?_
        obtain ⟨hn1, h⟩ := gd h
        refine z_irem C dX5_commonDivisor_20 hn1 ?_
        refine z_istore C (i := 5) [(5, .int (x2 - x2 / x3 * x3)), (2, .int x2), (3, .int x3), (4, .int x4)] hl dX5_commonDivisor_21 (by decide) rfl (fun ls hl => ?_)
        refine z_iload_n C (i := 3) (k := 2) hl dX5_commonDivisor_23 rfl rfl ?_
        refine z_istore_n C (i := 2) [(2, .int x3), (5, .int (x2 - x2 / x3 * x3)), (3, .int x3), (4, .int x4)] hl dX5_commonDivisor_24 rfl (by decide) rfl (fun ls hl => ?_)
        refine z_iload C (i := 5) (k := 1) hl dX5_commonDivisor_25 rfl ?_
        refine z_istore_n C (i := 3) [(3, .int (x2 - x2 / x3 * x3)), (2, .int x3), (5, .int (x2 - x2 / x3 * x3)), (4, .int x4)] hl dX5_commonDivisor_27 rfl (by decide) rfl (fun ls hl => ?_)
        refine z_iinc C (i := 4) (k := 3) (x4 + (1 : Int32)) [(4, .int (x4 + (1 : Int32))), (3, .int (x2 - x2 / x3 * x3)), (2, .int x3), (5, .int (x2 - x2 / x3 * x3))] hl dX5_commonDivisor_28 rfl rfl (by decide) rfl (fun ls hl => ?_)
        refine z_goto C 7 dX5_commonDivisor_31 (by decide) ?_
        exact ih _ _ _ _ h _ (lv_sub hl [2, 1, 0] rfl)
set_option maxRecDepth 20000 in
set_option maxHeartbeats 4000000 in
theorem m_X5_commonDivisor (F : Nat) (x0 : Int32) (x1 : Int32) (u : St) (r : Int32) (u' : St)  (h : f_X5_commonDivisor F x0 x1 u = some (r, u')) : Mt yX5_commonDivisor cX5_commonDivisor 6 (some .int) 0 (fun ad => [.int x0, .int x1]) u (fun _ => some (.int r)) u' := by
  refine Mt.of (by decide) (fun ad => Nat.le_of_ble_eq_true rfl) ?_
  intro p l e s m args below meth c D cA ad ls C hl
  have hl : lv_has ls 6 [(0, .int x0), (1, .int x1)] := hl
  unfold f_X5_commonDivisor at h
  refine z_iload_n C (i := 0) (k := 0) hl dX5_commonDivisor_0 rfl rfl ?_
  refine z_istore_n C (i := 2) [(2, .int x0), (0, .int x0), (1, .int x1)] hl dX5_commonDivisor_1 rfl (by decide) rfl (fun ls hl => ?_)
  refine z_iload_n C (i := 1) (k := 2) hl dX5_commonDivisor_2 rfl rfl ?_
  refine z_istore_n C (i := 3) [(3, .int x1), (2, .int x0), (0, .int x0), (1, .int x1)] hl dX5_commonDivisor_3 rfl (by decide) rfl (fun ls hl => ?_)
  refine z_iconst C (0 : Int32) dX5_commonDivisor_4 (by decide) ?_
  refine z_istore C (i := 4) [(4, .int (0 : Int32)), (3, .int x1), (2, .int x0), (0, .int x0), (1, .int x1)] hl dX5_commonDivisor_5 (by decide) rfl (fun ls hl => ?_)
  obtain ⟨w4, hw5, h⟩ := bnd h
  refine zl_X5_commonDivisor_7 C F (out := w4) (fun ls hl => ?_) F _ _ _ _ hw5 _ (lv_sub hl [2, 1, 0] rfl)
  refine z_iload_n C (i := 2) (k := 0) hl dX5_commonDivisor_34 rfl rfl ?_
  obtain ⟨rfl, rfl⟩ := r2 h
  exact z_iret C dX5_commonDivisor_35
def f_X5_put (F : Nat) (q0 : Nat) (x1 : Int32) (x2 : Int32) (u : St) : Option (St) := (Option.bind (f_X5_commonDivisor F x1 x2 u) (fun w4 => (if w4.1 = 0 then some w4.2 else (if w4.1 = 0 then none else (if w4.1 = 0 then none else some (wr (wr w4.2 q0 0 (x1 / w4.1)) q0 1 (x2 / w4.1)))))))
set_option maxRecDepth 20000 in
set_option maxHeartbeats 4000000 in
theorem m_X5_put (F : Nat) (q0 : Nat) (x1 : Int32) (x2 : Int32) (u : St) (u' : St) (hQ0 : IsR q0) (h : f_X5_put F q0 x1 x2 u = some u') : Mt yX5_put cX5_put 4 none 1 (fun ad => [.ref (ad q0), .int x1, .int x2]) u (fun _ => none) u' := by
  refine Mt.of (by decide) (fun ad => Nat.le_of_ble_eq_true rfl) ?_
  intro p l e s m args below meth c D cA ad ls C hl
  have hl : lv_has ls 4 [(0, .ref (ad q0)), (1, .int x1), (2, .int x2)] := hl
  unfold f_X5_put at h
  refine z_iload_n C (i := 1) (k := 1) hl dX5_put_0 rfl rfl ?_
  refine z_iload_n C (i := 2) (k := 2) hl dX5_put_1 rfl rfl ?_
  obtain ⟨⟨r3, u1⟩, hc2, h⟩ := bnd h
  try dsimp only at h
  refine z_callS C [.int x1, .int x2] [] [.int r3] (m_X5_commonDivisor F _ _ _ _ _ hc2) cw_X5_commonDivisor sw_X5_commonDivisor ml_X5_18 rfl rfl rfl hl.1 (Nat.le_of_ble_eq_true rfl) ⟨Nat.le_of_ble_eq_true rfl, Nat.le_of_ble_eq_true rfl⟩ ⟨Nat.le_refl _, Nat.le_refl _⟩ rfl dX5_put_2 ?_
  refine z_istore_n C (i := 3) [(3, .int r3), (0, .ref (ad q0)), (1, .int x1), (2, .int x2)] hl dX5_put_5 rfl (by decide) rfl (fun ls hl => ?_)
  refine z_iload_n C (i := 3) (k := 0) hl dX5_put_6 rfl rfl ?_
  refine z_if_eq C 24 dX5_put_7 (by decide) (fun hc7 => ?_) (fun hc7 => ?_)
  · replace h := (if_pos hc7).symm.trans h
    obtain rfl := Option.some.inj h
    exact z_vret C dX5_put_24
  · replace h := (if_neg hc7).symm.trans h
    refine z_aload_n C (i := 0) (k := 1) hl dX5_put_10 rfl rfl ?_
    refine z_iload_n C (i := 1) (k := 2) hl dX5_put_11 rfl rfl ?_
    refine z_iload_n C (i := 3) (k := 0) hl dX5_put_12 rfl rfl ?_
    obtain ⟨hn5, h⟩ := gd h
    refine z_idiv C dX5_put_13 hn5 ?_
    refine z_puti C q0 0 pw_X5_15 (shR hQ0) rfl dX5_put_14 ?_
    refine z_aload_n C (i := 0) (k := 1) hl dX5_put_17 rfl rfl ?_
    refine z_iload_n C (i := 2) (k := 3) hl dX5_put_18 rfl rfl ?_
    refine z_iload_n C (i := 3) (k := 0) hl dX5_put_19 rfl rfl ?_
    obtain ⟨hn6, h⟩ := gd h
    refine z_idiv C dX5_put_20 hn6 ?_
    refine z_puti C q0 1 pw_X5_9 (shR hQ0) rfl dX5_put_21 ?_
    obtain rfl := Option.some.inj h
    exact z_vret C dX5_put_24
