/-! the law's call of time, and its loop -/
theorem lv_tail {ls : Array Slot} {n : Nat} {a : Nat × Value} {lv : List (Nat × Value)} (h : lv_has ls n (a :: lv)) : lv_has ls n lv := ⟨h.1, h.2.1, fun q hq => h.2.2 q (List.mem_cons_of_mem _ hq)⟩
set_option maxRecDepth 20000 in
set_option maxHeartbeats 1000000 in
theorem lc_24 {p : Program} {l : Launch} {e : Env} {s : State} {m : MethodId} {below : List Frame} {meth : Method} {c : Code} {D : va_G} {cA : Nat → ClassId} {b L : Nat} {xs : Nat → Int32} {cells slots : Nat} {Q : State → Prop} {u : St} {ls : Array Slot} {j F : Nat} (C : Lc p s m meth c D cA b L xs) (hTX : TX (inB s.heap.size) s) (hls : l.stackTraces = false) (hF : 200000 ≤ F) (hI : Inv u) (hj : 6 * j + 6 ≤ L) (hl : lv_has ls 7 (lvL b s.heap.size j)) (hcs : cells + 1 ≤ room_1.cells ∧ slots + 6 ≤ room_1.slots) (kk : ∀ (u' : St) (ls : Array Slot), Inv u' → lv_has ls 7 (lvL b s.heap.size j) → Z SH p l e room_1 s m #[Value.ref b] below meth c D cA (adB s.heap.size) (inB s.heap.size) (cells + 1) (slots + 6) Q u' 1097 ls []) : Z SH p l e room_1 s m #[Value.ref b] below meth c D cA (adB s.heap.size) (inB s.heap.size) cells slots Q u 991 ls [] := by
  obtain ⟨o, u1, t1, t2⟩ := op_time F (by omega) hI (xs (6 * j + 1)) (xs (6 * j + 2))
  obtain ⟨r, u2, t3, t4, t5, t6⟩ := t2 (tmU o u1) (by cases o <;> rfl)
  refine z_aload_n C.1 (i := 1) (k := 3) hl dL_law_991 rfl rfl ?_
  refine z_arg C 1 (by decide) rfl hj hl dL_law_992 dL_law_993 dL_law_995 dL_law_996 dL_law_997 ?_
  refine z_arg C 2 (by decide) rfl hj hl dL_law_998 dL_law_999 dL_law_1001 dL_law_1002 dL_law_1003 ?_
  refine z_aload_n C.1 (i := 3) (k := 1) hl dL_law_1004 rfl rfl ?_
  refine z_callT C hTX hls t1 hl hcs dL_law_1005 ?_
  refine z_istore C.1 (i := 5) [(5, .int (tmR o)), (4, .int (nI (6 * j))), (3, .ref (adB s.heap.size 72)), (2, .ref (adB s.heap.size 50)), (1, .ref (adB s.heap.size 0)), (0, .ref b)] hl dL_law_1008 (by decide) rfl (fun ls hl5 => ?_)
  have hl := lv_tail hl5
  refine z_aload_n C.1 (i := 2) (k := 2) hl dL_law_1010 rfl rfl ?_
  refine z_arg C 1 (by decide) rfl hj hl dL_law_1011 dL_law_1012 dL_law_1014 dL_law_1015 dL_law_1016 ?_
  refine z_arg C 2 (by decide) rfl hj hl dL_law_1017 dL_law_1018 dL_law_1020 dL_law_1021 dL_law_1022 ?_
  refine z_callV C.1 (ci := 12) [.int (xs (6 * j + 1)), .int (xs (6 * j + 2))] [] [.int r] (m_X12_time F _ _ _ _ _ t3) cw_X12_time vw_X12_time ml_L_133 sh_50 rfl rfl rfl rfl hl.1 (Nat.le_of_ble_eq_true rfl) ⟨Nat.le_of_ble_eq_true rfl, Nat.le_of_ble_eq_true rfl⟩ hcs rfl dL_law_1023 ?_
  refine z_istore C.1 (i := 6) [(6, .int r), (5, .int (tmR o)), (4, .int (nI (6 * j))), (3, .ref (adB s.heap.size 72)), (2, .ref (adB s.heap.size 50)), (1, .ref (adB s.heap.size 0)), (0, .ref b)] hl5 dL_law_1026 (by decide) rfl (fun ls hl6 => ?_)
  have hl := lv_tail (lv_tail hl6)
  refine z_aload_n C.1 (i := 2) (k := 4) hl6 dL_law_1028 rfl rfl ?_
  refine z_callV C.1 (ci := 12) [] [] [.int (u2.1 50 0)] (m_X12_thrown F u2 (u2.1 50 0) u2 rfl) cw_X12_thrown vw_X12_thrown ml_L_134 sh_50 rfl rfl rfl rfl hl.1 (Nat.le_of_ble_eq_true rfl) ⟨Nat.le_of_ble_eq_true rfl, Nat.le_of_ble_eq_true rfl⟩ hcs rfl dL_law_1029 ?_
  refine z_iload C.1 (i := 5) (k := 1) hl6 dL_law_1032 rfl ?_
  have e0 : u2.1 50 0 = tmR o := by
    cases o with
    | none => exact t6
    | some v => exact t6.1
  refine z_icmp_eq C.1 1039 dL_law_1034 (by decide) (fun _ => ?_) (fun h => absurd e0 h)
  refine z_iload C.1 (i := 5) (k := 1) hl6 dL_law_1039 rfl ?_
  have fin : Z SH p l e room_1 s m #[Value.ref b] below meth c D cA (adB s.heap.size) (inB s.heap.size) (cells + 1) (slots + 6) Q u2 1056 ls [] := z_goto C.1 1097 dL_law_1056 (by decide) (kk u2 ls t4 hl)
  refine z_if_ne C.1 1056 dL_law_1041 (by decide) (fun _ => fin) (fun h0 => ?_)
  refine z_aload_n C.1 (i := 3) (k := 3) hl6 dL_law_1044 rfl rfl ?_
  refine z_iconst C.1 (0 : Int32) dL_law_1045 (by decide) ?_
  refine z_lald C.1 72 1 sh_72 (by decide) dL_law_1046 ?_
  refine z_iload C.1 (i := 6) (k := 0) hl6 dL_law_1047 rfl ?_
  refine z_i2l C.1 dL_law_1049 ?_
  refine z_lcmp C.1 dL_law_1050 ?_
  refine z_if_eq C.1 1056 dL_law_1051 (by decide) (fun _ => fin) (fun h => absurd ?_ h)
  cases o with
  | none => exact absurd h0 (by decide)
  | some v =>
    have e1 : u2.2 72 (0 : Int32).toNatClampNeg = r.toInt64 := by
      rw [t5, t6.2]
      show (wl u1 72 0 v.toInt64).2 72 0 = _
      simp [wl]
    rw [e1]
    exact lgc _
theorem and31 (x : Int32) : ∃ k, k < 32 ∧ x &&& 31 = nI k := by
  refine ⟨(x &&& 31).toNatClampNeg, ?_, ?_⟩
  · have h : (x &&& 31).toBitVec.toNat < 32 := by
      rw [Int32.toBitVec_and, BitVec.toNat_and]
      exact Nat.lt_of_le_of_lt Nat.and_le_right (by decide)
    have h2 : (x &&& 31).toInt = ((x &&& 31).toBitVec.toNat : Int) := by
      rw [← Int32.toInt_toBitVec, BitVec.toInt_eq_toNat_cond, if_pos (by omega)]
    have h3 : (x &&& 31).toNatClampNeg = (x &&& 31).toInt.toNat := rfl
    omega
  · have h : (x &&& 31).toBitVec.toNat < 32 := by
      rw [Int32.toBitVec_and, BitVec.toNat_and]
      exact Nat.lt_of_le_of_lt Nat.and_le_right (by decide)
    have h2 : (x &&& 31).toInt = ((x &&& 31).toBitVec.toNat : Int) := by
      rw [← Int32.toInt_toBitVec, BitVec.toInt_eq_toNat_cond, if_pos (by omega)]
    rcases wl_ix (x &&& 31) with q | ⟨i, hi, q⟩
    · have q := Int32.lt_iff_toInt_lt.mp q
      have z1 : (0 : Int32).toInt = 0 := rfl
      omega
    · rw [q, nI_clamp hi]
theorem len6 {L j : Nat} (hL : L ≤ 3072) (hj : 6 * j ≤ L) : (Int32.ofNat L - 6 < nI (6 * j)) ↔ L < 6 * j + 6 := by
  rw [Int32.lt_iff_toInt_lt, Int32.toInt_sub]
  have h1 : (Int32.ofNat L).toInt = (L : Int) := nI_toInt (by omega)
  have h2 : (nI (6 * j)).toInt = ((6 * j : Nat) : Int) := nI_toInt (by omega)
  have h3 : (6 : Int32).toInt = 6 := rfl
  rw [h1, h2, h3, Int.bmod_eq_of_le (by omega) (by omega)]
  omega
set_option maxRecDepth 20000 in
set_option maxHeartbeats 4000000 in
theorem law_loop {p : Program} {l : Launch} {e : Env} {s : State} {m : MethodId} {below : List Frame} {meth : Method} {c : Code} {D : va_G} {cA : Nat → ClassId} {b L : Nat} {xs : Nat → Int32} {F : Nat} (C : Lc p s m meth c D cA b L xs) (hTX : TX (inB s.heap.size) s) (hls : l.stackTraces = false) (hF : 200000 ≤ F) : ∀ (n j : Nat), 6 * j ≤ L → L < 6 * (j + n) → ∀ (u : St) (ls : Array Slot) (cells slots : Nat), Inv u → lv_has ls 7 (lvL b s.heap.size j) → cells = 73 + j → slots = 59836 + 6 * j → Z SH p l e room_1 s m #[Value.ref b] below meth c D cA (adB s.heap.size) (inB s.heap.size) cells slots (lw_Z below #[Value.ref b] s) u 23 ls [] := by
  have hL := C.2.2.2
  intro n
  induction n with
  | zero => intro j h1 h2; exact absurd h2 (by omega)
  | succ n ih =>
    intro j h1 h2 u ls cells slots hI hl hc hs
    refine z_iload C.1 (i := 4) (k := 0) hl dL_law_23 rfl ?_
    refine z_aload_n C.1 (i := 0) (k := 4) hl dL_law_25 rfl rfl ?_
    refine z_slen C dL_law_26 ?_
    refine z_bipush C.1 (6 : Int32) dL_law_27 (by decide) ?_
    refine z_isub C.1 dL_law_29 ?_
    refine z_icmp_gt C.1 1103 dL_law_30 (by decide) (fun _ => ?_) (fun h => ?_)
    · refine z_iconst C.1 (1 : Int32) dL_law_1103 (by decide) ?_
      refine z_widen 601024 7293034 (by omega) (by omega) ?_
      intro H locs hP hS
      refine va_forget (fun q hq => hS.2.2 q hq) ?_
      exact lw_ret C.1.1 C.1.2.1 C.1.2.2.1 C.1.2.2.2.2.2.2.1 dL_law_1104
    · have hj : 6 * j + 6 ≤ L := by
        have := mt (len6 hL h1).mpr h
        omega
      have hcs : cells + 1 ≤ room_1.cells ∧ slots + 6 ≤ room_1.slots := ⟨show cells + 1 ≤ 601024 by omega, show slots + 6 ≤ 7293034 by omega⟩
      have hcs0 : cells ≤ room_1.cells ∧ slots ≤ room_1.slots := ⟨by omega, by omega⟩
      have nxt : ∀ (u' : St) (ls : Array Slot), Inv u' → lv_has ls 7 (lvL b s.heap.size j) → Z SH p l e room_1 s m #[Value.ref b] below meth c D cA (adB s.heap.size) (inB s.heap.size) (cells + 1) (slots + 6) (lw_Z below #[Value.ref b] s) u' 1097 ls [] := fun u' ls hI' hl => by
        refine z_iinc C.1 (i := 4) (k := 0) (nI (6 * (j + 1))) (lvL b s.heap.size (j + 1)) hl dL_law_1097 rfl (by rw [show Int32.ofInt 6 = nI 6 from rfl, nI_add]; rfl) (by decide) rfl (fun ls hl => ?_)
        refine z_goto C.1 23 dL_law_1100 (by decide) ?_
        exact ih (j + 1) (by omega) (by omega) u' ls _ _ hI' hl (by omega) (by omega)
      have nx0 : ∀ u' : St, Inv u' → Z SH p l e room_1 s m #[Value.ref b] below meth c D cA (adB s.heap.size) (inB s.heap.size) cells slots (lw_Z below #[Value.ref b] s) u' 1097 ls [] := fun u' hI' => z_widen (cells + 1) (slots + 6) (by omega) (by omega) (nxt u' ls hI' hl)
      refine z_aload_n C.1 (i := 0) (k := 4) hl dL_law_33 rfl rfl ?_
      refine z_iload C.1 (i := 4) (k := 0) hl dL_law_34 rfl ?_
      refine z_sld C (i := 6 * j) (by omega) dL_law_36 ?_
      refine z_bipush C.1 (31 : Int32) dL_law_37 (by decide) ?_
      refine z_iand C.1 dL_law_39 ?_
      obtain ⟨k, hk, ek⟩ := and31 (xs (6 * j))
      rw [ek]
      match k, hk with
      | 0, _ => exact z_tIn C.1 164 dL_law_40 (by decide) (by decide) rfl (by decide) (lc_0 C hF hI hj hl hcs0 nx0)
      | 1, _ => exact z_tIn C.1 237 dL_law_40 (by decide) (by decide) rfl (by decide) (lc_1 C hF hI hj hl hcs0 nx0)
      | 2, _ => exact z_tIn C.1 262 dL_law_40 (by decide) (by decide) rfl (by decide) (lc_2 C hF hI hj hl hcs0 nx0)
      | 3, _ => exact z_tIn C.1 275 dL_law_40 (by decide) (by decide) rfl (by decide) (lc_3 C hF hI hj hl hcs0 nx0)
      | 4, _ => exact z_tIn C.1 300 dL_law_40 (by decide) (by decide) rfl (by decide) (lc_4 C hF hI hj hl hcs0 nx0)
      | 5, _ => exact z_tIn C.1 365 dL_law_40 (by decide) (by decide) rfl (by decide) (lc_5 C hF hI hj hl hcs0 nx0)
      | 6, _ => exact z_tIn C.1 418 dL_law_40 (by decide) (by decide) rfl (by decide) (lc_6 C hF hI hj hl hcs0 nx0)
      | 7, _ => exact z_tIn C.1 443 dL_law_40 (by decide) (by decide) rfl (by decide) (lc_7 C hF hI hj hl hcs0 nx0)
      | 8, _ => exact z_tIn C.1 456 dL_law_40 (by decide) (by decide) rfl (by decide) (lc_8 C hF hI hj hl hcs0 nx0)
      | 9, _ => exact z_tIn C.1 481 dL_law_40 (by decide) (by decide) rfl (by decide) (lc_9 C hF hI hj hl hcs0 nx0)
      | 10, _ => exact z_tIn C.1 506 dL_law_40 (by decide) (by decide) rfl (by decide) (lc_10 C hF hI hj hl hcs0 nx0)
      | 11, _ => exact z_tIn C.1 543 dL_law_40 (by decide) (by decide) rfl (by decide) (lc_11 C hF hI hj hl hcs0 nx0)
      | 12, _ => exact z_tIn C.1 568 dL_law_40 (by decide) (by decide) rfl (by decide) (lc_12 C hF hI hj hl hcs0 nx0)
      | 13, _ => exact z_tIn C.1 593 dL_law_40 (by decide) (by decide) rfl (by decide) (lc_13 C hF hI hj hl hcs0 nx0)
      | 14, _ => exact z_tIn C.1 630 dL_law_40 (by decide) (by decide) rfl (by decide) (lc_14 C hF hI hj hl hcs0 nx0)
      | 15, _ => exact z_tIn C.1 655 dL_law_40 (by decide) (by decide) rfl (by decide) (lc_15 C hF hI hj hl hcs0 nx0)
      | 16, _ => exact z_tIn C.1 680 dL_law_40 (by decide) (by decide) rfl (by decide) (lc_16 C hF hI hj hl hcs0 nx0)
      | 17, _ => exact z_tIn C.1 749 dL_law_40 (by decide) (by decide) rfl (by decide) (lc_17 C hF hI hj hl hcs0 nx0)
      | 18, _ => exact z_tIn C.1 830 dL_law_40 (by decide) (by decide) rfl (by decide) (lc_18 C hF hI hj hl hcs0 nx0)
      | 19, _ => exact z_tIn C.1 855 dL_law_40 (by decide) (by decide) rfl (by decide) (lc_19 C hF hI hj hl hcs0 nx0)
      | 20, _ => exact z_tIn C.1 904 dL_law_40 (by decide) (by decide) rfl (by decide) (lc_20 C hF hI hj hl hcs0 nx0)
      | 21, _ => exact z_tIn C.1 941 dL_law_40 (by decide) (by decide) rfl (by decide) (lc_21 C hF hI hj hl hcs0 nx0)
      | 22, _ => exact z_tIn C.1 952 dL_law_40 (by decide) (by decide) rfl (by decide) (lc_22 C hF hI hj hl hcs0 nx0)
      | 23, _ => exact z_tIn C.1 965 dL_law_40 (by decide) (by decide) rfl (by decide) (lc_23 C hF hI hj hl hcs0 nx0)
      | 24, _ => exact z_tIn C.1 991 dL_law_40 (by decide) (by decide) rfl (by decide) (lc_24 C hTX hls hF hI hj hl hcs nxt)
      | 25, _ => exact z_tIn C.1 1059 dL_law_40 (by decide) (by decide) rfl (by decide) (lc_25 C hF hI hj hl hcs0 nx0)
      | 26, _ => exact z_tIn C.1 1072 dL_law_40 (by decide) (by decide) rfl (by decide) (lc_26 C hF hI hj hl hcs0 nx0)
      | 27, _ => exact z_tOut C.1 1097 dL_law_40 (Or.inr (by decide)) (by decide) (nx0 u hI)
      | 28, _ => exact z_tOut C.1 1097 dL_law_40 (Or.inr (by decide)) (by decide) (nx0 u hI)
      | 29, _ => exact z_tOut C.1 1097 dL_law_40 (Or.inr (by decide)) (by decide) (nx0 u hI)
      | 30, _ => exact z_tOut C.1 1097 dL_law_40 (Or.inr (by decide)) (by decide) (nx0 u hI)
      | 31, _ => exact z_tOut C.1 1097 dL_law_40 (Or.inr (by decide)) (by decide) (nx0 u hI)
      | k + 32, h => exact absurd h (by omega)
