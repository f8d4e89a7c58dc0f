/-! the law from its entry -/
theorem arr_of {ty : FieldType} {A : Array Value} {s : State} (h : (Cond.arrayClass ty).before A s = true) : ∃ cA : ClassId, ArrOfT s cA ty ∧ s.vm.findClass ("[" ++ ty.toString) = some cA := by
  obtain ⟨cA, kA, comp, hf, hk, hkind⟩ := Cond.arrayClass_spec h
  exact ⟨cA, fun N z => ⟨(fun k h => by cases h), kA, hk, comp, hkind⟩, hf⟩
theorem over_of {s : State} (h : AOI s) : ∃ cA : ClassId, ArrOfT s cA (.array .int) ∧ s.vm.findClass ("[" ++ (FieldType.array .int).toString) = some cA := by
  obtain ⟨comp, cA, kA, -, hk, hkind, hf⟩ := g_over h
  exact ⟨cA, fun N z => ⟨(fun k h => by cases h), kA, hk, comp, hkind⟩, hf⟩
def cA5 (a b c d e : ClassId) : Nat → ClassId
  | 1 => a
  | 2 => b
  | 3 => c
  | 4 => d
  | _ => e
theorem known_all {s : State} {A : Array Value} (hw : ∀ w ∈ LW, w.before A s = true) (hAO : AOI s) : ∃ (D : va_G) (cA : Nat → ClassId), va_K D classes (tysA cA) s := by
  obtain ⟨c0, i0, k0⟩ := u_known (C := RX0) (T := TX0) (N := 5) (n := 5) hw lay_X0 (hw _ ni_X0)
  obtain ⟨c1, i1, k1⟩ := u_known (C := RX1) (T := TX1) (N := 5) (n := 5) hw lay_X1 (hw _ ni_X1)
  obtain ⟨c2, i2, k2⟩ := u_known (C := RX2) (T := TX2) (N := 5) (n := 5) hw lay_X2 (hw _ ni_X2)
  obtain ⟨c3, i3, k3⟩ := u_known (C := RX3) (T := TX3) (N := 7) (n := 7) hw lay_X3 (hw _ ni_X3)
  obtain ⟨c4, i4, k4⟩ := u_known (C := RX4) (T := TX4) (N := 6) (n := 6) hw lay_X4 (hw _ ni_X4)
  obtain ⟨c5, i5, k5⟩ := u_known (C := RX5) (T := TX5) (N := 2) (n := 2) hw lay_X5 (hw _ ni_X5)
  obtain ⟨c6, i6, k6⟩ := u_known (C := RX6) (T := TX6) (N := 2) (n := 2) hw lay_X6 (hw _ ni_X6)
  obtain ⟨c7, i7, k7⟩ := u_known (C := RX7) (T := TX7) (N := 2) (n := 2) hw lay_X7 (hw _ ni_X7)
  obtain ⟨c8, i8, k8⟩ := u_known (C := RX8) (T := TX8) (N := 6) (n := 6) hw lay_X8 (hw _ ni_X8)
  obtain ⟨c9, i9, k9⟩ := u_known (C := RX9) (T := TX9) (N := 11) (n := 11) hw lay_X9 (hw _ ni_X9)
  obtain ⟨c10, i10, k10⟩ := u_known (C := RX10) (T := TX10) (N := 8) (n := 8) hw lay_X10 (hw _ ni_X10)
  obtain ⟨c11, i11, k11⟩ := u_known (C := RX11) (T := TX11) (N := 11) (n := 11) hw lay_X11 (hw _ ni_X11)
  obtain ⟨c12, i12, k12⟩ := u_known (C := RX12) (T := TX12) (N := 32) (n := 32) hw lay_X12 (hw _ ni_X12)
  obtain ⟨a1, b1, f1⟩ := arr_of (hw _ ac_int)
  obtain ⟨a2, b2, f2⟩ := arr_of (hw _ ac_boolean)
  obtain ⟨a3, b3, f3⟩ := arr_of (hw _ ac_byte)
  obtain ⟨a4, b4, f4⟩ := arr_of (hw _ ac_long)
  obtain ⟨a5, b5, f5⟩ := over_of hAO
  refine ⟨(fun k => [c0, c1, c2, c3, c4, c5, c6, c7, c8, c9, c10, c11, c12].getD k c0, fun k => [i0, i1, i2, i3, i4, i5, i6, i7, i8, i9, i10, i11, i12].getD k i0), cA5 a1 a2 a3 a4 a5, fun k q hq => ?_, fun k q hq => ?_⟩
  · match k, hq with
    | 0, hq => cases hq; exact k0
    | 1, hq => cases hq; exact k1
    | 2, hq => cases hq; exact k2
    | 3, hq => cases hq; exact k3
    | 4, hq => cases hq; exact k4
    | 5, hq => cases hq; exact k5
    | 6, hq => cases hq; exact k6
    | 7, hq => cases hq; exact k7
    | 8, hq => cases hq; exact k8
    | 9, hq => cases hq; exact k9
    | 10, hq => cases hq; exact k10
    | 11, hq => cases hq; exact k11
    | 12, hq => cases hq; exact k12
    | k + 13, hq => exact absurd hq (by simp [classes])
  · match k, hq with
    | 0, hq => cases hq; exact ⟨b1, f1⟩
    | 1, hq => cases hq; exact ⟨b2, f2⟩
    | 2, hq => cases hq; exact ⟨b3, f3⟩
    | 3, hq => cases hq; exact ⟨b4, f4⟩
    | 4, hq => cases hq; exact ⟨b5, f5⟩
    | k + 5, hq => exact absurd hq (by simp [tysA])
theorem nw_in : ∀ q ∈ NWL, Cond.methodLinkNest q.1 q.2.1 q.2.2.1 q.2.2.2 ∈ lw_tbl := by
  have ht : ∀ (i : Nat) (w : Cond), tables_1[i]? = some w → w ∈ lw_tbl := fun i w hi => List.mem_append_right _ (List.mem_of_getElem? hi)
  unfold NWL
  intro q hq
  simp only [List.mem_cons, List.not_mem_nil, or_false] at hq
  rcases hq with rfl | rfl | rfl | rfl | rfl | rfl | rfl | rfl | rfl | rfl | rfl | rfl | rfl
  · exact ht 31 _ (by decide +kernel)
  · exact ht 64 _ (by decide +kernel)
  · exact ht 187 _ (by decide +kernel)
  · exact ht 218 _ (by decide +kernel)
  · exact ht 291 _ (by decide +kernel)
  · exact ht 386 _ (by decide +kernel)
  · exact ht 456 _ (by decide +kernel)
  · exact ht 511 _ (by decide +kernel)
  · exact ht 532 _ (by decide +kernel)
  · exact ht 548 _ (by decide +kernel)
  · exact ht 606 _ (by decide +kernel)
  · exact ht 719 _ (by decide +kernel)
  · exact ht 949 _ (by decide +kernel)
theorem str_of {own text : String} {k n : Nat} {A : Array Value} {s : State} (hi : (Cond.instantiable own n).before A s = true) (h : (Cond.stringRef own k text).before A s = true) : ∃ a, vk_R own k text a s := by
  obtain ⟨c, kc, hc, -⟩ := Cond.instantiable_spec hi
  obtain ⟨_, _, _, a, -, -, -, -, -, ha⟩ := Cond.stringRef_spec hc h
  exact ⟨a, vk_R.of h ha⟩
theorem nst_of {s : State} {A : Array Value} (h : ∀ w ∈ lw_tbl, w.before A s = true) : Nst s := fun q hq => va_Nw.of rfl (h _ (nw_in q hq))
theorem tx_of {s : State} {b : Nat} (h : ∀ w ∈ lw_tbl, w.before #[Value.ref b] s = true) (hg : (Jvm.Cond.and given_1 narrow_1).before #[Value.ref b] s = true) : TX (inB s.heap.size) s := by
  have hf := flat_of_before _ hg
  have ht : ∀ (i : Nat) (w : Cond), tables_1[i]? = some w → w.before #[Value.ref b] s = true := fun i w hi => h w (List.mem_append_right _ (List.mem_of_getElem? hi))
  have hno : ∀ a : Nat, a < s.heap.size → ¬ inB s.heap.size a := fun a ha hq => absurd (show s.heap.size ≤ a from hq) (by omega)
  refine ⟨⟨va_Nw.of rfl (ht 869 _ (by decide +kernel)), va_Nw.of rfl (ht 871 _ (by decide +kernel)), va_Nw.of rfl (ht 873 _ (by decide +kernel)), va_Nw.of rfl (ht 875 _ (by decide +kernel))⟩, str_of (n := 11) (ht 22 _ (by decide +kernel)) (ht 906 _ (by decide +kernel)), str_of (n := 11) (ht 22 _ (by decide +kernel)) (ht 968 _ (by decide +kernel)), vx_Zqof (ht 894 _ (by decide +kernel)) (ht 16 _ (by decide +kernel)) (hf _ (by decide +kernel)) hno, vx_Zqof (ht 896 _ (by decide +kernel)) (ht 16 _ (by decide +kernel)) (hf _ (by decide +kernel)) hno⟩
