theorem arrV_cg {c : ClassId} {N : Nat} {f g : Nat → Value} (h : ∀ j, j < N → f j = g j) : arrV c N f = arrV c N g := by
  unfold arrV
  have : (fun j : Fin N => f j.val) = fun j : Fin N => g j.val := funext fun j => h j.val j.isLt
  rw [this]
theorem gOut_a (c : ClassId) (N h0 : Nat) : ∀ i : Nat, gOut c N h0 i = arrV c N (fun j => va_rf (if j < i then some (h0 + 1 + j) else none))
  | 0 => by
    show ({ cls := c, slots := Array.replicate N .null, vm := .none } : Cell) = _
    rw [arrV_new]
    refine congrArg (arrV c N) (funext fun j => ?_)
    simp [va_rf]
  | i + 1 => by
    show (gOut c N h0 i).setSlot i (.ref (h0 + 1 + i)) = _
    rw [gOut_a c N h0 i, arrV_store]
    refine congrArg (arrV c N) (funext fun j => ?_)
    by_cases e : j = i
    · subst e
      simp [updV, va_rf]
    · by_cases h : j < i
      · simp [updV, e, h, Nat.lt_succ_of_lt h]
      · simp [updV, e, h, show ¬ j < i + 1 by omega]
section ZM
variable {sh : List Kd} {p : Program} {l : Launch} {e : Env} {R : Room} {s : State} {m : MethodId} {args : Array Value} {below : List Frame} {meth : Method} {c : Code} {cc : ByteArray} {nL : Nat} {ret : Option FieldType} {own : String} {D : va_G} {cA : Nat → ClassId} {B : Nat} {cells slots : Nat} {Q : State → Prop} {u : St} {pc : Nat} {ls : Array Slot} {rest : List Value}
theorem z_mna (C : Cx sh p s m args meth c cc nL ret own D cA (adB B) (inB B)) (hAO : AOI s) {index : Nat} (w1 : Cond.classLink own index ("[" ++ (FieldType.array .int).toString) ∈ LW) (w2 : Cond.arrayClass .int ∈ LW) {x y : Int32} {N M : Nat} (sh' : List Kd) (n : Nat) (hl : sh.length = n) (hu : ∀ i, i < N → u.1 (n + 1 + i) = fun _ => 0) (hx : ¬ x < 0) (hy : ¬ y < 0) (hN : x.toNatClampNeg = N) (hM : y.toNatClampNeg = M) (hb1 : N * 4 ≤ 536870912) (hb2 : M * 4 ≤ 536870912) (hcells : cells + (1 + N) ≤ R.cells) (hslots : slots + (N + N * M) ≤ R.slots) (hcnt : s.heap.size + cells = B + n) (hne : sh ≠ [] ∨ s.heap.size = B) (hsh : sh ++ ((5, N, (List.range N).map (fun i => n + 1 + i)) :: List.replicate N (1, M, [])) = sh') (hd : decode cc pc = .ok (.multianewarray index 2, 4)) (kk : Z sh' p l e R s m args below meth c D cA (adB B) (inB B) (cells + 1 + N) (slots + N + N * M) Q u (pc + 4) ls (.ref (adB B n) :: rest)) : Z sh p l e R s m args below meth c D cA (adB B) (inB B) cells slots Q u pc ls (.int y :: .int x :: rest) := by
  subst hsh
  subst hl
  subst hN
  subst hM
  refine z_sized hcnt hne (fun H locs hP hS hsz => ?_)
  intro T hT X
  have hK := C.2.2.2.2.2.2.2.1
  have hA1 : s.vm.findClass (FieldType.array .int).toString = some (cA 1) := (hK.2 0 (cA 1, .int) rfl).2
  have hA5 : s.vm.findClass ("[" ++ (FieldType.array .int).toString) = some (cA 5) := (hK.2 4 (cA 5, .array .int) rfl).2
  obtain ⟨vm₁, cA', comp, hW, hfA, hfC, X', step⟩ := g_mna X C.1 C.2.2.2.2.1 (C.2.2.2.2.2.1 _ w1) hAO (C.2.2.2.2.2.1 _ w2) (g := F0 m pc ls (.int y :: .int x :: rest)) rfl (by rw [C.2.1]; exact hd) rfl hx hy hb1 hb2 hcells hslots
  cases Option.some.inj (hA5.symm.trans hfA)
  cases Option.some.inj (hA1.symm.trans hfC)
  have hTh : (T.setVm vm₁).heap = H := hT
  generalize hF : gFil (T.setVm vm₁) (cA 5) (cA 1) x.toNatClampNeg y.toNatClampNeg x.toNatClampNeg = F at X' step
  obtain ⟨f1, f2, -, -⟩ := gFil_f (T.setVm vm₁) (cA 5) (cA 1) x.toNatClampNeg y.toNatClampNeg x.toNatClampNeg
  rw [hF, hTh] at f1 f2
  have hold : ∀ q : Nat, q < H.size → F.heap[q]? = H[q]? := fun q hq => by
    have := gFil_o (T.setVm vm₁) (cA 5) (cA 1) x.toNatClampNeg y.toNatClampNeg (a := q) (by rw [hTh]; exact hq) x.toNatClampNeg
    rw [hF, hTh] at this
    exact this
  have hrow : ∀ j : Nat, j < x.toNatClampNeg → F.heap[H.size + 1 + j]? = some (gIn (cA 1) y.toNatClampNeg) := fun j hj => by
    have := gFil_i (T.setVm vm₁) (cA 5) (cA 1) x.toNatClampNeg y.toNatClampNeg x.toNatClampNeg j hj
    rw [hF, hTh] at this
    exact this
  have hTs : T.heap.size = H.size := by rw [hT]
  obtain ⟨t, a1, b1⟩ := kk F.heap _ (fun k q hk => by
    obtain ⟨kd, k1, k2⟩ := wld_inv hk
    subst k2
    by_cases h1 : k < sh.length
    · rw [List.getElem?_append_left h1] at k1
      have := hP k _ (wld_at k1)
      exact this.kept (hold _ this.lt)
    · rw [List.getElem?_append_right (by omega)] at k1
      by_cases h2 : k = sh.length
      · subst h2
        rw [Nat.sub_self] at k1
        cases k1
        show F.heap[B + sh.length]? = some (vp_cell (cA 5) (x.toNatClampNeg, .inr (.inr (.inr (.inr (fun i => (((List.range x.toNatClampNeg).map (fun i => sh.length + 1 + i))[i]?).map (adB B)))))))
        rw [← hsz, f2, gOut_a, vp_cell_q]
        refine congrArg some (arrV_cg (fun j hj => ?_))
        rw [if_pos hj, List.getElem?_map, List.getElem?_range hj, hsz]
        show va_rf (some _) = va_rf (some (B + (sh.length + 1 + j)))
        rw [show B + (sh.length + 1 + j) = B + sh.length + 1 + j by omega]
      · obtain ⟨j, rfl⟩ : ∃ j, k = sh.length + 1 + j := ⟨k - sh.length - 1, by omega⟩
        rw [show sh.length + 1 + j - sh.length = j + 1 by omega, List.getElem?_cons_succ, List.getElem?_replicate] at k1
        by_cases h3 : j < x.toNatClampNeg
        · rw [if_pos h3] at k1
          cases k1
          show F.heap[B + (sh.length + 1 + j)]? = some (vp_cell (cA 1) (y.toNatClampNeg, .inl (u.1 (sh.length + 1 + j))))
          rw [show B + (sh.length + 1 + j) = H.size + 1 + j by omega, hrow j h3, hu j h3]
          rw [vp_cell_i, ← arrV_new]
          rfl
        · rw [if_neg h3] at k1
          cases k1) ⟨by rw [f1]; have := hS.1; omega, fun q h1 h2 => (hold q (Nat.lt_of_lt_of_le h1 hS.1)).trans (hS.2.1 q h1 h2), fun q hq => by
    rcases List.mem_append.mp hq with h | h
    · exact hS.2.2 q h
    · obtain ⟨j, -, rfl⟩ := List.mem_map.mp h
      show B ≤ T.heap.size
      omega⟩ F rfl X'
  refine ⟨t, step t ?_, b1⟩
  rw [hTs, hsz]
  exact a1
end ZM
theorem ha_i {N : Nat} {f : Nat → Int32} (h : f = fun _ => 0) : ∀ c' : ClassId, vp_cell c' (N, .inl f) = arrV c' N (fun _ => .int 0) := fun c' => by subst h; rfl
section ZN
variable {sh : List Kd} {p : Program} {l : Launch} {e : Env} {R : Room} {s : State} {m : MethodId} {args : Array Value} {below : List Frame} {meth : Method} {c : Code} {cc : ByteArray} {nL : Nat} {ret : Option FieldType} {own : String} {D : va_G} {cA : Nat → ClassId} {B : Nat} {cells slots : Nat} {Q : State → Prop} {u : St} {pc : Nat} {ls : Array Slot} {rest : List Value}
theorem z_new_int (C : Cx sh p s m args meth c cc nL ret own D cA (adB B) (inB B)) (w : Cond.arrayClass .int ∈ LW) {x : Int32} (N : Nat) (sh' : List Kd) (n : Nat) (hl : sh.length = n) (hu : u.1 n = fun _ => 0) (hx : ¬ x < 0) (hN : x.toNatClampNeg = N) (hb : N ≤ 5000) (hcells : cells + 1 ≤ R.cells) (hslots : slots + N ≤ R.slots) (hcnt : s.heap.size + cells = B + n) (hne : sh ≠ [] ∨ s.heap.size = B) (hsh : sh ++ [(1, N, [])] = sh') (hd : decode cc pc = .ok (.newarray .int, 2)) (kk : Z sh' p l e R s m args below meth c D cA (adB B) (inB B) (cells + 1) (slots + N) Q u (pc + 2) ls (.ref (adB B n) :: rest)) : Z sh p l e R s m args below meth c D cA (adB B) (inB B) cells slots Q u pc ls (.int x :: rest) := z_newa C (atype := .int) (ty := .int) 1 rfl ((C.2.2.2.2.2.2.2.1).2 0 (cA 1, .int) rfl).2 w sh' (a0 := (N, .inl (u.1 n))) n hl rfl (ha_i hu) hx hN (by show N * 4 ≤ _; omega) hcells hslots hcnt hne hsh hd kk
theorem z_new_boolean (C : Cx sh p s m args meth c cc nL ret own D cA (adB B) (inB B)) (w : Cond.arrayClass .boolean ∈ LW) {x : Int32} (N : Nat) (sh' : List Kd) (n : Nat) (hl : sh.length = n) (hu : u.1 n = fun _ => 0) (hx : ¬ x < 0) (hN : x.toNatClampNeg = N) (hb : N ≤ 5000) (hcells : cells + 1 ≤ R.cells) (hslots : slots + N ≤ R.slots) (hcnt : s.heap.size + cells = B + n) (hne : sh ≠ [] ∨ s.heap.size = B) (hsh : sh ++ [(2, N, [])] = sh') (hd : decode cc pc = .ok (.newarray .boolean, 2)) (kk : Z sh' p l e R s m args below meth c D cA (adB B) (inB B) (cells + 1) (slots + N) Q u (pc + 2) ls (.ref (adB B n) :: rest)) : Z sh p l e R s m args below meth c D cA (adB B) (inB B) cells slots Q u pc ls (.int x :: rest) := z_newa C (atype := .boolean) (ty := .boolean) 2 rfl ((C.2.2.2.2.2.2.2.1).2 1 (cA 2, .boolean) rfl).2 w sh' (a0 := (N, .inl (u.1 n))) n hl rfl (ha_i hu) hx hN (by show N * 1 ≤ _; omega) hcells hslots hcnt hne hsh hd kk
theorem z_new_byte (C : Cx sh p s m args meth c cc nL ret own D cA (adB B) (inB B)) (w : Cond.arrayClass .byte ∈ LW) {x : Int32} (N : Nat) (sh' : List Kd) (n : Nat) (hl : sh.length = n) (hu : u.1 n = fun _ => 0) (hx : ¬ x < 0) (hN : x.toNatClampNeg = N) (hb : N ≤ 5000) (hcells : cells + 1 ≤ R.cells) (hslots : slots + N ≤ R.slots) (hcnt : s.heap.size + cells = B + n) (hne : sh ≠ [] ∨ s.heap.size = B) (hsh : sh ++ [(3, N, [])] = sh') (hd : decode cc pc = .ok (.newarray .byte, 2)) (kk : Z sh' p l e R s m args below meth c D cA (adB B) (inB B) (cells + 1) (slots + N) Q u (pc + 2) ls (.ref (adB B n) :: rest)) : Z sh p l e R s m args below meth c D cA (adB B) (inB B) cells slots Q u pc ls (.int x :: rest) := z_newa C (atype := .byte) (ty := .byte) 3 rfl ((C.2.2.2.2.2.2.2.1).2 2 (cA 3, .byte) rfl).2 w sh' (a0 := (N, .inl (u.1 n))) n hl rfl (ha_i hu) hx hN (by show N * 1 ≤ _; omega) hcells hslots hcnt hne hsh hd kk
end ZN
/-- a row of ints filled, in a heap of any shape -/
theorem n_fill (sh : List Kd) (q n : Nat) (v : Int32) (u : St) (hn : n < 2 ^ 31) (hs : sh[q]? = some (1, n, [])) : MtG yJ7_fill_53178 cJ7_fill_53178 4 0 0 0 (fun B => [.ref (adB B q), .int v]) sh u sh (fil u q n v) := by
  refine MtG.of (by decide) (fun B => Nat.le_of_ble_eq_true rfl) ?_
  intro p l e s m args below meth c D cA B ls C hAO hnm hsz hl
  have hl : lv_has ls 4 [(0, .ref (adB B q)), (1, .int v)] := hl
  refine z_iconst C (0 : Int32) dJ7_fill_53178_0 (by decide) ?_
  refine z_istore_n C (i := 2) [(2, .int 0), (0, .ref (adB B q)), (1, .int v)] hl dJ7_fill_53178_1 rfl (by decide) rfl (fun ls hl => ?_)
  refine z_aload_n C (i := 0) (k := 1) hl dJ7_fill_53178_2 rfl rfl ?_
  refine z_alen C q n (nI n) hs rfl dJ7_fill_53178_3 ?_
  refine z_istore_n C (i := 3) [(3, .int (nI n)), (2, .int 0), (0, .ref (adB B q)), (1, .int v)] hl dJ7_fill_53178_4 rfl (by decide) rfl (fun ls hl => ?_)
  have key : ∀ (t j : Nat), j + t = n → ∀ ls, lv_has ls 4 [(3, .int (nI n)), (2, .int (nI j)), (0, .ref (adB B q)), (1, .int v)] → Z sh p l e (rmG 0 0 0) s m args below meth c D cA (adB B) (inB B) 0 0 (MQ below (QG D cA B sh (fil u q n v)) args s 0 0 (inB B)) (fil u q j v) 5 ls [] := by
    intro t
    induction t with
    | zero =>
      intro j hj ls hl
      have hj : j = n := by omega
      subst hj
      refine z_iload_n C (i := 2) (k := 1) hl dJ7_fill_53178_5 rfl rfl ?_
      refine z_iload_n C (i := 3) (k := 0) hl dJ7_fill_53178_6 rfl rfl ?_
      refine z_icmp_ge C 20 dJ7_fill_53178_7 (by decide) (fun _ => ?_) (fun hc => absurd (nI_le (Nat.le_refl j) hn) hc)
      exact z_vretG C rfl rfl dJ7_fill_53178_20
    | succ t ih =>
      intro j hj ls hl
      refine z_iload_n C (i := 2) (k := 1) hl dJ7_fill_53178_5 rfl rfl ?_
      refine z_iload_n C (i := 3) (k := 0) hl dJ7_fill_53178_6 rfl rfl ?_
      refine z_icmp_ge C 20 dJ7_fill_53178_7 (by decide) (fun hc => absurd hc (nI_ge (by omega) hn)) (fun _ => ?_)
      refine z_aload_n C (i := 0) (k := 2) hl dJ7_fill_53178_10 rfl rfl ?_
      refine z_iload_n C (i := 2) (k := 1) hl dJ7_fill_53178_11 rfl rfl ?_
      refine z_iload_n C (i := 1) (k := 3) hl dJ7_fill_53178_12 rfl rfl ?_
      refine z_iast C q n hs (nI_in (by omega) hn) dJ7_fill_53178_13 ?_
      rw [nI_clamp (by omega), fil_s]
      refine z_iinc C (i := 2) (k := 1) (nI (j + 1)) [(2, .int (nI (j + 1))), (3, .int (nI n)), (0, .ref (adB B q)), (1, .int v)] hl dJ7_fill_53178_14 rfl (by rw [nI_succ]; rfl) (by decide) rfl (fun ls hl => ?_)
      refine z_goto C 5 dJ7_fill_53178_17 (by decide) ?_
      exact ih (j + 1) (by omega) ls (lv_sub hl [1, 0, 2, 3] rfl)
  have h1 := key n 0 (by omega) ls hl
  rw [fil_0] at h1
  exact h1
