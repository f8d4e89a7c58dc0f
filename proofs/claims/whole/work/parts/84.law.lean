/-! the law: its context, its rows -/
def R_law : String := "GateWalkLaw"
def lw_P (b : Addr) (xs : List Int32) (args : Array Value) (s : State) : Prop := args = #[.ref b] ∧ s.IntsAt b xs ∧ xs.length ≤ 3072 ∧ (Jvm.Cond.and given_1 narrow_1).before args s = true
def lw_Q (_ : Array Value) (s : State) (o : Outcome) (t : State) : Prop := o = .returned (some (.int 1)) ∧ Framed s o t [] 601024 7293034
def lw_Z (below : List Frame) (a : Array Value) (s : State) : State → Prop := fun t => ∃ o, t.status = .running ∧ Ended t below o ∧ lw_Q a s o t
/-- the law's own end, with 1 on the stack, nothing written that was there before, its room as the claim has it -/
theorem lw_ret {p : Program} {l : Launch} {e : Env} {s : State} {m : MethodId} {below : List Frame} {meth : Method} {c : Code} {b : Nat} (hx : p.tables.exec = Jvm.exec) (hb : c.code = code) (hr : meth.sig.returnType = ret) (hlocks : meth.locks = false) {pc : Nat} {H : Heap} {ls : Array Slot} (hdg : decode code pc = .ok (.ireturn, 1)) : W p l e room_1 s m #[Value.ref b] below meth c H [] 601024 7293034 (lw_Z below #[Value.ref b] s) (F0 m pc ls [.int 1]) := by
  intro T hT X
  obtain ⟨fs, hret, hrun, hended, hW, hframe⟩ := X.leave (v := some (.int 1)) (hlocks := hlocks) (fun h => by rw [hr] at h; cases h)
  have hmeth' : T.vm.method? m = some meth := X.method'
  refine ⟨T.setFrames fs, ?_, .returned (some (.int 1)), hrun, hended, rfl, ⟨_, rfl⟩, hW, hframe⟩
  jvm_step X.here [X.here.top, hx, hb, hdg, hmeth', hr, ret, narrow_b1]
  (try refine ⟨rfl, ?_⟩); (try refine ⟨rfl, ?_⟩)
  first | (intro acts; rw [hret _ acts rfl rfl rfl]) | rw [hret _ _ rfl rfl rfl]
  exact Steps.refl _
/-- what holds at the law's entry -/
def lw_At (p : Program) (s : State) (m : MethodId) (meth : Method) (c : Code) (b L : Nat) (xs : Nat → Int32) : Prop :=
  p.tables.exec = Jvm.exec ∧ c.code = code ∧ meth.sig.returnType = ret ∧ c.maxLocals = 7 ∧ s.vm.findClass R_law = some m.cls ∧ (∀ w ∈ lw_tbl, w.before #[Value.ref b] s = true) ∧ va_X b L xs s s.heap ∧ b < s.heap.size ∧ meth.locks = false ∧ (Jvm.Cond.and given_1 narrow_1).before #[Value.ref b] s = true
def Lc (p : Program) (s : State) (m : MethodId) (meth : Method) (c : Code) (D : va_G) (cA : Nat → ClassId) (b L : Nat) (xs : Nat → Int32) : Prop := Cx SH p s m #[Value.ref b] meth c cL_law 7 ret RL D cA (adB s.heap.size) (inB s.heap.size) ∧ va_X b L xs s s.heap ∧ b < s.heap.size ∧ L ≤ 3072
abbrev lvL (b B j : Nat) : List (Nat × Value) := [(4, .int (nI (6 * j))), (3, .ref (adB B 72)), (2, .ref (adB B 50)), (1, .ref (adB B 0)), (0, .ref b)]
abbrev sL (x y : Int32) : Int64 := (x.toInt64 <<< ((32 : Int32).toInt64 &&& 63)) ||| (y.toInt64 &&& 4294967295)
theorem lgc (r : Int64) : lg_cmp r r = 0 := by
  unfold lg_cmp
  simp
section LAWR
variable {p : Program} {l : Launch} {e : Env} {s : State} {m : MethodId} {below : List Frame} {meth : Method} {c : Code} {D : va_G} {cA : Nat → ClassId} {b L : Nat} {xs : Nat → Int32} {cells slots : Nat} {Q : State → Prop} {u : St} {pc : Nat} {ls : Array Slot} {rest : List Value} {j : Nat}
theorem z_sld (C : Lc p s m meth c D cA b L xs) {i : Nat} (hi : i < L) (hd : decode cL_law pc = .ok (.iaload, 1)) (kk : Z SH p l e room_1 s m #[Value.ref b] below meth c D cA (adB s.heap.size) (inB s.heap.size) cells slots Q u (pc + 1) ls (.int (xs i) :: rest)) : Z SH p l e room_1 s m #[Value.ref b] below meth c D cA (adB s.heap.size) (inB s.heap.size) cells slots Q u pc ls (.int (nI i) :: .ref b :: rest) := fun H locs hP hS => by
  have hL := C.2.2.2
  refine va_sld C.1.1 C.1.2.1 C.2.1 C.2.2.1 (show ¬ (s.heap.size ≤ b) from Nat.not_le.mpr C.2.2.1) hS (i := nI i) (vp_in_nI hi (by omega)) hd ?_
  rw [nI_clamp (by omega)]
  exact kk H locs hP hS
theorem z_slen (C : Lc p s m meth c D cA b L xs) (hd : decode cL_law pc = .ok (.arraylength, 1)) (kk : Z SH p l e room_1 s m #[Value.ref b] below meth c D cA (adB s.heap.size) (inB s.heap.size) cells slots Q u (pc + 1) ls (.int (Int32.ofNat L) :: rest)) : Z SH p l e room_1 s m #[Value.ref b] below meth c D cA (adB s.heap.size) (inB s.heap.size) cells slots Q u pc ls (.ref b :: rest) := fun H locs hP hS => va_slen C.1.1 C.1.2.1 C.2.1 C.2.2.1 (show ¬ (s.heap.size ≤ b) from Nat.not_le.mpr C.2.2.1) hS hd (kk H locs hP hS)
theorem z_widen {sh : List Kd} {R : Room} {args : Array Value} {ad : Nat → Nat} {A : Nat → Prop} (c2 s2 : Nat) (h1 : cells ≤ c2) (h2 : slots ≤ s2) (kk : Z sh p l e R s m args below meth c D cA ad A c2 s2 Q u pc ls rest) : Z sh p l e R s m args below meth c D cA ad A cells slots Q u pc ls rest := fun H locs hP hS => W.widen (k := c2) (n := s2) h1 h2 (kk H locs hP hS)
theorem z_arg (C : Lc p s m meth c D cA b L xs) (k : Nat) {n : Int} (hk : k ≤ 5) (hn : Int32.ofInt n = nI k) (hj : 6 * j + 6 ≤ L) (hl : lv_has ls 7 (lvL b s.heap.size j)) (d0 : decode cL_law pc = .ok (.aload_n 0, 1)) (d1 : decode cL_law (pc + 1) = .ok (.iload 4, 2)) (d3 : decode cL_law (pc + 1 + 2) = .ok (.iconst n, 1)) (d4 : decode cL_law (pc + 1 + 2 + 1) = .ok (.iadd, 1)) (d5 : decode cL_law (pc + 1 + 2 + 1 + 1) = .ok (.iaload, 1)) (kk : Z SH p l e room_1 s m #[Value.ref b] below meth c D cA (adB s.heap.size) (inB s.heap.size) cells slots Q u (pc + 6) ls (.int (xs (6 * j + k)) :: rest)) : Z SH p l e room_1 s m #[Value.ref b] below meth c D cA (adB s.heap.size) (inB s.heap.size) cells slots Q u pc ls rest := by
  refine z_aload_n C.1 (i := 0) (k := 4) hl d0 rfl rfl ?_
  refine z_iload C.1 (i := 4) (k := 0) hl d1 rfl ?_
  refine z_iconst C.1 (nI k) d3 hn ?_
  refine z_iadd C.1 d4 ?_
  rw [nI_add]
  exact z_sld C (by omega) d5 kk
theorem z_callT {F : Nat} {x y : Int32} {o : Option Int32} {u' : St} (C : Lc p s m meth c D cA b L xs) (hTX : TX (inB s.heap.size) s) (hls : l.stackTraces = false) (h : timF F x y u = some (o, u')) {lv : List (Nat × Value)} (hl : lv_has ls 7 lv) (hcs : cells + 1 ≤ room_1.cells ∧ slots + 6 ≤ room_1.slots) (hd : decode cL_law pc = .ok (.invokestatic 128, 3)) (kk : Z SH p l e room_1 s m #[Value.ref b] below meth c D cA (adB s.heap.size) (inB s.heap.size) (cells + 1) (slots + 6) Q (tmU o u') (pc + 3) ls [.int (tmR o)]) : Z SH p l e room_1 s m #[Value.ref b] below meth c D cA (adB s.heap.size) (inB s.heap.size) cells slots Q u pc ls [.ref (adB s.heap.size 72), .int y, .int x, .ref (adB s.heap.size 0)] := fun H locs hP hS T hT X => by
  obtain ⟨C, _⟩ := C
  have hst : Cond.static yL_time ∈ LW := LW_i 859 (by decide +kernel) rfl
  have hin : Cond.initialized yL_time.cls ∈ LW := LW_i 0 (by decide +kernel) rfl
  have hG : GoodIn LW (va_wsS RL 128 yL_time (.codeWith yL_time cL_time 5 (some .int) [(0, 10, 13, 13)] :: LW)) := by
    intro w hw
    unfold va_wsS at hw
    simp only [List.cons_append, List.nil_append, List.mem_cons] at hw
    rcases hw with rfl | rfl | rfl | rfl | hw
    · exact LW_good ml_L_128
    · exact LW_good hst
    · exact LW_good hin
    · exact LW_good cwt_L
    · exact LW_good hw
  have hr := vx_runSW (g := F0 m pc ls [.ref (adB s.heap.size 72), .int y, .int x, .ref (adB s.heap.size 0)]) (As := [.ref (adB s.heap.size 0), .int x, .int y, .ref (adB s.heap.size 72)]) (rest := []) (locs := locs) (below := below) (H := H) (p := p) (e := e) (cells := cells) (slots := slots) (R := room_1) (meth := meth) ⟨C.1, C.2.1, C.2.2.2.1, C.2.2.2.2.1, C.2.2.2.2.2.1⟩ (m_L_time F x y u o u' h l hls D cA s.heap.size) (vx_cwSW 4 C.2.2.2.2.2.1 hG rfl rfl rfl (by decide +kernel) ⟨Nat.le_of_ble_eq_true rfl, Nat.le_of_ble_eq_true rfl⟩) ⟨WT.blind, fun U hU hW => ⟨rfl, ⟨by rw [hU]; exact hP, va_K.moved hW.alike C.2.2.2.2.2.2.2.1, C.2.2.2.2.2.2.2.2.1.warm hW⟩, hTX.go hW (fun q hq hn => by rw [hU]; exact hS.2.1 q hq hn)⟩⟩ rfl rfl hl.1 rfl (lv_room (Nat.le_of_ble_eq_true rfl)) hd hcs
  obtain ⟨v, st₀, t, T', L, h0, X', hL, e1, e2, ⟨hv, hp, hz, hk⟩, st⟩ := hr T hT X
  cases hv
  rw [h0] at hz hk
  obtain ⟨t2, a1, b1⟩ := kk T'.heap (locs ++ L) (by rw [e1]; exact hp) ⟨Nat.le_trans hS.1 (by rw [e1]; exact hz), fun q h1 h2 => by rw [e1, hk q (Nat.lt_of_lt_of_le h1 hS.1) h2]; exact hS.2.1 q h1 h2, fun q hq => by
      rcases List.mem_append.mp hq with h | h
      · exact hS.2.2 q h
      · exact hL q h⟩ T' rfl X'
  exact ⟨t2, st t2 a1, b1⟩
end LAWR
