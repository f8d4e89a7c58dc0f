theorem Met.ofWH {l : Launch} {y : MethodName} {ws ws' : List Cond} {rm : Room} {Pc : Array Value → State → Prop} {Qc : Array Value → State → Outcome → State → Prop} {mc ms : Nat} {free : Addr → Prop} {cc : ByteArray} {maxL : Nat} {ret : Option FieldType} {hh : List (Nat × Nat × Nat × Nat)} (hy : plainName y.cls = true) (hw : ws = Cond.codeWith y cc maxL ret hh :: ws')
    (body : ∀ p e s m args below meth c s₁, BodyLoose p l y (headSpec ws rm) cc maxL ret e s m args below meth c s₁ → c.maxLocals = maxL → Pc args s → W p l e (headSpec ws rm).room s m args below meth c s.heap [] 0 0 (MQ below Qc args s mc ms free) (entryFrame m args maxL)) : Met l y ws rm Pc Qc mc ms free := by
  refine MetFree.of_bodyS (code := cc) (maxLocals := maxL) (ret := ret) hy ?_ ?_
  · intro args s m h hn
    obtain ⟨m9, meth, c, hn9, h1, h2, h3, h4, -, h5, h6, -⟩ := Cond.codeWith_spec (atoms_spec (ws := ws) h _ (by rw [hw]; exact List.mem_cons_self))
    cases hn.symm.trans hn9
    exact ⟨meth, c, h1, h2, h3, h4, h5, h6⟩
  · intro p e s m args below meth c s₁ B hml hP _
    have hh0 : s₁.heap = s.heap := by rw [B.state]; rfl
    obtain ⟨t, a1, o, b1, b2, b3⟩ := body p e s m args below meth c s₁ B hml hP s₁ hh0 (Stand.of_body B)
    exact ⟨t, o, a1, b1, b2, ⟨b3.1, b3.2⟩⟩
def tmR (o : Option Int32) : Int32 := match o with
  | none => 1
  | some _ => 0
def tmU (o : Option Int32) (u : St) : St := match o with
  | none => u
  | some r => wl u 72 0 r.toInt64
def QLm (D : va_G) (cA : Nat → ClassId) (B : Nat) (o : Option Int32) (u' : St) : Array Value → State → Outcome → State → Prop := fun _ st oc t => oc = .returned (some (.int (tmR o))) ∧ va_P D classes (wld SH cA (adB B) (tmU o u')) t.heap ∧ va_F (inB B) st t
def rmL : Room := { frames := 12, cells := 1, slots := 6, locals := 700 }
theorem nl_L_13 : Cond.classLink RL 13 NSE ∈ LW := LW_i 861 (by decide +kernel) rfl
theorem cwt_L : Cond.codeWith yL_time cL_time 5 (some .int) [(0, 10, 13, 13)] ∈ LW := LW_i 860 (by decide +kernel) rfl
theorem vwt_time : Vw yX11_time := ⟨LW_i 863 (by decide +kernel) rfl, LW_i 864 (by decide +kernel) rfl⟩
set_option maxRecDepth 20000 in
set_option maxHeartbeats 4000000 in
theorem m_L_time (F : Nat) (x y : Int32) (u : St) (o : Option Int32) (u' : St) (h : timF F x y u = some (o, u')) (l : Launch) (hls : l.stackTraces = false) (D : va_G) (cA : Nat → ClassId) (B : Nat) : Met l yL_time (.codeWith yL_time cL_time 5 (some .int) [(0, 10, 13, 13)] :: LW) rmL (va_Pc [.ref (adB B 0), .int x, .int y, .ref (adB B 72)] (WT D cA B u)) (QLm D cA B o u') 1 6 (inB B) := by
  refine Met.ofWH (cc := cL_time) (maxL := 5) (ret := some .int) (hh := [(0, 10, 13, 13)]) (by decide) rfl ?_
  intro p e s m args below meth c s₁ Bd hml hv
  obtain ⟨rfl, ⟨hP, hK, hN⟩, hTX⟩ := hv
  have hts := atoms_spec (ws := (.codeWith yL_time cL_time 5 (some .int) [(0, 10, 13, 13)] :: LW)) Bd.pre
  have htab := vx_table (x := yL_time) Bd (hts _ List.mem_cons_self)
  have hl := lv_entry ([.ref (adB B 0), .int x, .int y, .ref (adB B 72)]) (n := 5) (Nat.le_of_ble_eq_true rfl)
  rw [lg_entry_eq]
  generalize hargs : [Value.ref (adB B 0), .int x, .int y, .ref (adB B 72)].toArray = args at *
  have C : Cx SH p s m args meth c cL_time 5 (some .int) RL D cA (adB B) (inB B) := ⟨Bd.exec, Bd.bytes, Bd.returns, hml, findClass_of_methodNamed Bd.named, fun w hw => hts w (List.mem_cons_of_mem _ hw), Bd.notSynchronized, hK, hN, fun i j _ _ (h : B + i = B + j) => by omega, fun q _ => (show B ≤ B + q from Nat.le_add_right _ _)⟩
  generalize (lg_sl ([Value.ref (adB B 0), .int x, .int y, .ref (adB B 72)]) ++ List.replicate (5 - (lg_sl ([Value.ref (adB B 0), .int x, .int y, .ref (adB B 72)])).length) Slot.unset).toArray = ls at hl ⊢
  have hl : lv_has ls 5 [(0, .ref (adB B 0)), (1, .int x), (2, .int y), (3, .ref (adB B 72))] := hl
  suffices hZ : Z SH p l e rmL s m args below meth c D cA (adB B) (inB B) 0 0 (MQ below (QLm D cA B o u') args s 1 6 (inB B)) u 0 ls [] from hZ s.heap [] hP va_S.rf
  refine z_aload_n C (i := 3) (k := 3) hl dL_time_0 rfl rfl ?_
  refine z_iconst C (0 : Int32) dL_time_1 (by decide) ?_
  refine z_aload_n C (i := 0) (k := 0) hl dL_time_2 rfl rfl ?_
  refine z_iload_n C (i := 1) (k := 1) hl dL_time_3 rfl rfl ?_
  refine z_iload_n C (i := 2) (k := 2) hl dL_time_4 rfl rfl ?_
  intro H locs hP hS T hT X
  have hG : GoodIn LW (wsV RL 7 yX11_time.cls yX11_time (.code yX11_time cX11_time 4 (some .int) :: LW)) := goodLW _ (by
    intro w hw
    simp only [List.mem_cons, List.not_mem_nil, or_false] at hw
    rcases hw with rfl | rfl | rfl | rfl
    · exact ml_L_7
    · exact vwt_time.1
    · exact vwt_time.2
    · exact cw_X11_time.1) cw_X11_time.2.1
  have hr := vx_runV (g := F0 m 5 ls [.int y, .int x, .ref (adB B 0), .int 0, .ref (adB B 72)]) (As := [.int x, .int y]) (rest := [.int 0, .ref (adB B 72)]) (C := yX11_time.cls) (b := adB B 0) (locs := locs) (below := below) (H := H) (p := p) (e := e) (cells := 0) (slots := 0) (R := rmL) (meth := meth) ⟨C.1, C.2.1, C.2.2.2.1, C.2.2.2.2.1, C.2.2.2.2.2.1⟩ (m_X11_time F x y u o u' h l hls D cA B) (cwV 2 C.2.2.2.2.2.1 hG rfl rfl rfl ⟨rfl, cw_X11_time.2.2⟩ ⟨Nat.le_of_ble_eq_true rfl, Nat.le_of_ble_eq_true rfl⟩) ⟨WT.blind, va_recv C.2.2.2.2.2.2.2.1 hP (ci := 11) (q0 := 0) rfl (wld_at sh_0), fun U hU hW => ⟨rfl, ⟨by rw [hU]; exact hP, va_K.moved hW.alike C.2.2.2.2.2.2.2.1, C.2.2.2.2.2.2.2.2.1.warm hW⟩, hTX.go hW (fun q hq hn => by rw [hU]; exact hS.2.1 q hq hn)⟩⟩ rfl rfl hl.1 rfl (lv_room (Nat.le_of_ble_eq_true rfl)) dL_time_5 ⟨Nat.le_of_ble_eq_true rfl, Nat.le_of_ble_eq_true rfl⟩
  rcases hr T hT X with ⟨v, st₀, t, T', L, h0, X', hL, e1, e2, ⟨⟨r, ho, hv⟩, hp, hz, hk⟩, st⟩ | ⟨q, st₀, t, T', L, E, ce, h0, X', hL, e1, e2, ⟨⟨ho, hE⟩, hp, hz, hk⟩, hce, hcv, hcl, st⟩
  · cases hv
    rw [h0] at hz hk
    have kk : Z SH p l e rmL s m args below meth c D cA (adB B) (inB B) (0 + 1) (0 + 6) (MQ below (QLm D cA B o u') args s 1 6 (inB B)) u' 8 ls [.int r, .int 0, .ref (adB B 72)] := by
      refine z_i2l C dL_time_8 ?_
      refine z_last C 72 1 sh_72 (by decide) dL_time_9 ?_
      refine z_goto C 17 dL_time_10 (by decide) ?_
      refine z_iconst C (0 : Int32) dL_time_17 (by decide) ?_
      intro H2 locs2 hP2 hS2
      exact W.iret (v := 0) C.1 C.2.1 C.2.2.1 (fun t ht hW => by
        rw [ho]
        exact ⟨rfl, by rw [ht]; exact hP2, hS2.F ht⟩) hS2.2.2 dL_time_18 C.2.2.2.2.2.2.1
    obtain ⟨t2, a1, b1⟩ := kk T'.heap (locs ++ L) (by rw [e1]; exact hp) ⟨Nat.le_trans hS.1 (by rw [e1]; exact hz), fun q h1 h2 => by rw [e1, hk q (Nat.lt_of_lt_of_le h1 hS.1) h2]; exact hS.2.1 q h1 h2, fun q hq => by
      rcases List.mem_append.mp hq with h | h
      · exact hS.2.2 q h
      · exact hL q h⟩ T' rfl X'
    exact ⟨t2, st t2 a1, b1⟩
  · rw [h0] at hz hk
    subst hE
    have kk : Z SH p l e rmL s m args below meth c D cA (adB B) (inB B) (0 + 1) (0 + 6) (MQ below (QLm D cA B o u') args s 1 6 (inB B)) u' 13 ls [.ref q] := by
      refine z_astore C (i := 4) [(4, .ref q), (0, .ref (adB B 0)), (1, .int x), (2, .int y), (3, .ref (adB B 72))] hl dL_time_13 (by decide) rfl (fun ls hl => ?_)
      refine z_iconst C (1 : Int32) dL_time_15 (by decide) ?_
      intro H2 locs2 hP2 hS2
      exact W.iret (v := 1) C.1 C.2.1 C.2.2.1 (fun t ht hW => by
        rw [ho]
        exact ⟨rfl, by rw [ht]; exact hP2, hS2.F ht⟩) hS2.2.2 dL_time_16 C.2.2.2.2.2.2.1
    obtain ⟨t2, a1, b1⟩ := g_catch (pc := 5) (ls := ls) (rest := [.int 0, .ref (adB B 72)]) C.2.2.2.2.1 { startPc := 0, endPc := 10, handlerPc := 13, catchType := 13 } htab (by decide) (by decide) (C.2.2.2.2.2.1 _ nl_L_13) (va_Nw.use rfl hTX.1.1) (by rw [e1]; exact hce) hcv hcl (kk T'.heap (locs ++ L) (by rw [e1]; exact hp) ⟨Nat.le_trans hS.1 (by rw [e1]; exact hz), fun q h1 h2 => by rw [e1, hk q (Nat.lt_of_lt_of_le h1 hS.1) h2]; exact hS.2.1 q h1 h2, fun q hq => by
      rcases List.mem_append.mp hq with h | h
      · exact hS.2.2 q h
      · exact hL q h⟩) T' rfl X'
    exact ⟨t2, st.trans a1, b1⟩
