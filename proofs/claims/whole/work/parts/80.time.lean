/-! time: it returns or throws; the law's own helper catches -/
set_option maxRecDepth 100000 in
theorem at_good : ∀ w ∈ ((nsW RX11 217).filter vx_no).filter goodWord, w ∈ LW := by decide +kernel
def nsB : List Cond := [Cond.castable NSE NSE, Cond.declares (Bundle.initS RTE), Cond.declares (Bundle.initS "java/lang/Exception"), Cond.declares (Bundle.initS Bundle.tN)]
set_option maxRecDepth 100000 in
theorem at_bad : ∀ w ∈ ((nsW RX11 217).filter vx_no).filter (fun w => !goodWord w), w ∈ nsB := by decide +kernel
set_option maxRecDepth 100000 in
theorem at_ot : ∀ w ∈ (nsW RX11 217).filter vx_no, vx_ot w = true := by decide +kernel
theorem cl_nse : Cond.classLink RX11 213 NSE ∈ LW := LW_i 867 (by decide +kernel) rfl
theorem in_nse : Cond.initialized NSE ∈ LW := LW_i 19 (by decide +kernel) rfl
def TX (A : Nat → Prop) (U : State) : Prop := (va_Nw (.castable NSE NSE) U ∧ va_Nw (.declares (Bundle.initS RTE)) U ∧ va_Nw (.declares (Bundle.initS "java/lang/Exception")) U ∧ va_Nw (.declares (Bundle.initS Bundle.tN)) U) ∧ (∃ a, vk_R RX11 215 "no such node or time" a U) ∧ (∃ a, vk_R RX11 226 "the node waits for a dead ring" a U) ∧ vx_Zq Bundle.tN "UNASSIGNED_STACK" Bundle.steD A U U.heap ∧ vx_Zq Bundle.tN "SUPPRESSED_SENTINEL" Bundle.listD A U U.heap
theorem TX.go {A : Nat → Prop} {s U : State} (h : TX A s) (hW : s.WarmedH U.vm) (hk : ∀ q : Nat, q < s.heap.size → ¬ A q → U.heap[q]? = s.heap[q]?) : TX A U := by
  obtain ⟨⟨h1, h6, h7, h8⟩, ⟨a, h2⟩, ⟨b, h3⟩, h4, h5⟩ := h
  exact ⟨⟨va_Nw.warmC hW h1, va_Nw.warmD hW h6, va_Nw.warmD hW h7, va_Nw.warmD hW h8⟩, ⟨a, vk_R.warm hW h2⟩, ⟨b, vk_R.warm hW h3⟩, vx_Zq.moved hW.alike (h4.kept hk), vx_Zq.moved hW.alike (h5.kept hk)⟩
theorem TX.words {A : Nat → Prop} {s : State} {args : Array Value} (h : TX A s) (hw : ∀ w ∈ LW, w.before args s = true) : ∀ w ∈ (nsW RX11 217).filter vx_no, w.before args s = true :=
  vx_hat (fun w q => hw _ (at_good w q)) at_bad (vx_c (va_Nw.use rfl h.1.1) (vx_c (va_Nw.use rfl h.1.2.1) (vx_c (va_Nw.use rfl h.1.2.2.1) (vx_c (va_Nw.use rfl h.1.2.2.2) vx_n))))
section GTS
variable {p : Program} {l : Launch} {e : Env} {R : Room} {s : State} {m : MethodId} {args : Array Value} {below : List Frame} {meth : Method} {c : Code} {H : Heap} {locs : List Loc} {cells slots : Nat} {free : Addr → Prop} {ls : Array Slot} {rest : List Value} {Qc : Array Value → State → Outcome → State → Prop} {XC : String → State → State → Prop}
/-- 'throw new NoSuchElementException("text")': new; dup; ldc; invokespecial; athrow -/
theorem g_throwS {cc : ByteArray} {pc : Nat} (hexec : p.tables.exec = Jvm.exec) (hb : c.code = cc) (hl : l.stackTraces = false) {own text : String} {ik is ic mc ms sa : Nat} {A : Nat → Prop}
    (hown : s.vm.findClass own = some m.cls) (hk : (Cond.classLink own ik NSE).before args s = true) (hgk : vx_ot (Cond.classLink own ik NSE) = true) (hini : (Cond.initialized NSE).before args s = true) (hstr : vk_R own is text sa s) (hat : ∀ w ∈ (nsW own ic).filter vx_no, w.before args s = true)
    (hgood : ∀ w ∈ (nsW own ic).filter vx_no, vx_ot w = true)
    (hU : vx_Zq Bundle.tN "UNASSIGNED_STACK" Bundle.steD A s s.heap) (hN : vx_Zq Bundle.tN "SUPPRESSED_SENTINEL" Bundle.listD A s s.heap) (hS : va_S A s.heap H locs) (hsize : ls.size = c.maxLocals)
    (d0 : decode cc pc = .ok (.new ik, 3)) (d3 : decode cc (pc + 3) = .ok (.dup, 1)) (d4 : decode cc (pc + 4) = .ok (.ldc is, 2)) (d6 : decode cc (pc + 6) = .ok (.invokespecial ic, 3)) (d9 : decode cc (pc + 9) = .ok (.athrow, 1))
    (hout : ∀ x ∈ c.exceptionTable.toList, covers x (pc + 9) = false)
    (hRframes : 5 < R.frames) (hRlocals : (rest.map fun v => v.category).sum + 82 ≤ R.locals) (hRcells : cells + 1 ≤ R.cells) (hRslots : slots + 6 ≤ R.slots) (hlocks : meth.locks = false)
    (hx : ∀ t : State, s.vm.Alike t.vm → H.size ≤ t.heap.size → (∀ q : Nat, q < H.size → t.heap[q]? = H[q]?) → XC NSE s t)
    (hf : ∀ z ∈ locs, free z.base) (hc : cells + 1 ≤ mc) (hs : slots + 6 ≤ ms) :
    W p l e R s m args below meth c H locs cells slots (vx_MQ below Qc XC args s mc ms free) (F0 m pc ls rest) := by
  intro T hT X
  have htr : e.platform.stackTraces = false := (show e.platform.stackTraces = l.stackTraces by rw [X.admits.platform]).trans hl
  have Y := vx_rebase X (R' := { frames := R.frames, locals := R.locals, cells := 1, slots := 6 }) (Nat.le_refl _) (Nat.le_refl _) hRcells hRslots
  obtain ⟨s', hA⟩ : ∃ z, z = (T.setVm s.vm).setFrames (.invoking m args :: below) := ⟨_, rfl⟩
  rw [← hA] at Y
  have hvm : s'.vm = s.vm := by rw [hA]; rfl
  have hhp : s'.heap = H := by rw [hA]; exact hT
  have hW0 : s.WarmedH s'.vm := by rw [hvm]; exact State.WarmedH.refl s
  have hat' : ∀ w ∈ (nsW own ic).filter vx_no, w.before args s' = true := fun w hw => vx_ot_at hW0 hvm.symm (hgood w hw) (hat w hw)
  have hk' : (Cond.classLink own ik NSE).before args s' = true := vx_ot_at hW0 hvm.symm hgk hk
  have hini' : (Cond.initialized NSE).before args s' = true := vx_ot_at hW0 hvm.symm rfl hini
  have hU' : vx_Zq Bundle.tN "UNASSIGNED_STACK" Bundle.steD A s' s'.heap := by rw [hhp]; exact vx_Zq.moved hW0.alike (hU.kept hS.2.1)
  have hN' : vx_Zq Bundle.tN "SUPPRESSED_SENTINEL" Bundle.listD A s' s'.heap := by rw [hhp]; exact vx_Zq.moved hW0.alike (hN.kept hS.2.1)
  have h : ∀ w ∈ nsW own ic, w.before args s' = true := vx_own hat' (vx_isRefq hU'.1) (vx_isRefq hN'.1) hU'.2.word hN'.2.word
  have hown' : s'.vm.findClass own = some m.cls := by rw [hvm]; exact hown
  have hins : (Cond.instantiable NSE 6).before args s' = true := h _ (ns_5 (by simp))
  obtain ⟨vm₁, cX, kX, hfX, hkX, -, -, X₁, st1⟩ := Y.newCold hexec (own := own) (C := NSE) (index := ik) (n := 6) hown' hk' hins hini'
    (g := F0 m pc ls rest) rfl (by rw [hb]; exact d0) (Nat.le_refl _) (Nat.le_refl _)
  generalize hT1 : (T.setVm vm₁).pushCell { cls := cX, slots := kX.instanceTypes.map defaultValue, vm := .none } = T1 at X₁ st1
  have hcat : (Value.ref T.heap.size).category = 1 := rfl
  have hcellA : T1.heap[T.heap.size]? = some (freshCell cX kX) := by rw [← hT1]; exact State.heap_pushCell_size _ _
  have d3' : decode c.code (pc + 3) = .ok (.dup, 1) := by rw [hb]; exact d3
  have d4' : decode c.code (pc + 4) = .ok (.ldc is, 2) := by rw [hb]; exact d4
  have hstr' : vk_R own is text sa s' := vk_R.warm hW0 hstr
  obtain ⟨U, hsteps, hrun, hend, hW, hsame, ce, hce, hcv, hcc⟩ := g_ctor X₁ hexec htr (own := own) (ic := ic) hown' h (fun x hx => nomatch hx) hfX hkX hcellA (by rw [hhp, hT]; exact Nat.le_refl _) (msg := .ref sa) rfl
    (g := { method := m, pc := pc + 6, locals := ls, stack := .ref sa :: .ref T.heap.size :: .ref T.heap.size :: rest, locked := none }) rfl hsize rfl rfl (rest := rest) rfl
    (by rw [hb]; exact d6) (by rw [hb]; exact d9) hout hRframes (by simp only [List.map_cons, List.sum_cons, hcat]; omega) hlocks
  obtain ⟨f1, f2⟩ := vx_frame hsame
  rw [hhp] at f1 f2
  have hWs : s.WarmedH U.vm := State.WarmedH.trans hW0 hW
  have hcl : s.vm.findClass NSE = some ce.cls := by
    have h9 := hcc
    rw [hvm] at h9
    exact h9
  have hall : s.sameButNew ({ U with vm := s.vm } : State) locs mc ms := by
    subst hA
    obtain ⟨e1, e2⟩ := hsame
    rw [State.setFrames_setFrames] at e1
    have h2 : (T.setVm s.vm).sameButNew ({ U with vm := s.vm } : State) [] (0 + 1) (0 + 6) := ⟨e1, e2⟩
    have h3 := X.same.trans h2
    rw [List.append_nil] at h3
    exact h3.mono hc hs
  refine ⟨U, ?_, .threw T.heap.size, hrun, hend, Or.inr ⟨T.heap.size, rfl, NSE, ce, locs, hx U hWs.alike f1 (fun q hq => f2 q hq (fun z hz => nomatch hz)), hce, hcv, hcl, hWs, hall, hf⟩⟩
  refine st1 _ ?_
  show Steps p.tables e below (T1.setTop { method := m, pc := pc + 3, locals := ls, stack := .ref T.heap.size :: rest, locked := none }) _
  jvm_step X₁.here [X₁.here.top, hexec, d3', Value.category]
  exact X₁.ldcString hexec (own := own) (text := text) (index := is) (a := sa) hown' hstr'.1 hstr'.2
    (g := { method := m, pc := pc + 4, locals := ls, stack := .ref T.heap.size :: .ref T.heap.size :: rest, locked := none }) rfl d4' _ hsteps
end GTS
def WT (D : va_G) (cA : Nat → ClassId) (B : Nat) (u : St) (U : State) : Prop := Wd D cA (adB B) u U ∧ TX (inB B) U
theorem WT.blind {D : va_G} {cA : Nat → ClassId} {B : Nat} {u : St} {av : List Value} : FrameBlind (va_Pc av (WT D cA B u)) := fun a U g mk h => ⟨h.1, (Wd.blind (av := av) a U g mk ⟨h.1, h.2.1⟩).2, TX.go (U := U.calling g mk a) h.2.2 (State.WarmedH.refl U) (fun _ _ _ => rfl)⟩
def timF (F : Nat) (x y : Int32) (u : St) : Option (Option Int32 × St) := Option.bind (f_X4_isNode F x u) (fun w => if w.1 = 0 then some (none, w.2) else if y < 1 then some (none, w.2) else if y ≤ 200 then Option.bind (f_X8_fillTo F y w.2) (fun u1 => Option.bind (f_X8_doneAt F x y u1) (fun w2 => if w2.1 = -1 then some (none, w2.2) else some (some w2.1, w2.2))) else some (none, w.2))
def rmT : Room := { frames := 10, cells := 1, slots := 6, locals := 600 }
def QTm (D : va_G) (cA : Nat → ClassId) (B : Nat) (o : Option Int32) (u' : St) : Array Value → State → Outcome → State → Prop := fun _ st oc t => (∃ r, o = some r ∧ oc = .returned (some (.int r))) ∧ va_P D classes (wld SH cA (adB B) u') t.heap ∧ va_F (inB B) st t
def XTm (D : va_G) (cA : Nat → ClassId) (B : Nat) (o : Option Int32) (u' : St) : String → State → State → Prop := fun E st t => (o = none ∧ E = NSE) ∧ va_P D classes (wld SH cA (adB B) u') t.heap ∧ va_F (inB B) st t
theorem r2o {α β : Type} {a c : α} {b d : β} (h : some (a, b) = some (c, d)) : c = a ∧ d = b := by cases h; exact ⟨rfl, rfl⟩
section ZT
variable {p : Program} {l : Launch} {e : Env} {s : State} {m : MethodId} {args : Array Value} {below : List Frame} {meth : Method} {c : Code} {D : va_G} {cA : Nat → ClassId} {B : Nat} {u u' : St} {o : Option Int32} {ls : Array Slot} {pc is : Nat} {text : String}
theorem z_thr (C : Cx SH p s m args meth c cX11_time 4 (some .int) RX11 D cA (adB B) (inB B)) (hl : l.stackTraces = false) (hT : TX (inB B) s) (htab : ∀ x ∈ c.exceptionTable.toList, False) (hR : ∃ a, vk_R RX11 is text a s) (ho : o = none) (hu : u' = u) (hsz : ls.size = 4) (d0 : decode cX11_time pc = .ok (.new 213, 3)) (d3 : decode cX11_time (pc + 3) = .ok (.dup, 1)) (d4 : decode cX11_time (pc + 4) = .ok (.ldc is, 2)) (d6 : decode cX11_time (pc + 6) = .ok (.invokespecial 217, 3)) (d9 : decode cX11_time (pc + 9) = .ok (.athrow, 1)) : Z SH p l e rmT s m args below meth c D cA (adB B) (inB B) 0 0 (vx_MQ below (QTm D cA B o u') (XTm D cA B o u') args s 1 6 (inB B)) u pc ls [] := fun H locs hP hS => by
  subst ho
  subst hu
  obtain ⟨sa, hR⟩ := hR
  have hTw := hT.words C.2.2.2.2.2.1
  obtain ⟨-, -, -, t4, t5⟩ := hT
  exact g_throwS (A := inB B) C.1 C.2.1 hl C.2.2.2.2.1 (C.2.2.2.2.2.1 _ cl_nse) rfl (C.2.2.2.2.2.1 _ in_nse) hR hTw at_ot t4 t5 hS (hsz.trans C.2.2.2.1.symm) d0 d3 d4 d6 d9 (fun x hx => (htab x hx).elim) (by decide) (by decide) (by decide) (by decide) C.2.2.2.2.2.2.1 (fun t hvm hz hk => ⟨⟨rfl, rfl⟩, hP.kept (fun k x hx => hk x.1 ((hP k x hx).lt)), Nat.le_trans hS.1 hz, fun q h1 h2 => (hk q (Nat.lt_of_lt_of_le h1 hS.1)).trans (hS.2.1 q h1 h2)⟩) hS.2.2 (by decide) (by decide)
end ZT
set_option maxRecDepth 20000 in
set_option maxHeartbeats 4000000 in
theorem m_X11_time (F : Nat) (x y : Int32) (u : St) (o : Option Int32) (u' : St) (h : timF F x y u = some (o, u')) (l : Launch) (hls : l.stackTraces = false) (D : va_G) (cA : Nat → ClassId) (B : Nat) : vx_Met l yX11_time (.code yX11_time cX11_time 4 (some .int) :: LW) rmT (va_Pc [.ref (adB B 0), .int x, .int y] (WT D cA B u)) (QTm D cA B o u') (XTm D cA B o u') 1 6 (inB B) := by
  refine vx_ofW (cc := cX11_time) (maxL := 4) (ret := some .int) (by decide) rfl ?_
  intro p e s m args below meth c s₁ Bd hml htab hv
  obtain ⟨rfl, ⟨hP, hK, hN⟩, hTX⟩ := hv
  have hts := atoms_spec (ws := (.code yX11_time cX11_time 4 (some .int) :: LW)) Bd.pre
  have hl := lv_entry ([.ref (adB B 0), .int x, .int y]) (n := 4) (Nat.le_of_ble_eq_true rfl)
  rw [lg_entry_eq]
  have C : Cx SH p s m [Value.ref (adB B 0), .int x, .int y].toArray meth c cX11_time 4 (some .int) RX11 D cA (adB B) (inB B) := ⟨Bd.exec, Bd.bytes, Bd.returns, hml, findClass_of_methodNamed Bd.named, fun w hw => hts w (List.mem_cons_of_mem _ hw), Bd.notSynchronized, hK, hN, fun i j _ _ (h : B + i = B + j) => by omega, fun q _ => (show B ≤ B + q from Nat.le_add_right _ _)⟩
  generalize (lg_sl ([Value.ref (adB B 0), .int x, .int y]) ++ List.replicate (4 - (lg_sl ([Value.ref (adB B 0), .int x, .int y])).length) Slot.unset).toArray = ls at hl ⊢
  have hl : lv_has ls 4 [(0, .ref (adB B 0)), (1, .int x), (2, .int y)] := hl
  suffices hZ : Z SH p l e rmT s m [Value.ref (adB B 0), .int x, .int y].toArray below meth c D cA (adB B) (inB B) 0 0 (vx_MQ below (QTm D cA B o u') (XTm D cA B o u') [Value.ref (adB B 0), .int x, .int y].toArray s 1 6 (inB B)) u 0 ls [] from hZ s.heap [] hP va_S.rf
  unfold timF at h
  refine z_aload_n C (i := 0) (k := 0) hl dX11_time_0 rfl rfl ?_
  refine z_getr C 0 7 22 fw_X11_64 sh_0 rfl dX11_time_1 ?_
  refine z_iload_n C (i := 1) (k := 1) hl dX11_time_4 rfl rfl ?_
  obtain ⟨⟨r1, v1⟩, hc1, h⟩ := bnd h
  dsimp only at h
  refine z_callV C (ci := 4) [.int x] [] [.int r1] (m_X4_isNode F _ _ _ _ hc1) cw_X4_isNode vw_X4_isNode ml_X11_210 sh_22 rfl rfl rfl rfl hl.1 (Nat.le_of_ble_eq_true rfl) ⟨Nat.le_of_ble_eq_true rfl, Nat.le_of_ble_eq_true rfl⟩ ⟨Nat.zero_le _, Nat.zero_le _⟩ rfl dX11_time_5 ?_
  refine z_if_eq C 23 dX11_time_8 (by decide) (fun c1 => ?_) (fun c1 => ?_)
  · replace h := (if_pos c1).symm.trans h
    obtain ⟨h1, h2⟩ := r2o h
    exact z_thr C hls hTX htab hTX.2.1 h1 h2 hl.1 dX11_time_23 dX11_time_26 dX11_time_27 dX11_time_29 dX11_time_32
  · replace h := (if_neg c1).symm.trans h
    refine z_iload_n C (i := 2) (k := 2) hl dX11_time_11 rfl rfl ?_
    refine z_iconst C (1 : Int32) dX11_time_12 (by decide) ?_
    refine z_icmp_lt C 23 dX11_time_13 (by decide) (fun c2 => ?_) (fun c2 => ?_)
    · replace h := (if_pos c2).symm.trans h
      obtain ⟨h1, h2⟩ := r2o h
      exact z_thr C hls hTX htab hTX.2.1 h1 h2 hl.1 dX11_time_23 dX11_time_26 dX11_time_27 dX11_time_29 dX11_time_32
    · replace h := (if_neg c2).symm.trans h
      refine z_iload_n C (i := 2) (k := 2) hl dX11_time_16 rfl rfl ?_
      refine z_sipush C (200 : Int32) dX11_time_17 (by decide) ?_
      refine z_icmp_le C 33 dX11_time_20 (by decide) (fun c3 => ?_) (fun c3 => ?_)
      · replace h := (if_pos c3).symm.trans h
        refine z_aload_n C (i := 0) (k := 0) hl dX11_time_33 rfl rfl ?_
        refine z_getr C 0 9 33 fw_X11_80 sh_0 rfl dX11_time_34 ?_
        refine z_iload_n C (i := 2) (k := 2) hl dX11_time_37 rfl rfl ?_
        obtain ⟨v2, hc2, h⟩ := bnd h
        refine z_callV C (ci := 8) [.int y] [] [] (m_X8_fillTo F _ _ _ hc2) cw_X8_fillTo vw_X8_fillTo ml_X11_220 sh_33 rfl rfl rfl rfl hl.1 (Nat.le_of_ble_eq_true rfl) ⟨Nat.le_of_ble_eq_true rfl, Nat.le_of_ble_eq_true rfl⟩ ⟨Nat.zero_le _, Nat.zero_le _⟩ rfl dX11_time_38 ?_
        refine z_aload_n C (i := 0) (k := 0) hl dX11_time_41 rfl rfl ?_
        refine z_getr C 0 9 33 fw_X11_80 sh_0 rfl dX11_time_42 ?_
        refine z_iload_n C (i := 1) (k := 1) hl dX11_time_45 rfl rfl ?_
        refine z_iload_n C (i := 2) (k := 2) hl dX11_time_46 rfl rfl ?_
        obtain ⟨⟨r3, v3⟩, hc3, h⟩ := bnd h
        dsimp only at h
        refine z_callV C (ci := 8) [.int x, .int y] [] [.int r3] (m_X8_doneAt F _ _ _ _ _ hc3) cw_X8_doneAt vw_X8_doneAt ml_X11_223 sh_33 rfl rfl rfl rfl hl.1 (Nat.le_of_ble_eq_true rfl) ⟨Nat.le_of_ble_eq_true rfl, Nat.le_of_ble_eq_true rfl⟩ ⟨Nat.zero_le _, Nat.zero_le _⟩ rfl dX11_time_47 ?_
        refine z_istore_n C (i := 3) [(3, .int r3), (0, .ref (adB B 0)), (1, .int x), (2, .int y)] hl dX11_time_50 rfl (by decide) rfl (fun ls hl => ?_)
        refine z_iload_n C (i := 3) (k := 0) hl dX11_time_51 rfl rfl ?_
        refine z_iconst C (-1 : Int32) dX11_time_52 (by decide) ?_
        refine z_icmp_ne C 66 dX11_time_53 (by decide) (fun c4 => ?_) (fun c4 => ?_)
        · replace h := (if_neg c4).symm.trans h
          obtain ⟨h1, h2⟩ := r2o h
          refine z_iload_n C (i := 3) (k := 0) hl dX11_time_66 rfl rfl ?_
          intro H locs hP hS
          refine W.widen (k := 1) (n := 6) (by decide) (by decide) (vx_ret (W.iret (v := r3) C.1 C.2.1 C.2.2.1 (fun t ht hW => ⟨⟨r3, h1, rfl⟩, ?_, hS.F ht⟩) hS.2.2 dX11_time_67 C.2.2.2.2.2.2.1))
          rw [ht, h2]
          exact hP
        · replace h := (if_pos c4).symm.trans h
          obtain ⟨h1, h2⟩ := r2o h
          exact z_thr C hls hTX htab hTX.2.2.1 h1 h2 hl.1 dX11_time_56 dX11_time_59 dX11_time_60 dX11_time_62 dX11_time_65
      · replace h := (if_neg c3).symm.trans h
        obtain ⟨h1, h2⟩ := r2o h
        exact z_thr C hls hTX htab hTX.2.1 h1 h2 hl.1 dX11_time_23 dX11_time_26 dX11_time_27 dX11_time_29 dX11_time_32
