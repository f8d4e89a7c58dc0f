/-! making the static heap: place p lies at B + p -/
def adB (B : Nat) : Nat → Nat := fun p => B + p
def inB (B : Nat) : Nat → Prop := fun q => B ≤ q
def AOI (U : State) : Prop := (Cond.arrayOver (.array .int)).before #[] U = true
theorem AOI.warm {s U : State} (hW : s.WarmedH U.vm) (h : AOI s) : AOI U := by
  have h1 : (Cond.arrayOver (.array .int)).before #[] (s.setVm U.vm) = true := by rw [Cond.arrayOver_setVmC hW.alike]; exact h
  exact h1
theorem AOI.same {s U : State} (hv : s.vm = U.vm) (h : AOI s) : AOI U := by
  unfold AOI Cond.before Cond.holds at *
  simp only [Cond.value] at *
  rw [← hv]
  exact h
def WG (D : va_G) (cA : Nat → ClassId) (B : Nat) (sh : List Kd) (u : St) (U : State) : Prop := va_P D classes (wld sh cA (adB B) u) U.heap ∧ va_K D classes (tysA cA) U ∧ Nst U ∧ AOI U ∧ U.heap.size = B + sh.length
def QG (D : va_G) (cA : Nat → ClassId) (B : Nat) (sh : List Kd) (u : St) : Array Value → State → Outcome → State → Prop := fun _ st o t => o = .returned none ∧ va_P D classes (wld sh cA (adB B) u) t.heap ∧ va_F (inB B) st t
def rmG (d mc ms : Nat) : Room := { frames := d, cells := mc, slots := ms, locals := 60 * d }
/-- a making method's contract: from the shape sh to the shape sh' -/
def MtG (y : MethodName) (cc : ByteArray) (nL d mc ms : Nat) (ags : Nat → List Value) (sh : List Kd) (u : St) (sh' : List Kd) (u' : St) : Prop :=
  ∀ (l : Launch) (D : va_G) (cA : Nat → ClassId) (B : Nat), Met l y (.code y cc nL none :: LW) (rmG d mc ms) (va_Pc (ags B) (WG D cA B sh u)) (QG D cA B sh' u') mc ms (inB B)
theorem WG.blind {D : va_G} {cA : Nat → ClassId} {B : Nat} {sh : List Kd} {u : St} {av : List Value} : FrameBlind (va_Pc av (WG D cA B sh u)) := fun a U g mk h => ⟨h.1, h.2.1, va_K.moved (Vm.Alike.refl U.vm) h.2.2.1, h.2.2.2.1.same rfl, h.2.2.2.2.1.same rfl, h.2.2.2.2.2⟩
theorem wld_snoc (sh : List Kd) (kd : Kd) (cA : Nat → ClassId) (ad : Nat → Nat) (u : St) : wld (sh ++ [kd]) cA ad u = wld sh cA ad u ++ [(ad sh.length, clo cA ad kd u sh.length)] := by
  unfold wld
  rw [List.mapIdx_append]
  simp
theorem wld_len (sh : List Kd) (cA : Nat → ClassId) (ad : Nat → Nat) (u : St) : (wld sh cA ad u).length = sh.length := by
  unfold wld
  rw [List.length_mapIdx]
theorem wld_setK {sh : List Kd} {cA : Nat → ClassId} {ad : Nat → Nat} {u v : St} {q : Nat} {kd : Kd} (hq : q < sh.length) (h1 : ∀ p, p ≠ q → u.1 p = v.1 p) (h2 : ∀ p, p ≠ q → u.2 p = v.2 p) {e : va_E} (he : e = clo cA ad kd v q) : (wld sh cA ad u).set q (ad q, e) = wld (sh.set q kd) cA ad v := by
  apply List.ext_getElem?
  intro k
  by_cases hk : k = q
  · subst hk
    rw [List.getElem?_set_self (by rw [wld_len]; exact hq), wld_at (List.getElem?_set_self hq), he]
  · rw [List.getElem?_set_ne (Ne.symm hk)]
    cases hs : sh[k]? with
    | none =>
      have h3 : (sh.set q kd)[k]? = none := by rw [List.getElem?_set_ne (Ne.symm hk)]; exact hs
      rw [List.getElem?_eq_none (by rw [wld_len]; exact List.getElem?_eq_none_iff.mp hs), List.getElem?_eq_none (by rw [wld_len]; exact List.getElem?_eq_none_iff.mp h3)]
    | some kd2 =>
      rw [wld_at hs, wld_at (kd := kd2) (by rw [List.getElem?_set_ne (Ne.symm hk)]; exact hs), clo_eq (h1 k hk) (h2 k hk)]
def defc (ty : FieldType) : Nat := match ty with
  | .int => 0
  | .boolean => 0
  | .long => 1
  | .object _ => 2
  | .array _ => 2
  | _ => 99
theorem defc_v {ad : Nat → Nat} {u : St} {p k : Nat} (h1 : u.1 p = fun _ => 0) (h2 : u.2 p = fun _ => 0) {ty : FieldType} (hn : defc ty ≠ 99) : defaultValue ty = fv ad u p k (defc ty) := by
  cases ty <;> first | exact absurd rfl hn | (simp [defc, fv, h1, h2, defaultValue])
theorem born_fs {ad : Nat → Nat} {u : St} {p N : Nat} {ty : Nat → FieldType} (h1 : u.1 p = fun _ => 0) (h2 : u.2 p = fun _ => 0) {fc : List Nat} (hf : fc = (List.range N).map (fun k => defc (ty k))) (hn : (List.range N).all (fun k => decide (defc (ty k) ≠ 99)) = true) : ∀ j, j < N → defaultValue (ty j) = vp_V (fc.mapIdx (fun k c => fv ad u p k c)) j := fun j hj => by
  have hq : defc (ty j) ≠ 99 := by
    have := List.all_eq_true.mp hn j (List.mem_range.mpr hj)
    simpa using this
  unfold vp_V
  rw [List.getD_eq_getElem?_getD, List.getElem?_mapIdx, hf, List.getElem?_map, List.getElem?_range hj]
  exact defc_v h1 h2 hq
section ZG
variable {sh : List Kd} {p : Program} {l : Launch} {e : Env} {R : Room} {s : State} {m : MethodId} {args : Array Value} {below : List Frame} {meth : Method} {c : Code} {cc : ByteArray} {nL : Nat} {ret : Option FieldType} {own : String} {D : va_G} {cA : Nat → ClassId} {B : Nat} {cells slots : Nat} {Q : State → Prop} {u : St} {pc : Nat} {ls : Array Slot} {rest : List Value}
theorem Cx.grow (C : Cx sh p s m args meth c cc nL ret own D cA (adB B) (inB B)) (sh' : List Kd) : Cx sh' p s m args meth c cc nL ret own D cA (adB B) (inB B) := by
  obtain ⟨h1, h2, h3, h4, h5, h6, h7, h8, h9, h10, h11⟩ := C
  exact ⟨h1, h2, h3, h4, h5, h6, h7, h8, h9, fun i j _ _ (h : B + i = B + j) => by omega, fun q _ => (show B ≤ B + q from Nat.le_add_right _ _)⟩
theorem z_sized (hcnt : s.heap.size + cells = B + sh.length) (hne : sh ≠ [] ∨ s.heap.size = B) (k : ∀ (H : Heap) (locs : List Loc), va_P D classes (wld sh cA (adB B) u) H → va_S (inB B) s.heap H locs → H.size = B + sh.length → W p l e R s m args below meth c H locs cells slots Q (F0 m pc ls rest)) : Z sh p l e R s m args below meth c D cA (adB B) (inB B) cells slots Q u pc ls rest := fun H locs hP hS T hT X => by
  have h1 := X.heapSize
  rw [hT] at h1
  have h2 : B + sh.length ≤ H.size := by
    by_cases hs : sh = []
    · subst hs
      rcases hne with q | q
      · exact absurd rfl q
      · have := hS.1
        simp only [List.length_nil] at hcnt ⊢
        omega
    · have hl : 0 < sh.length := by
        cases sh with
        | nil => exact absurd rfl hs
        | cons a b => simp
      have := (hP (sh.length - 1) _ (wld_at (List.getElem?_eq_getElem (by omega)))).lt
      have this : B + (sh.length - 1) < H.size := this
      omega
  exact k H locs hP hS (by omega) T hT X
theorem z_new (C : Cx sh p s m args meth c cc nL ret own D cA (adB B) (inB B)) {index : Nat} (ci : Nat) {CN : String} {TT : u_T} {N : Nat} {fc : List Nat} (sh' : List Kd) (ty : Nat → FieldType) (hc : classes[ci]? = some (CN, TT, N)) (hin : ∀ w ∈ u_ws CN TT N, w ∈ LW) (hty : ∀ k, k < N → parseFieldDescriptor (TT k).2.2.1 = some (ty k)) (w1 : Cond.classLink own index CN ∈ LW) (w2 : Cond.instantiable CN N ∈ LW) (w3 : Cond.initialized CN ∈ LW) (hf : fc = (List.range N).map (fun k => defc (ty k))) (hn : (List.range N).all (fun k => decide (defc (ty k) ≠ 99)) = true) (n : Nat) (hl : sh.length = n) (hu1 : u.1 n = fun _ => 0) (hu2 : u.2 n = fun _ => 0) (hcells : cells + 1 ≤ R.cells) (hslots : slots + N ≤ R.slots) (hcnt : s.heap.size + cells = B + n) (hne : sh ≠ [] ∨ s.heap.size = B) (hsh : sh ++ [(0, ci, fc)] = sh') (hd : decode cc pc = .ok (.new index, 3)) (kk : Z sh' p l e R s m args below meth c D cA (adB B) (inB B) (cells + 1) (slots + N) Q u (pc + 3) ls (.ref (adB B n) :: rest)) : Z sh p l e R s m args below meth c D cA (adB B) (inB B) cells slots Q u pc ls rest := by
  subst hsh
  subst hl
  refine z_sized hcnt hne (fun H locs hP hS hsz => ?_)
  have hK := C.2.2.2.2.2.2.2.1
  have hKn := hK.1 ci _ hc
  refine W.newcK C.1 C.2.1 C.2.2.2.2.1 (C.2.2.2.2.2.1 _ w1) (C.2.2.2.2.2.1 _ w2) (C.2.2.2.2.2.1 _ w3) rfl hd hcells hslots hKn.2.1 hsz fun H1 kC hkC e1 z1 o1 => ?_
  have hk : ∀ (k : Nat) (x : Nat × va_E), (wld sh cA (adB B) u)[k]? = some x → H1[x.1]? = H[x.1]? := fun k x hx => o1 x.1 (by rw [← hsz]; exact (hP k x hx).lt)
  refine kk H1 locs ?_ ⟨Nat.le_trans hS.1 (by omega), fun x h1 h2 => (o1 x (by have := hS.1; omega)).trans (hS.2.1 x h1 h2), hS.2.2⟩
  rw [wld_snoc]
  refine (hP.kept hk).app (fun k x hx => ?_)
  have hz : k < 1 := (List.getElem?_eq_some_iff.mp hx).1
  rw [show k = 0 by omega] at hx
  cases hx
  exact ⟨_, hc, (u_born ty C.2.2.2.2.2.1 hin hKn hkC e1 hty).to (born_fs hu1 hu2 hf hn)⟩
theorem z_newa (C : Cx sh p s m args meth c cc nL ret own D cA (adB B) (inB B)) {atype : ArrayType} (tg : Nat) {ty : FieldType} (hty : newarray.typeOf atype = ty) (hfind : s.vm.findClass ("[" ++ ty.toString) = some (cA tg)) (harr : Cond.arrayClass ty ∈ LW) {x : Int32} {N : Nat} (sh' : List Kd) {a0 : vp_A} (n : Nat) (hl : sh.length = n) (hclo : clo cA (adB B) (tg, N, []) u n = .inl (cA tg, a0)) (ha : ∀ c' : ClassId, vp_cell c' a0 = arrV c' N (fun _ => defaultValue ty)) (hx : ¬ x < 0) (hN : x.toNatClampNeg = N) (hb : N * componentBytes ty ≤ 536870912) (hcells : cells + 1 ≤ R.cells) (hslots : slots + N ≤ R.slots) (hcnt : s.heap.size + cells = B + n) (hne : sh ≠ [] ∨ s.heap.size = B) (hsh : sh ++ [(tg, N, [])] = sh') (hd : decode cc pc = .ok (.newarray atype, 2)) (kk : Z sh' p l e R s m args below meth c D cA (adB B) (inB B) (cells + 1) (slots + N) Q u (pc + 2) ls (.ref (adB B n) :: rest)) : Z sh p l e R s m args below meth c D cA (adB B) (inB B) cells slots Q u pc ls (.int x :: rest) := by
  subst hsh
  subst hl
  subst hty
  refine z_sized hcnt hne (fun H locs hP hS hsz => ?_)
  refine va_newaK C.1 C.2.1 (C.2.2.2.2.2.1 _ harr) rfl hd rfl hx hN hb hcells hslots hsz fun H1 cA' e1 z1 o1 hAr hNm => ?_
  cases Option.some.inj (hfind.symm.trans hNm)
  have hk : ∀ (k : Nat) (x : Nat × va_E), (wld sh cA (adB B) u)[k]? = some x → H1[x.1]? = H[x.1]? := fun k x hx => o1 x.1 (by rw [← hsz]; exact (hP k x hx).lt)
  refine kk H1 locs ?_ ⟨Nat.le_trans hS.1 (by omega), fun x h1 h2 => (o1 x (by have := hS.1; omega)).trans (hS.2.1 x h1 h2), hS.2.2⟩
  rw [wld_snoc]
  refine (hP.kept hk).app (fun k x hx => ?_)
  have hz : k < 1 := (List.getElem?_eq_some_iff.mp hx).1
  rw [show k = 0 by omega] at hx
  cases hx
  rw [hclo]
  show H1[B + sh.length]? = some (vp_cell (cA tg) a0)
  rw [ha]
  exact e1
theorem z_obj (C : Cx sh p s m args meth c cc nL ret own D cA (adB B) (inB B)) {idx a : Nat} (w1 : Cond.methodLink own idx Lib.objectInit ∈ LW) (w2 : Cond.instanceMethod Lib.objectInit ∈ LW) (w3 : Cond.code Lib.objectInit ⟨#[0xb1]⟩ 1 none ∈ LW) (hsz : ls.size = nL) (hR : 1 ≤ R.frames ∧ (rest.map fun v => v.category).sum + 12 ≤ R.locals) (hd : decode cc pc = .ok (.invokespecial idx, 3)) (kk : Z sh p l e R s m args below meth c D cA (adB B) (inB B) cells slots Q u (pc + 3) ls rest) : Z sh p l e R s m args below meth c D cA (adB B) (inB B) cells slots Q u pc ls (.ref a :: rest) := fun H locs hP hS => W.objInit C.1 C.2.1 C.2.2.2.2.1 (C.2.2.2.2.2.1 _ w1) (C.2.2.2.2.2.1 _ w2) (C.2.2.2.2.2.1 _ w3) (g := F0 m pc ls (.ref a :: rest)) rfl (hsz.trans C.2.2.2.1.symm) rfl hd hR.1 (by show 2 * 0 + _ + 12 ≤ _; omega) (kk H locs hP hS)
/-- a final field of references: the words -/
def Pf (own : String) (index ci k : Nat) : Prop := ∃ (CN : String) (T : u_T) (N : Nat) (ty0 : Nat → FieldType), classes[ci]? = some (CN, T, N) ∧ k < N ∧ (∀ w ∈ u_ws CN T N, w ∈ LW) ∧ Cond.fieldLink own index (T k).1 (T k).2.1 (T k).2.2.1 ∈ LW ∧ (∀ k, k < N → parseFieldDescriptor (T k).2.2.1 = some (ty0 k)) ∧ (∀ a, a < N → ∀ b, b < N → a ≠ b → (T a).2.1 ≠ (T b).2.1) ∧ (T k).2.2.2 = true ∧ (T k).1 = own ∧ ∀ a : Nat, narrow (ty0 k) (.ref a) = .ref a ∧ fits (ty0 k) (.ref a) = true
theorem fc_set {ad : Nat → Nat} {u v : St} {q k j : Nat} {w : Value} {fc : List Nat} (hw : w = fv ad v q k j) (ho : ∀ i c, i ≠ k → fv ad u q i c = fv ad v q i c) : (fc.mapIdx (fun k c => fv ad u q k c)).set k w = (fc.set k j).mapIdx (fun k c => fv ad v q k c) := by
  apply List.ext_getElem?
  intro i
  by_cases hi : i = k
  · subst hi
    by_cases hl : i < fc.length
    · rw [List.getElem?_set_self (by rw [List.length_mapIdx]; exact hl), List.getElem?_mapIdx, List.getElem?_set_self hl, hw]; rfl
    · rw [List.getElem?_eq_none (by rw [List.length_set, List.length_mapIdx]; omega), List.getElem?_eq_none (by rw [List.length_mapIdx, List.length_set]; omega)]
  · rw [List.getElem?_set_ne (Ne.symm hi), List.getElem?_mapIdx, List.getElem?_mapIdx, List.getElem?_set_ne (Ne.symm hi)]
    cases fc[i]? with
    | none => rfl
    | some c => simp [ho i c hi]
theorem z_putF (C : Cx sh p s m args meth c cc nL ret own D cA (adB B) (inB B)) (hin2 : meth.name = "<init>") {index ci : Nat} (q k j : Nat) {fc : List Nat} (hF : Pf own index ci k) (hs : sh[q]? = some (0, ci, fc)) (hk : k < fc.length) (sh' : List Kd) (hsh : sh.set q (0, ci, fc.set k (j + 4)) = sh') (hd : decode cc pc = .ok (.putfield index, 3)) (kk : Z sh' p l e R s m args below meth c D cA (adB B) (inB B) cells slots Q u (pc + 3) ls rest) : Z sh p l e R s m args below meth c D cA (adB B) (inB B) cells slots Q u pc ls (.ref (adB B j) :: .ref (adB B q) :: rest) := fun H locs hP hS => by
  subst hsh
  obtain ⟨CN, T, N, ty0, g1, g2, g3, g4, g5, g6, g7, g8, g9⟩ := hF
  refine va_putF (D := D) (ci := ci) (v := .ref (adB B j)) (ty := ty0 k) (C := CN) (T := T) (N := N) C.1 C.2.1 C.2.2.2.2.2.1 g3 ty0 g5 g6 C.2.2.2.2.1 C.2.2.2.2.2.2.2.1 hP (wld_D C.2.2.2.2.2.2.2.2.2.1 C.2.2.2.2.2.2.2.2.2.2 u) hS q (wld_at hs) g1 k g2 (C.2.2.2.2.2.1 _ g4) (fun _ h9 => h9) g7 hin2 g8 (g5 k g2) (g9 _).1 (g9 _).2 ?_ hd (fun H1 locs1 hP1 hD1 hS1 => ?_)
  · show k < (fc.mapIdx (fun k c => fv (adB B) u q k c)).length
    rw [List.length_mapIdx]; exact hk
  · refine kk H1 locs1 ?_ hS1
    have hq : q < sh.length := (List.getElem?_eq_some_iff.mp hs).1
    have := hP1
    rw [fc_set (j := j + 4) (v := u) (show Value.ref (adB B j) = fv (adB B) u q k (j + 4) from rfl) (fun _ _ _ => rfl)] at this
    rw [← wld_setK (kd := (0, ci, fc.set k (j + 4))) (u := u) (v := u) hq (fun _ _ => rfl) (fun _ _ => rfl) rfl]
    exact this
/-- a reference field that may change: its place goes into the state -/
theorem z_putD (C : Cx sh p s m args meth c cc nL ret own D cA (adB B) (inB B)) {index ci : Nat} (q k j : Nat) (hj : j < 2 ^ 31) {cn : String} {fc : List Nat} (hF : Pw own index ci k (.object cn)) (hs : sh[q]? = some (0, ci, fc)) (hk : k < fc.length) (sh' : List Kd) (hsh : sh.set q (0, ci, fc.set k 3) = sh') (hd : decode cc pc = .ok (.putfield index, 3)) (kk : Z sh' p l e R s m args below meth c D cA (adB B) (inB B) cells slots Q (wr u q k (nI j)) (pc + 3) ls rest) : Z sh p l e R s m args below meth c D cA (adB B) (inB B) cells slots Q u pc ls (.ref (adB B j) :: .ref (adB B q) :: rest) := fun H locs hP hS => by
  subst hsh
  obtain ⟨CN, T, N, ty0, g1, g2, g3, g4, g5, g6, g7, g8⟩ := hF
  refine va_put (D := D) (ci := ci) (v := .ref (adB B j)) (ty := .object cn) (C := CN) (T := T) (N := N) C.1 C.2.1 C.2.2.2.2.2.1 g3 ty0 g5 g6 C.2.2.2.2.1 C.2.2.2.2.2.2.2.1 hP (wld_D C.2.2.2.2.2.2.2.2.2.1 C.2.2.2.2.2.2.2.2.2.2 u) hS q (wld_at hs) g1 k g2 (C.2.2.2.2.2.1 _ g4) (fun _ h9 => h9) g7 (by rw [g5 k g2, g8]) rfl rfl ?_ hd (fun H1 locs1 hP1 hD1 hS1 => ?_)
  · show k < (fc.mapIdx (fun k c => fv (adB B) u q k c)).length
    rw [List.length_mapIdx]; exact hk
  · refine kk H1 locs1 ?_ hS1
    have hq : q < sh.length := (List.getElem?_eq_some_iff.mp hs).1
    have := hP1
    rw [fc_set (j := 3) (v := wr u q k (nI j)) (show Value.ref (adB B j) = fv (adB B) (wr u q k (nI j)) q k 3 by simp [fv, wr, nI_clamp hj]) (fun i c hi => by unfold fv; split <;> simp [wr, hi])] at this
    rw [← wld_setK (kd := (0, ci, fc.set k 3)) (u := u) (v := wr u q k (nI j)) hq (wr_o u q k (nI j)) (fun _ _ => rfl) rfl]
    exact this
theorem zg_ret {mc ms : Nat} {sh' : List Kd} {u' : St} {g : JFrame} {H : Heap} {locs : List Loc} {aa : Array Value} (hg : g = F0 m pc ls (g.stack)) (hr : va_Run p l e R s m args below meth c H locs cells slots mc ms g rest (QG D cA B sh' u' aa) (inB B)) (hS : va_S (inB B) s.heap H locs) (kk : Z sh' p l e R s m args below meth c D cA (adB B) (inB B) (cells + mc) (slots + ms) Q u' (pc + 3) ls rest) : W p l e R s m args below meth c H locs cells slots Q g := by
  intro T hT X
  obtain ⟨v, st₀, t, T', L, h0, X', hL, e1, e2, ⟨hv, hp, hz, hk⟩, st⟩ := hr T hT X
  cases hv
  rw [h0] at hz hk
  obtain ⟨t2, a1, b1⟩ := kk T'.heap (locs ++ L) (by rw [e1]; exact hp) ⟨Nat.le_trans hS.1 (by rw [e1]; exact hz), fun q h1 h2 => by rw [e1, hk q (Nat.lt_of_lt_of_le h1 hS.1) h2]; exact hS.2.1 q h1 h2, fun q hq => by
      rcases List.mem_append.mp hq with h | h
      · exact hS.2.2 q h
      · exact hL q h⟩ T' rfl X'
  refine ⟨t2, st t2 ?_, b1⟩
  rw [hg]
  exact a1
theorem Cx.preG (C : Cx sh p s m args meth c cc nL ret own D cA (adB B) (inB B)) (hAO : AOI s) {H : Heap} {av : List Value} (hP : va_P D classes (wld sh cA (adB B) u) H) (hsz : H.size = B + sh.length) : FrameBlind (va_Pc av (WG D cA B sh u)) ∧ ∀ U : State, U.heap = H → s.WarmedH U.vm → va_Pc av (WG D cA B sh u) av.toArray U := ⟨WG.blind, fun U hU hW => ⟨rfl, by rw [hU]; exact hP, va_K.moved hW.alike C.2.2.2.2.2.2.2.1, C.2.2.2.2.2.2.2.2.1.warm hW, hAO.warm hW, by rw [hU]; exact hsz⟩⟩
theorem z_callI (C : Cx sh p s m args meth c cc nL ret own D cA (adB B) (inB B)) (hAO : AOI s) {y : MethodName} {cc2 : ByteArray} {nL2 n index d mc ms q : Nat} {ags : Nat → List Value} {sh' : List Kd} {u' : St} {st : List Value} (As rest : List Value) (M : MtG y cc2 nL2 d mc ms ags sh u sh' u') (w1 : Cw y cc2 nL2 none n) (w2 : Cond.instanceMethod y ∈ LW) (hy : y.name = "<init>") (w3 : Cond.methodLink own index y ∈ LW) (ha : ags B = .ref (adB B q) :: As) (hn : As.length = n) (hst : st = As.reverse ++ .ref (adB B q) :: rest) (hsz : ls.size = nL) (hW : (rest.map fun v => v.category).sum ≤ 8) (hR : d + 1 ≤ R.frames ∧ 8 + (nL2 + 11) + 60 * d ≤ R.locals) (hcs : cells + mc ≤ R.cells ∧ slots + ms ≤ R.slots) (hz : Nat) (hzl : sh.length = hz) (hcnt : s.heap.size + cells = B + hz) (hne : sh ≠ [] ∨ s.heap.size = B) (hd : decode cc pc = .ok (.invokespecial index, 3)) (kk : Z sh' p l e R s m args below meth c D cA (adB B) (inB B) (cells + mc) (slots + ms) Q u' (pc + 3) ls rest) : Z sh p l e R s m args below meth c D cA (adB B) (inB B) cells slots Q u pc ls st := by
  subst hzl
  refine z_sized hcnt hne (fun H locs hP hS hsize => ?_)
  have hG : GoodIn LW (.code y cc2 nL2 none :: LW) := goodLW [] (by intro w hw; cases hw) w1.2.1
  have hpre := C.preG hAO (av := ags B) hP hsize
  have hP2 := hpre.2
  rw [ha] at hP2
  refine zg_ret (pc := pc) (ls := ls) (rest := rest) ?_ (va_runI (g := F0 m pc ls st) (As := As) (rest := rest) (b := adB B q) ⟨C.1, C.2.1, C.2.2.2.1, C.2.2.2.2.1, C.2.2.2.2.2.1⟩ (M l D cA B) (cwI n C.2.2.2.2.2.1 hG rfl rfl rfl (C.2.2.2.2.2.1 _ w1.1) (C.2.2.2.2.2.1 _ w3) (C.2.2.2.2.2.1 _ w2) hy w1.2.2 hR) ⟨hpre.1, by rw [ha]; exact hP2⟩ rfl hn hsz hst (lv_room hW) hd hcs) hS kk
  rfl
theorem z_callIN (C : Cx sh p s m args meth c cc nL ret own D cA (adB B) (inB B)) (hAO : AOI s) {y : MethodName} {host : String} {cc2 : ByteArray} {nL2 n index d mc ms q : Nat} {ags : Nat → List Value} {sh' : List Kd} {u' : St} {st : List Value} (As rest : List Value) (M : MtG y cc2 nL2 d mc ms ags sh u sh' u') (w1 : Cw y cc2 nL2 none n) (w2 : Cond.instanceMethod y ∈ LW) (hy : y.name = "<init>") (w3 : (own, index, y, host) ∈ NWL) (ha : ags B = .ref (adB B q) :: As) (hn : As.length = n) (hst : st = As.reverse ++ .ref (adB B q) :: rest) (hsz : ls.size = nL) (hW : (rest.map fun v => v.category).sum ≤ 8) (hR : d + 1 ≤ R.frames ∧ 8 + (nL2 + 11) + 60 * d ≤ R.locals) (hcs : cells + mc ≤ R.cells ∧ slots + ms ≤ R.slots) (hz : Nat) (hzl : sh.length = hz) (hcnt : s.heap.size + cells = B + hz) (hne : sh ≠ [] ∨ s.heap.size = B) (hd : decode cc pc = .ok (.invokespecial index, 3)) (kk : Z sh' p l e R s m args below meth c D cA (adB B) (inB B) (cells + mc) (slots + ms) Q u' (pc + 3) ls rest) : Z sh p l e R s m args below meth c D cA (adB B) (inB B) cells slots Q u pc ls st := by
  subst hzl
  refine z_sized hcnt hne (fun H locs hP hS hsize => ?_)
  have hG : GoodIn LW (.code y cc2 nL2 none :: LW) := goodLW [] (by intro w hw; cases hw) w1.2.1
  have hpre := C.preG hAO (av := ags B) hP hsize
  have hP2 := hpre.2
  rw [ha] at hP2
  refine zg_ret (pc := pc) (ls := ls) (rest := rest) ?_ (va_runIN (g := F0 m pc ls st) (As := As) (rest := rest) (b := adB B q) ⟨C.1, C.2.1, C.2.2.2.1, C.2.2.2.2.1, C.2.2.2.2.2.1⟩ (M l D cA B) ⟨va_cnB n C.2.2.2.2.2.1 hG rfl rfl rfl (C.2.2.2.2.2.2.2.2.1 _ w3) (C.2.2.2.2.2.1 _ w1.1) w1.2.2 hR, hy, C.2.2.2.2.2.1 _ w2⟩ ⟨hpre.1, by rw [ha]; exact hP2⟩ rfl hn hsz hst (lv_room hW) hd hcs) hS kk
  rfl
theorem z_callSG (C : Cx sh p s m args meth c cc nL ret own D cA (adB B) (inB B)) (hAO : AOI s) {y : MethodName} {cc2 : ByteArray} {nL2 n index d mc ms : Nat} {ags : Nat → List Value} {sh' : List Kd} {u' : St} {st : List Value} (As rest : List Value) (M : MtG y cc2 nL2 d mc ms ags sh u sh' u') (w1 : Cw y cc2 nL2 none n) (w2 : Cond.static y ∈ LW) (w3 : Cond.methodLink own index y ∈ LW) (ha : ags B = As) (hn : As.length = n) (hst : st = As.reverse ++ rest) (hsz : ls.size = nL) (hW : (rest.map fun v => v.category).sum ≤ 8) (hR : d + 1 ≤ R.frames ∧ 8 + (nL2 + 11) + 60 * d ≤ R.locals) (hcs : cells + mc ≤ R.cells ∧ slots + ms ≤ R.slots) (hz : Nat) (hzl : sh.length = hz) (hcnt : s.heap.size + cells = B + hz) (hne : sh ≠ [] ∨ s.heap.size = B) (hd : decode cc pc = .ok (.invokestatic index, 3)) (kk : Z sh' p l e R s m args below meth c D cA (adB B) (inB B) (cells + mc) (slots + ms) Q u' (pc + 3) ls rest) : Z sh p l e R s m args below meth c D cA (adB B) (inB B) cells slots Q u pc ls st := by
  subst hzl
  refine z_sized hcnt hne (fun H locs hP hS hsize => ?_)
  have hG : GoodIn LW (va_wsS own index y (.code y cc2 nL2 none :: LW)) := goodLW _ (by
    intro w hw
    simp only [List.mem_cons, List.not_mem_nil, or_false] at hw
    rcases hw with rfl | rfl | rfl
    · exact w3
    · exact w2
    · exact w1.1) w1.2.1
  have hpre := C.preG hAO (av := ags B) hP hsize
  have hP2 := hpre.2
  rw [ha] at hP2
  refine zg_ret (pc := pc) (ls := ls) (rest := rest) ?_ (va_runS (g := F0 m pc ls st) (As := As) (rest := rest) ⟨C.1, C.2.1, C.2.2.2.1, C.2.2.2.2.1, C.2.2.2.2.2.1⟩ (M l D cA B) (va_cwS n C.2.2.2.2.2.1 hG rfl rfl rfl w1.2.2 hR) ⟨hpre.1, by rw [ha]; exact hP2⟩ rfl hn hsz hst (lv_room hW) hd hcs) hS kk
  rfl
theorem z_vretG (C : Cx sh p s m args meth c cc nL none own D cA (adB B) (inB B)) {mc ms : Nat} (hc : cells = mc) (hs : slots = ms) (hd : decode cc pc = .ok (.return_, 1)) : Z sh p l e R s m args below meth c D cA (adB B) (inB B) cells slots (MQ below (QG D cA B sh u) args s mc ms (inB B)) u pc ls [] := fun H locs hP hS => by
  subst hc
  subst hs
  exact W.vret C.1 C.2.1 C.2.2.1 (fun t ht hW => ⟨rfl, by rw [ht]; exact hP, hS.F ht⟩) hS.2.2 hd C.2.2.2.2.2.2.1
end ZG
theorem MtG.of {y : MethodName} {cc : ByteArray} {nL d mc ms : Nat} {ags : Nat → List Value} {sh sh' : List Kd} {u u' : St} (hy : plainName y.cls = true) (hln : ∀ B, (lg_sl (ags B)).length ≤ nL)
    (body : ∀ (p : Program) (l : Launch) (e : Env) (s : State) (m : MethodId) (args : Array Value) (below : List Frame) (meth : Method) (c : Code) (D : va_G) (cA : Nat → ClassId) (B : Nat) (ls : Array Slot), Cx sh p s m args meth c cc nL none y.cls D cA (adB B) (inB B) → AOI s → meth.name = y.name → s.heap.size = B + sh.length → lv_has ls nL (lv_args 0 (ags B)) → Z sh p l e (rmG d mc ms) s m args below meth c D cA (adB B) (inB B) 0 0 (MQ below (QG D cA B sh' u') args s mc ms (inB B)) u 0 ls []) : MtG y cc nL d mc ms ags sh u sh' u' := by
  intro l D cA B
  refine Met.ofW (cc := cc) (maxL := nL) (ret := none) hy rfl ?_
  intro p e s m args below meth c s₁ Bd hml hv
  obtain ⟨rfl, hP, hK, hN, hAO, hsz⟩ := hv
  have hts := atoms_spec (ws := (.code y cc nL none :: LW)) Bd.pre
  have hl := lv_entry (ags B) (n := nL) (hln B)
  rw [lg_entry_eq]
  exact body p l e s m _ below meth c D cA B _ ⟨Bd.exec, Bd.bytes, Bd.returns, hml, findClass_of_methodNamed Bd.named, fun w hw => hts w (List.mem_cons_of_mem _ hw), Bd.notSynchronized, hK, hN, fun i j _ _ (h : B + i = B + j) => by omega, fun q _ => (show B ≤ B + q from Nat.le_add_right _ _)⟩ hAO (name_of_methodNamed Bd.named Bd.method).1 hsz hl s.heap [] hP va_S.rf
