/-! live signals: the model's side -/
theorem l_ml20 (F : Nat) (x1 : Int32) {L : WL} (hG : GL L) : ∀ (d i k : Nat) (u : St), i + d = L.length → d < k → WM L u → (∀ j e, j < i → L[j]? = some e → u.1 64 e.1 = 0) → ∃ u', l_X12_live_20 F x1 k (nI i) u = some (nI L.length, u') ∧ (∀ e, e ∈ L → u'.1 64 e.1 = 0) ∧ Fr [64] u u'
  | d, i, 0, _, _, hk, _, _ => absurd hk (by omega)
  | d, i, k + 1, u, hd, hk, hW, hp => by
    have hl := hG.len
    show ∃ u', b_X12_live_20 F x1 (l_X12_live_20 F x1 k) _ u = _ ∧ _
    unfold b_X12_live_20
    rw [hW.1]
    by_cases h0 : d = 0
    · have : i = L.length := by omega
      subst this
      rw [if_pos (nI_le (Nat.le_refl _) (by omega))]
      refine ⟨u, rfl, fun e he => ?_, Fr.rf _ _⟩
      obtain ⟨j, hj⟩ := List.getElem?_of_mem he
      exact hp j e (List.getElem?_eq_some_iff.mp hj).1 hj
    · obtain ⟨e, he⟩ : ∃ e, L[i]? = some e := ⟨_, List.getElem?_eq_getElem (show i < L.length by omega)⟩
      have hes := (hG.2 e (List.mem_of_getElem? he)).1
      rw [if_neg (nI_ge (by omega) (by omega)), nI_clamp (by omega), if_neg (gin (show i < 4096 by omega) (by decide)), (hW.2.1 i e.1 e.2 he).1, nI_clamp (by omega), if_neg (gin hes (by decide)), nI_1, nar0]
      have fw : Fr [64] u (wr u 64 e.1 0) := (Fr.rf _ u).w (by decide)
      obtain ⟨u', g1, g2, g3⟩ := l_ml20 F x1 hG (d - 1) (i + 1) k (wr u 64 e.1 0) (by omega) (by omega) (hW.congr (by rw [fw.2 50 (by decide)]) (fw.2 60 (by decide)) (fw.2 61 (by decide)) (fw.2 62 (by decide)) (fw.2 63 (by decide))) (fun j e2 hj he2 => by
        by_cases h : e2.1 = e.1
        · rw [h, wr_eq]
        · rw [wr_nek _ h]
          by_cases hji : j = i
          · subst hji
            rw [he] at he2
            cases he2
            exact absurd rfl h
          · exact hp j e2 (by omega) he2)
      exact ⟨u', g1, g2, fw.tr g3⟩
def anyY (m : Nat → Bool) (b0 : Bool) : Nat → Bool
  | 0 => b0
  | n + 1 => anyY m b0 n || m n
theorem anyY_t {m : Nat → Bool} {b0 : Bool} : ∀ {n : Nat}, anyY m b0 n = true → b0 = true ∨ ∃ y, y < n ∧ m y = true
  | 0, h => Or.inl h
  | n + 1, h => by
    have h : (anyY m b0 n || m n) = true := h
    rcases Bool.or_eq_true_iff.mp h with q | q
    · rcases anyY_t q with q | ⟨y, h1, h2⟩
      · exact Or.inl q
      · exact Or.inr ⟨y, by omega, h2⟩
    · exact Or.inr ⟨n, by omega, q⟩
theorem anyY_f {m : Nat → Bool} {b0 : Bool} : ∀ {n : Nat}, anyY m b0 n = false → b0 = false ∧ ∀ y, y < n → m y = false
  | 0, h => ⟨h, fun y hy => by omega⟩
  | n + 1, h => by
    have h : (anyY m b0 n || m n) = false := h
    have h2 := Bool.or_eq_false_iff.mp h
    obtain ⟨g1, g2⟩ := anyY_f h2.1
    exact ⟨g1, fun y hy => by
      by_cases e : y = n
      · rw [e]; exact h2.2
      · exact g2 y (by omega)⟩
theorem l_ml114 (F : Nat) (x1 x2 x3 : Int32) {s : Nat} (hs : s < 4096) (v : Int32) (b0 : Bool) {u : St} (h01 : ∀ y, y < 12 → bt v y = true → u.1 64 (s ^^^ 2 ^ y) = 0 ∨ u.1 64 (s ^^^ 2 ^ y) = 1) : ∀ (d y k : Nat), y + d = 12 → d < k → l_X12_live_114 F x1 x2 x3 (nI s) v k (b2i (anyY (fun y => bt v y && !decide (u.1 64 (s ^^^ 2 ^ y) = 0)) b0 y)) (nI y) u = some (b2i (anyY (fun y => bt v y && !decide (u.1 64 (s ^^^ 2 ^ y) = 0)) b0 12), nI 12, u)
  | d, y, 0, _, hk => absurd hk (by omega)
  | d, y, k + 1, hd, hk => by
    show b_X12_live_114 F x1 x2 x3 (nI s) v (l_X12_live_114 F x1 x2 x3 (nI s) v k) _ _ u = _
    unfold b_X12_live_114
    rw [show (12 : Int32) = nI 12 from rfl]
    by_cases h0 : d = 0
    · rw [if_pos (nI_le (by omega) (by omega)), show y = 12 by omega]
    · have hy : y < 12 := by omega
      have hx := x2_lt hs hy
      rw [if_neg (nI_ge hy (by decide)), xor_nI hs hy, nI_clamp (by omega), nI_1]
      have ih := l_ml114 F x1 x2 x3 hs v b0 h01 (d - 1) (y + 1) k (by omega) (by omega)
      have step : anyY (fun y => bt v y && !decide (u.1 64 (s ^^^ 2 ^ y) = 0)) b0 (y + 1) = (anyY (fun y => bt v y && !decide (u.1 64 (s ^^^ 2 ^ y) = 0)) b0 y || (bt v y && !decide (u.1 64 (s ^^^ 2 ^ y) = 0))) := rfl
      rw [step] at ih
      cases hv : anyY (fun y => bt v y && !decide (u.1 64 (s ^^^ 2 ^ y) = 0)) b0 y with
      | true =>
        rw [hv] at ih
        rw [if_neg (by simp [b2i])]
        simpa [b2i] using ih
      | false =>
        rw [hv, Bool.false_or] at ih
        rw [if_pos (by simp [b2i])]
        cases hb : bt v y with
        | false =>
          rw [hb] at ih
          rw [if_neg (fun q => by rw [(bt_t1 v (by omega)).mp q] at hb; cases hb)]
          simpa [b2i] using ih
        | true =>
          rw [hb, Bool.true_and] at ih
          rw [if_pos ((bt_t1 v (by omega)).mpr hb), if_neg (gin hx (by decide))]
          by_cases hz : u.1 64 (s ^^^ 2 ^ y) = 0
          · rw [if_pos hz]
            simpa [b2i, hz] using ih
          · rw [if_neg hz]
            simpa [b2i, hz] using ih
/-- how many states don't lead there yet -/
def nld (L : WL) (u : St) : Nat := (L.filter (fun e => decide (u.1 64 e.1 = 0))).length
theorem filt_lt {α : Type} {P Q : α → Bool} : ∀ (L : List α), (∀ e ∈ L, P e = true → Q e = true) → (∃ e ∈ L, Q e = true ∧ P e = false) → (L.filter P).length < (L.filter Q).length
  | [], _, ⟨e, he, _⟩ => by simp at he
  | a :: L, h, ⟨e, he, h1, h2⟩ => by
    have hle : ∀ (L : List α), (∀ e ∈ L, P e = true → Q e = true) → (L.filter P).length ≤ (L.filter Q).length := by
      intro L
      induction L with
      | nil => intro _; exact Nat.le_refl _
      | cons b L ih =>
        intro h
        have := ih (fun e he => h e (List.mem_cons_of_mem _ he))
        have hb := h b List.mem_cons_self
        rw [List.filter_cons, List.filter_cons]
        cases hp : P b with
        | false => cases hq : Q b with
          | false => simpa using this
          | true => simp; omega
        | true =>
          rw [hb hp]
          simp
          exact this
    have hb := h a List.mem_cons_self
    rw [List.filter_cons, List.filter_cons]
    rcases List.mem_cons.mp he with q | q
    · subst q
      rw [h1, h2]
      have := hle L (fun e he => h e (List.mem_cons_of_mem _ he))
      simp
      omega
    · have := filt_lt L (fun e he => h e (List.mem_cons_of_mem _ he)) ⟨e, q, h1, h2⟩
      cases hp : P a with
      | false => cases hq : Q a with
        | false => simpa using this
        | true => simp; omega
      | true =>
        rw [hb hp]
        simp
        exact this
/-- what a round of the model's search keeps -/
def LdR (a : Nat → Int32) (L : WL) (x : Nat) (u : St) : Prop := ∀ e ∈ L, (u.1 64 e.1 = 0 ∨ u.1 64 e.1 = 1) ∧ (u.1 64 e.1 = 1 → Lds a x e.1)
theorem l_ml61 (F : Nat) (hF : 5000 ≤ F) {a : Nat → Int32} {L : WL} (hG : GL L) (hcl : ∀ s y, s ∈ L.map Prod.fst → y < 12 → bt (a s) y = true → s ^^^ 2 ^ y ∈ L.map Prod.fst) {x : Nat} (hx : x < 12) : ∀ (i k : Nat) (u : St) (b : Bool), i ≤ L.length → i < k → WfM u → aF u = a → WM L u → LdR a L x u → ∃ b' z u', l_X12_live_61 F (nI x) k (b2i b) (nI i - 1) u = some (b2i b', z, u') ∧ Fr [64] u u' ∧ LdR a L x u' ∧ nld L u' ≤ nld L u ∧ (b' = true → b = true ∨ nld L u' < nld L u) ∧ (b' = false → b = false ∧ u' = u ∧ ∀ j e, j < i → L[j]? = some e → u.1 64 e.1 = 0 → bt (a e.1) x = false ∧ ∀ y, y < 12 → bt (a e.1) y = true → u.1 64 (e.1 ^^^ 2 ^ y) = 0)
  | i, 0, _, _, _, hk, _, _, _, _ => absurd hk (by omega)
  | 0, k + 1, u, b, _, _, _, _, _, hR => by
    show ∃ b' z u', b_X12_live_61 F (nI x) (l_X12_live_61 F (nI x) k) _ _ u = _ ∧ _
    unfold b_X12_live_61
    rw [if_pos (by decide)]
    exact ⟨b, _, u, rfl, Fr.rf _ _, hR, Nat.le_refl _, fun h => Or.inl h, fun h => ⟨h, rfl, fun j e hj => by omega⟩⟩
  | i + 1, k + 1, u, b, hi, hk, hw, ha, hW, hR => by
    have hl := hG.len
    obtain ⟨e, he⟩ : ∃ e, L[i]? = some e := ⟨_, List.getElem?_eq_getElem (show i < L.length by omega)⟩
    have hem := List.mem_of_getElem? he
    have hes := (hG.2 e hem).1
    have hme : e.1 ∈ L.map Prod.fst := List.mem_map.mpr ⟨e, hem, rfl⟩
    show ∃ b' z u', b_X12_live_61 F (nI x) (l_X12_live_61 F (nI x) k) _ _ u = _ ∧ _
    unfold b_X12_live_61
    rw [nI_pred, if_neg (nI_pos (by omega)), nI_clamp (by omega), if_neg (gin (show i < 4096 by omega) (by decide)), (hW.2.1 i e.1 e.2 he).1, nI_clamp (by omega), if_neg (gin hes (by decide))]
    have hm1 : nI i + (-1 : Int32) = nI i - 1 := by
      cases i with
      | zero => decide
      | succ j => rw [pk_m1, nI_pred]
    rw [hm1]
    by_cases hz : u.1 64 e.1 = 0
    · rw [if_pos hz, p_M_asked F (by omega) _ _ hw]
      simp only [Option.bind_some]
      rw [show asM u (nI e.1) = a e.1 by rw [← ha]; rfl]
      have h01 : ∀ y, y < 12 → bt (a e.1) y = true → u.1 64 (e.1 ^^^ 2 ^ y) = 0 ∨ u.1 64 (e.1 ^^^ 2 ^ y) = 1 := fun y hy hb => by
        obtain ⟨e2, he2, h2⟩ := List.mem_map.mp (hcl e.1 y hme hy hb)
        rw [← h2]
        exact (hR e2 he2).1
      -- both beginnings of the inner loop are one
      have both : ∀ (G : Bool → Option (Int32 × Int32 × St)), (∀ c : Bool, (Option.bind (l_X12_live_114 F (nI x) (b2i b) (nI i) (nI e.1) (a e.1) F (b2i c) (0 : Int32) u) (fun w28 => (if nI e.1 < 0 ∨ 4096 ≤ e.1 then none else (if b2i b = 0 then (if w28.1 = 0 then l_X12_live_61 F (nI x) k ((0 : Int32)) (nI i - 1) (wr w28.2.2 64 e.1 (vp_nar .boolean w28.1)) else l_X12_live_61 F (nI x) k ((1 : Int32)) (nI i - 1) (wr w28.2.2 64 e.1 (vp_nar .boolean w28.1))) else l_X12_live_61 F (nI x) k ((1 : Int32)) (nI i - 1) (wr w28.2.2 64 e.1 (vp_nar .boolean w28.1)))))) = G c) → (if ((a e.1 >>> (nI x &&& 31)) &&& (1 : Int32)) = (1 : Int32) then G true else G false) = G (bt (a e.1) x) := by
        intro G _
        cases hb : bt (a e.1) x with
        | true => rw [if_pos ((bt_t1 _ (by omega)).mpr hb)]
        | false => rw [if_neg (fun q => by rw [(bt_t1 _ (by omega)).mp q] at hb; cases hb)]
      have hin : ∀ c : Bool, l_X12_live_114 F (nI x) (b2i b) (nI i) (nI e.1) (a e.1) F (b2i c) (0 : Int32) u = some (b2i (anyY (fun y => bt (a e.1) y && !decide (u.1 64 (e.1 ^^^ 2 ^ y) = 0)) c 12), nI 12, u) := fun c => by
        have := l_ml114 F (nI x) (b2i b) (nI i) hes (a e.1) c h01 12 0 F (by omega) (by omega)
        rw [show nI 0 = 0 from rfl] at this
        exact this
      have G1 : ∀ c : Bool, (Option.bind (l_X12_live_114 F (nI x) (b2i b) (nI i) (nI e.1) (a e.1) F (b2i c) (0 : Int32) u) (fun w28 => (if nI e.1 < 0 ∨ 4096 ≤ e.1 then none else (if b2i b = 0 then (if w28.1 = 0 then l_X12_live_61 F (nI x) k ((0 : Int32)) (nI i - 1) (wr w28.2.2 64 e.1 (vp_nar .boolean w28.1)) else l_X12_live_61 F (nI x) k ((1 : Int32)) (nI i - 1) (wr w28.2.2 64 e.1 (vp_nar .boolean w28.1))) else l_X12_live_61 F (nI x) k ((1 : Int32)) (nI i - 1) (wr w28.2.2 64 e.1 (vp_nar .boolean w28.1)))))) = l_X12_live_61 F (nI x) k (b2i (b || anyY (fun y => bt (a e.1) y && !decide (u.1 64 (e.1 ^^^ 2 ^ y) = 0)) c 12)) (nI i - 1) (wr u 64 e.1 (b2i (anyY (fun y => bt (a e.1) y && !decide (u.1 64 (e.1 ^^^ 2 ^ y) = 0)) c 12))) := by
        intro c
        rw [hin c]
        simp only [Option.bind_some]
        rw [if_neg (gin hes (by decide))]
        cases b with
        | true =>
          rw [if_neg (by simp [b2i])]
          cases anyY (fun y => bt (a e.1) y && !decide (u.1 64 (e.1 ^^^ 2 ^ y) = 0)) c 12 with
          | true => rw [show vp_nar .boolean (b2i true) = b2i true from nar1]; rfl
          | false => rw [show vp_nar .boolean (b2i false) = b2i false from nar0]; rfl
        | false =>
          rw [if_pos (by simp [b2i])]
          cases anyY (fun y => bt (a e.1) y && !decide (u.1 64 (e.1 ^^^ 2 ^ y) = 0)) c 12 with
          | true => rw [if_neg (by simp [b2i]), show vp_nar .boolean (b2i true) = b2i true from nar1]; rfl
          | false => rw [if_pos (by simp [b2i]), show vp_nar .boolean (b2i false) = b2i false from nar0]; rfl
      have key := both (fun c => l_X12_live_61 F (nI x) k (b2i (b || anyY (fun y => bt (a e.1) y && !decide (u.1 64 (e.1 ^^^ 2 ^ y) = 0)) c 12)) (nI i - 1) (wr u 64 e.1 (b2i (anyY (fun y => bt (a e.1) y && !decide (u.1 64 (e.1 ^^^ 2 ^ y) = 0)) c 12)))) G1
      have g1 := G1 true
      have g0 := G1 false
      rw [show b2i true = (1 : Int32) from rfl] at g1
      rw [show b2i false = (0 : Int32) from rfl] at g0
      rw [g1, g0, key]
      cases hv : anyY (fun y => bt (a e.1) y && !decide (u.1 64 (e.1 ^^^ 2 ^ y) = 0)) (bt (a e.1) x) 12 with
      | true =>
        have hld : Lds a x e.1 := by
          rcases anyY_t hv with q | ⟨y, hy, q⟩
          · exact ⟨0, q⟩
          · have q2 := Bool.and_eq_true_iff.mp q
            obtain ⟨e2, he2, h2⟩ := List.mem_map.mp (hcl e.1 y hme hy q2.1)
            have hne : ¬ u.1 64 e2.1 = 0 := by rw [h2]; simpa using q2.2
            obtain ⟨n, hn⟩ := (hR e2 he2).2 ((hR e2 he2).1.resolve_left hne)
            exact ⟨n + 1, Or.inr ⟨y, hy, q2.1, by rw [← h2]; exact hn⟩⟩
        have fw : Fr [64] u (wr u 64 e.1 1) := (Fr.rf _ u).w (by decide)
        have hR1 : LdR a L x (wr u 64 e.1 1) := fun e2 he2 => by
          by_cases h : e2.1 = e.1
          · rw [h, wr_eq]
            exact ⟨Or.inr rfl, fun _ => hld⟩
          · rw [wr_nek _ h]
            exact hR e2 he2
        have hlt : nld L (wr u 64 e.1 1) < nld L u := filt_lt L (fun e2 he2 h => by
          have h := of_decide_eq_true h
          by_cases h9 : e2.1 = e.1
          · rw [h9, wr_eq] at h; exact absurd h (by decide)
          · rw [wr_nek _ h9] at h; exact decide_eq_true h) ⟨e, hem, decide_eq_true hz, by rw [wr_eq]; decide⟩
        rw [Bool.or_true, show b2i true = (1 : Int32) from rfl, show (1 : Int32) = b2i true from rfl]
        obtain ⟨b', z, u2, k1, k2, k3, k4, k5, k6⟩ := l_ml61 F hF hG hcl hx i k (wr u 64 e.1 1) true (by omega) (by omega) (hw.fr (fw.2 52 (by decide))) (by rw [aF_eq (asM_congr (fw.2 52 (by decide)) (fw.2 53 (by decide)) (fw.2 54 (by decide)) (fw.2 58 (by decide)))]; exact ha) (hW.congr (by rw [fw.2 50 (by decide)]) (fw.2 60 (by decide)) (fw.2 61 (by decide)) (fw.2 62 (by decide)) (fw.2 63 (by decide))) hR1
        exact ⟨b', z, u2, k1, fw.tr k2, k3, by omega, fun _ => Or.inr (by omega), fun h => by have := (k6 h).1; cases this⟩
      | false =>
        have hwu : wr u 64 e.1 (b2i false) = u := by
          unfold wr
          refine Prod.ext ?_ rfl
          funext q j
          show (if q = 64 ∧ j = e.1 then b2i false else u.1 q j) = u.1 q j
          by_cases hq : q = 64 ∧ j = e.1
          · rw [if_pos hq, hq.1, hq.2, hz]; rfl
          · rw [if_neg hq]
        rw [hwu, Bool.or_false]
        obtain ⟨b', z, u2, k1, k2, k3, k4, k5, k6⟩ := l_ml61 F hF hG hcl hx i k u b (by omega) (by omega) hw ha hW hR
        refine ⟨b', z, u2, k1, k2, k3, k4, k5, fun h => ?_⟩
        obtain ⟨q1, q2, q3⟩ := k6 h
        refine ⟨q1, q2, fun j e2 hj he2 h0 => ?_⟩
        by_cases hji : j = i
        · subst hji
          rw [he] at he2
          cases he2
          obtain ⟨f1, f2⟩ := anyY_f hv
          refine ⟨f1, fun y hy hb => ?_⟩
          have := f2 y hy
          rw [hb, Bool.true_and] at this
          simpa using this
        · exact q3 j e2 (by omega) he2 h0
    · rw [if_neg hz]
      obtain ⟨b', z, u2, k1, k2, k3, k4, k5, k6⟩ := l_ml61 F hF hG hcl hx i k u b (by omega) (by omega) hw ha hW hR
      refine ⟨b', z, u2, k1, k2, k3, k4, k5, fun h => ?_⟩
      obtain ⟨q1, q2, q3⟩ := k6 h
      refine ⟨q1, q2, fun j e2 hj he2 h0 => ?_⟩
      by_cases hji : j = i
      · subst hji
        rw [he] at he2
        cases he2
        exact absurd h0 hz
      · exact q3 j e2 (by omega) he2 h0
theorem WM.f64 {L : WL} {u v : St} (h : WM L u) (fw : Fr [64] u v) : WM L v := h.congr (by rw [fw.2 50 (by decide)]) (fw.2 60 (by decide)) (fw.2 61 (by decide)) (fw.2 62 (by decide)) (fw.2 63 (by decide))
theorem aF.f64 {u v : St} (fw : Fr [64] u v) : aF v = aF u := aF_eq (asM_congr (fw.2 52 (by decide)) (fw.2 53 (by decide)) (fw.2 54 (by decide)) (fw.2 58 (by decide)))
theorem l_ml48 (F : Nat) (hF : 5000 ≤ F) {a : Nat → Int32} {L : WL} (hG : GL L) (hcl : ∀ s y, s ∈ L.map Prod.fst → y < 12 → bt (a s) y = true → s ^^^ 2 ^ y ∈ L.map Prod.fst) {x : Nat} (hx : x < 12) : ∀ (N k : Nat) (u : St), nld L u ≤ N → N + 2 ≤ k → WfM u → aF u = a → WM L u → LdR a L x u → ∃ z u', l_X12_live_48 F (nI x) k 1 u = some (z, u') ∧ Fr [64] u u' ∧ LdR a L x u' ∧ ∀ e, e ∈ L → u'.1 64 e.1 = 0 → bt (a e.1) x = false ∧ ∀ y, y < 12 → bt (a e.1) y = true → u'.1 64 (e.1 ^^^ 2 ^ y) = 0
  | N, 0, _, _, hk, _, _, _, _ => absurd hk (by omega)
  | N, k + 1, u, hN, hk, hw, ha, hW, hR => by
    have hl := hG.len
    show ∃ z u', b_X12_live_48 F (nI x) (l_X12_live_48 F (nI x) k) 1 u = _ ∧ _
    unfold b_X12_live_48
    rw [if_neg (by decide), hW.1]
    obtain ⟨b', z, u1, g1, g2, g3, g4, g5, g6⟩ := l_ml61 F hF hG hcl hx L.length F u false (Nat.le_refl _) (by omega) hw ha hW hR
    rw [show b2i false = (0 : Int32) from rfl] at g1
    rw [g1]
    simp only [Option.bind_some]
    cases b' with
    | false =>
      obtain ⟨-, q2, q3⟩ := g6 rfl
      subst q2
      cases k with
      | zero => omega
      | succ k =>
        refine ⟨0, u1, ?_, Fr.rf _ _, hR, fun e he h0 => ?_⟩
        · show b_X12_live_48 F (nI x) (l_X12_live_48 F (nI x) k) 0 u1 = _
          unfold b_X12_live_48
          rw [if_pos rfl]
        · obtain ⟨j, hj⟩ := List.getElem?_of_mem he
          exact q3 j e (List.getElem?_eq_some_iff.mp hj).1 hj h0
    | true =>
      have hlt := (g5 rfl).resolve_left (by decide)
      obtain ⟨z2, u2, k1, k2, k3, k4⟩ := l_ml48 F hF hG hcl hx (N - 1) k u1 (by omega) (by omega) (hw.fr (g2.2 52 (by decide))) (by rw [aF.f64 g2]; exact ha) (hW.f64 g2) g3
      exact ⟨z2, u2, k1, g2.tr k2, k3, k4⟩
theorem l_ml200 (F : Nat) {L : WL} (hG : GL L) {u : St} (hW : WM L u) : ∀ (d i k : Nat), i + d = L.length → d < k → (∀ j e, j < i → L[j]? = some e → u.1 64 e.1 ≠ 0) → ∃ (b : Bool) (w : (Int32 × St) ⊕ (Int32 × St)), l_X12_live_200 F k (nI i) u = some w ∧ Sum.elim (fun r => some r) (fun v47 => some ((1 : Int32), v47.2)) w = some (b2i b, u) ∧ (b = true ↔ ∀ e ∈ L, u.1 64 e.1 ≠ 0)
  | d, i, 0, _, hk, _ => absurd hk (by omega)
  | d, i, k + 1, hd, hk, hp => by
    have hl := hG.len
    show ∃ b w, b_X12_live_200 F (l_X12_live_200 F k) _ u = _ ∧ _
    unfold b_X12_live_200
    rw [hW.1]
    by_cases h0 : d = 0
    · have : i = L.length := by omega
      subst this
      rw [if_pos (nI_le (Nat.le_refl _) (by omega))]
      refine ⟨true, _, rfl, rfl, ⟨fun _ e he => ?_, fun _ => rfl⟩⟩
      obtain ⟨j, hj⟩ := List.getElem?_of_mem he
      exact hp j e (List.getElem?_eq_some_iff.mp hj).1 hj
    · obtain ⟨e, he⟩ : ∃ e, L[i]? = some e := ⟨_, List.getElem?_eq_getElem (show i < L.length by omega)⟩
      have hem := List.mem_of_getElem? he
      have hes := (hG.2 e hem).1
      rw [if_neg (nI_ge (by omega) (by omega)), nI_clamp (by omega), if_neg (gin (show i < 4096 by omega) (by decide)), (hW.2.1 i e.1 e.2 he).1, nI_clamp (by omega), if_neg (gin hes (by decide)), nI_1]
      by_cases hz : u.1 64 e.1 = 0
      · rw [if_pos hz]
        exact ⟨false, _, rfl, rfl, ⟨fun q => absurd q (by decide), fun q => absurd hz (q e hem)⟩⟩
      · rw [if_neg hz]
        exact l_ml200 F hG hW (d - 1) (i + 1) k (by omega) (by omega) (fun j e2 hj he2 => by
          by_cases hji : j = i
          · subst hji
            rw [he] at he2
            cases he2
            exact hz
          · exact hp j e2 (by omega) he2)
/-- the model's live -/
theorem p_mlive (F : Nat) (hF : 5000 ≤ F) {u : St} (h : CirI u) {x : Nat} (hx : x < 12) : ∃ (b : Bool) (u' : St), f_X12_live F (nI x) u = some (b2i b, u') ∧ CirI u' ∧ Kp u u' ∧ (b = true ↔ ∀ s ∈ (LL u).map Prod.fst, Lds (aF u) x s) := by
  obtain ⟨W1, W2, W3, W4⟩ := h.w0
  obtain ⟨u2, b1, b2, b3, b4, b5, b6, b7, b8⟩ := p_mw F hF W1
  rw [aF_eq W3] at b3
  rw [W4] at b4 b5
  have hG := h.gl
  have hl := hG.len
  obtain ⟨u3, c1, c2, c3⟩ := l_ml20 F (nI x) hG (LL u).length 0 F u2 (by omega) (by omega) b5 (fun j e hj => by omega)
  rw [show nI 0 = 0 from rfl] at c1
  have hcl : ∀ s y, s ∈ (LL u).map Prod.fst → y < 12 → bt (aF u s) y = true → s ^^^ 2 ^ y ∈ (LL u).map Prod.fst := fun s y h1 h2 h3 => h.clos h1 h2 h3
  have hn : nld (LL u) u3 ≤ 4096 := Nat.le_trans (List.length_filter_le _ _) hl
  obtain ⟨z, u4, d1, d2, d3, d4⟩ := l_ml48 F hF hG hcl hx 4096 F u3 hn (by omega) (b2.1.2.1.fr (c3.2 52 (by decide))) (by rw [aF.f64 c3]; exact b3) (b5.f64 c3) (fun e he => ⟨Or.inl (c2 e he), fun q => by rw [c2 e he] at q; exact absurd q (by decide)⟩)
  have f4 : Fr [64] u2 u4 := c3.tr d2
  obtain ⟨b, w, e1, e2, e3⟩ := l_ml200 F hG (b5.f64 f4) (LL u).length 0 F (by omega) (by omega) (fun j e hj => by omega)
  rw [show nI 0 = 0 from rfl] at e1
  obtain ⟨C4, _, _⟩ := b2.fr f4 (by decide) (by rw [f4.2 50 (by decide)])
  refine ⟨b, u4, ?_, C4, W2.tr ((Kp.mw b6 b8).tr (Kp.of f4 (by decide) (fun k _ => by rw [f4.2 50 (by decide)]))), ?_⟩
  · unfold f_X12_live
    rw [msg_in F hx]
    simp only [Option.bind_some]
    rw [if_neg (by decide), b1]
    simp only [Option.bind_some]
    rw [c1]
    simp only [Option.bind_some]
    rw [d1]
    simp only [Option.bind_some]
    rw [e1]
    simp only [Option.bind_some]
    rw [e2]
  · rw [e3]
    constructor
    · intro q s hs
      obtain ⟨e, he, rfl⟩ := List.mem_map.mp hs
      exact (d3 e he).2 ((d3 e he).1.resolve_left (q e he))
    · intro q e he hz
      have key : ∀ n e, e ∈ LL u → lead (aF u) x n e.1 → u4.1 64 e.1 ≠ 0 := by
        intro n
        induction n with
        | zero =>
          intro e he hb hz
          have hb : bt (aF u e.1) x = true := hb
          rw [(d4 e he hz).1] at hb
          cases hb
        | succ n ih =>
          intro e he hb hz
          rcases hb with hb | ⟨y, hy, hby, hb⟩
          · exact ih e he hb hz
          · obtain ⟨e2, he2, h2⟩ := List.mem_map.mp (hcl e.1 y (List.mem_map.mpr ⟨e, he, rfl⟩) hy hby)
            have h3 := (d4 e he hz).2 y hy hby
            rw [← h2] at h3 hb
            exact ih e2 he2 hb h3
      obtain ⟨n, hn⟩ := q e.1 (List.mem_map.mpr ⟨e, he, rfl⟩)
      exact key n e he hn hz
/-- promise 16 -/
theorem op_live (F : Nat) (hF : 5000 ≤ F) {u : St} (h : CirI u) (x : Int32) : ∃ r u1 u2, f_X11_live F x u = some (r, u1) ∧ f_X12_live F x u1 = some (r, u2) ∧ CirI u2 ∧ Kp u u2 := by
  rcases ix12 x with hx | ⟨j, hj, rfl⟩
  · refine ⟨-1, u, wr u 50 0 0, ?_, ?_, h.w0.1, h.w0.2.1⟩
    · unfold f_X11_live
      rw [sg_out F hx]; rfl
    · unfold f_X12_live
      rw [msg_out F hx]; rfl
  · obtain ⟨u1, a1, a2, a3, a4, a5, a6, a7, a8⟩ := p_ren F hF h
    have hLv := a2.2.2.2.2.1
    -- the system's isLive
    have sys : ∃ (b : Bool) (u2 : St), f_X3_isLive F (nI j) u1 = some (b2i b, u2) ∧ CirI u2 ∧ aF u2 = aF u ∧ LL u2 = LL u ∧ Kp u1 u2 ∧ (b = true ↔ ∀ s ∈ (LL u).map Prod.fst, Lds (aF u) j s) := by
      unfold f_X3_isLive
      rw [p_isIn F _ (by omega)]
      simp only [Option.bind_some]
      obtain ⟨l1, l2⟩ := hLv
      rw [a3, a4] at l2
      cases hkn : bt (u1.1 18 5) j with
      | true =>
        rw [if_neg (by simp [b2i]), p_isIn F _ (by omega)]
        simp only [Option.bind_some]
        refine ⟨bt (u1.1 18 6) j, u1, ?_, a2, a3, a4, Kp.rf _, (l2 j hj).1 hkn⟩
        rw [if_pos (by cases bt (u1.1 18 6) j <;> simp [b2i])]
      | false =>
        rw [if_pos (by simp [b2i])]
        have fw : Fr [18] u1 (wr u1 18 5 (u1.1 18 5 ||| ((1 : Int32) <<< (nI j &&& 31)))) := (Fr.rf _ u1).w (by decide)
        obtain ⟨c1, m1⟩ := a2.1.fr fw (by decide)
        have af1 : aF (wr u1 18 5 (u1.1 18 5 ||| ((1 : Int32) <<< (nI j &&& 31)))) = aF u := (aF_eq m1).trans a3
        obtain ⟨b, u2, g1, g2, g3, g4⟩ := p_leads F hF c1 (L := LL u) h.gl (a6.congr (by rw [fw.2 11 (by decide)]) (fw.2 12 (by decide)) (fw.2 13 (by decide)) (fw.2 14 (by decide))) (fun s y h1 h2 h3 => h.clos h1 h2 (by rw [af1] at h3; exact h3)) (fun n hn => by rw [fw.2 19 (by decide)]; exact l1 n hn) hj
        rw [af1] at g2
        rw [g1]
        simp only [Option.bind_some]
        obtain ⟨c2, m2, f2, k2⟩ := g4
        have h6 : u2.1 18 6 = u1.1 18 6 := (k2 6 (by decide)).trans (wr_nek _ (by decide))
        have h5 : u2.1 18 5 = u1.1 18 5 ||| ((1 : Int32) <<< (nI j &&& 31)) := (k2 5 (by decide)).trans (wr_eq _)
        have f12 : Fr [5, 18, 19, 20] u1 u2 := (fw.mono (by intro q hq; simp at hq ⊢; omega)).tr f2
        have hkf : ∀ x, x < 12 → bt (u2.1 18 5) x = (bt (u1.1 18 5) x || decide (x = j)) := fun x _ => by
          rw [h5, bt_or, bt_shl1 (by omega)]
        -- what the circuit's side is, whatever the set of live ones came to be
        have mk : ∀ (u3 : St), Fr [18] u2 u3 → u3.1 18 5 = u2.1 18 5 → (∀ x, x < 12 → bt (u3.1 18 6) x = (bt (u1.1 18 6) x || (decide (x = j) && b))) → CirI u3 ∧ aF u3 = aF u ∧ LL u3 = LL u ∧ Kp u1 u3 := by
          intro u3 f3 e5 e6
          obtain ⟨c3, m3⟩ := c2.fr f3 (by decide)
          have f13 : Fr [5, 18, 19, 20] u1 u3 := f12.tr (f3.mono (by intro q hq; simp at hq ⊢; omega))
          have ma : asM u3 = asM u1 := m3.trans (m2.trans m1)
          have ha : aF u3 = aF u := (aF_eq ma).trans a3
          have e4 : u3.1 4 = u1.1 4 := f13.2 4 (by decide)
          have hL : LL u3 = LL u := by
            rw [← a4]
            unfold LL rsN
            rw [aF_eq ma, e4]
          obtain ⟨q1, q2, q3, q4, q5, q6, q7⟩ := a2
          refine ⟨⟨c3, ?_, ?_, ?_, ?_, ?_, ?_⟩, ha, hL, Kp.of f13 (by decide) (fun k _ => by rw [f13.2 50 (by decide)])⟩
          · obtain ⟨r, r1, r2, r3⟩ := q2
            exact ⟨r, r1, by rw [e4]; exact r2, by rw [f13.2 50 (by decide)]; exact r3⟩
          · rcases q3 with q | ⟨z1, z2, z3⟩
            · exact Or.inl (by rw [f13.2 11 (by decide)]; exact q)
            · refine Or.inr ⟨by rw [f13.2 11 (by decide)]; exact z1, ?_, ?_⟩
              · rw [aF_eq ma, e4]
                exact z2.congr (by rw [f13.2 11 (by decide)]) (f13.2 12 (by decide)) (f13.2 13 (by decide)) (f13.2 14 (by decide))
              · rw [aF_eq ma, e4]
                exact z3.congr (by rw [f13.2 11 (by decide)]) (f13.2 15 (by decide))
          · have hp : pbF u3 = pbF u1 := by unfold pbF; rw [f13.2 59 (by decide)]
            unfold HzK
            rw [ha, hL, hp, f13.2 16 (by decide), f13.2 17 (by decide), f13.2 11 (by decide)]
            unfold HzK at q4
            rw [a3, a4] at q4
            exact q4
          · refine ⟨fun n hn => by rw [f3.2 19 (by decide)]; exact g3 n hn, fun x hx => ?_⟩
            rw [ha, hL, e5, hkf x hx, e6 x hx]
            by_cases hxj : x = j
            · subst hxj
              have hz := (l2 x hx).2 hkn
              rw [hz]
              simp only [decide_true, Bool.or_true, Bool.true_and, Bool.false_or]
              exact ⟨fun _ => g2, fun q => absurd q (by decide)⟩
            · simp only [hxj, decide_false, Bool.false_and, Bool.or_false]
              exact l2 x hx
          · have hp : pbF u3 = pbF u1 := by unfold pbF; rw [f13.2 59 (by decide)]
            unfold PtK
            rw [hp, f13.2 6 (by decide)]
            exact q6
          · unfold DrK txt
            rw [f13.2 0 (by decide), e4]
            exact q7
        have hz6 := (l2 j hj).2 hkn
        cases b with
        | false =>
          rw [if_pos (by simp [b2i]), p_isIn F _ (by omega)]
          simp only [Option.bind_some]
          obtain ⟨r1, r2, r3, r4⟩ := mk u2 (Fr.rf _ _) rfl (fun x hx => by rw [h6]; simp)
          refine ⟨false, u2, ?_, r1, r2, r3, r4, g2⟩
          rw [h6, hz6, if_pos (by simp [b2i])]
        | true =>
          rw [if_neg (by simp [b2i]), wr_eq, p_isIn F _ (by omega)]
          simp only [Option.bind_some]
          obtain ⟨r1, r2, r3, r4⟩ := mk (wr u2 18 6 (u2.1 18 6 ||| ((1 : Int32) <<< (nI j &&& 31)))) ((Fr.rf _ u2).w (by decide)) (wr_nek _ (by decide)) (fun x hx => by
            rw [wr_eq, bt_or, bt_shl1 (by omega), h6]
            simp)
          refine ⟨true, _, ?_, r1, r2, r3, r4, g2⟩
          have hb1 : bt (u2.1 18 6 ||| ((1 : Int32) <<< (nI j &&& 31))) j = true := by
            rw [bt_or, bt_shl1 (by omega)]
            simp
          rw [hb1, if_pos (by simp [b2i])]
    obtain ⟨b, u2, s1, s2, s3, s4, s5, s6⟩ := sys
    obtain ⟨b', u3, t1, t2, t3, t4⟩ := p_mlive F hF s2 hj
    rw [s3, s4] at t4
    have hbb : b' = b := by
      cases b with
      | true => exact t4.mpr (s6.mp rfl)
      | false =>
        cases hb' : b' with
        | false => rfl
        | true => exact absurd (s6.mpr (t4.mp hb')) (by decide)
    subst hbb
    refine ⟨b2i b', u2, u3, ?_, t1, t2, (Kp.ren a8).tr (s5.tr t3)⟩
    unfold f_X11_live
    rw [sg_in F hj]
    simp only [Option.bind_some]
    rw [if_neg (by decide), a1]
    simp only [Option.bind_some]
    rw [s1]
    simp only [Option.bind_some]
    cases b' with
    | true => rw [if_neg (by simp [b2i])]; rfl
    | false => rw [if_pos (by simp [b2i])]; rfl
