/-! how the model holds the walk's list -/
def WM (L : WL) (u : St) : Prop := u.1 50 17 = nI L.length ∧ (∀ i n b, L[i]? = some (n, b) → u.1 60 i = nI n ∧ u.1 61 n = nI i ∧ (b = 12 → u.1 62 n = -1) ∧ (b < 12 → u.1 62 n = nI (n ^^^ 2 ^ b) ∧ u.1 63 n = nI b)) ∧ ∀ n, n < 4096 → n ∉ L.map Prod.fst → u.1 61 n = -1
theorem WM.congr {L : WL} {u v : St} (h : WM L u) (h5 : v.1 50 17 = u.1 50 17) (h12 : v.1 60 = u.1 60) (h13 : v.1 61 = u.1 61) (h14 : v.1 62 = u.1 62) (h15 : v.1 63 = u.1 63) : WM L v := by
  unfold WM
  rw [h5, h12, h13, h14, h15]
  exact h
theorem xx2 (s x : Nat) : (s ^^^ 2 ^ x) ^^^ 2 ^ x = s := by
  rw [Nat.xor_assoc, Nat.xor_self, Nat.xor_zero]
theorem l_mwalk88 (F : Nat) (x1 : Int32) {s : Nat} (hs : s < 4096) (v : Int32) : ∀ (d x k : Nat) (L : WL) (u : St), x + d = 12 → d < k → GL L → WM L u → ∃ u', l_X12_walks_88 F x1 (nI s) v k (nI x) u = some (nI 12, u') ∧ WM (goF v s d x L) u' ∧ Fr [50, 60, 61, 62, 63] u u' ∧ ∀ j, j ≠ 17 → u'.1 50 j = u.1 50 j
  | d, x, 0, _, _, _, hk, _, _ => absurd hk (by omega)
  | d, x, k + 1, L, u, hd, hk, hG, hW => by
    show ∃ u', b_X12_walks_88 F x1 (nI s) v (l_X12_walks_88 F x1 (nI s) v k) (nI x) u = _ ∧ _
    unfold b_X12_walks_88
    rw [show (12 : Int32) = nI 12 from rfl]
    cases d with
    | zero =>
      rw [if_pos (nI_le (by omega) (by omega)), show x = 12 by omega]
      exact ⟨u, rfl, hW, Fr.rf _ _, fun _ _ => rfl⟩
    | succ d =>
      have hx : x < 12 := by omega
      have hto := x2_lt hs hx
      have hxx := xx2 s x
      rw [if_neg (nI_ge hx (by decide)), xor_nI hs hx]
      generalize s ^^^ 2 ^ x = t at hto hxx
      have hg : ¬ (nI t < 0 ∨ 4096 ≤ t) := by rw [not_or]; exact ⟨nI_pos (by omega), by omega⟩
      rw [nI_clamp (by omega), nI_1]
      unfold goF
      cases hb : bt v x with
      | false =>
        rw [if_pos ((bt_t0 v (by omega)).mpr hb), if_neg (by simp)]
        exact l_mwalk88 F x1 hs v d (x + 1) k L u (by omega) (by omega) hG hW
      | true =>
        rw [if_neg (fun h => by rw [(bt_t0 v (by omega)).mp h] at hb; cases hb), if_pos rfl, if_neg hg]
        have hst : s ^^^ 2 ^ x = t := by rw [← hxx, xx2]
        rw [hst]
        obtain ⟨h1, h2, h3⟩ := hW
        unfold ent
        by_cases hm : t ∈ L.map Prod.fst
        · obtain ⟨i, c, hi⟩ := mem_fst hm
          have hlen := hG.len
          have hil := (List.getElem?_eq_some_iff.mp hi).1
          rw [if_neg (by rw [(h2 i t c hi).2.1]; exact nI_ne_m1 (by omega)), if_pos hm]
          exact l_mwalk88 F x1 hs v d (x + 1) k L u (by omega) (by omega) hG ⟨h1, h2, h3⟩
        · have hG2 := hG.e (t := t) (x := x) hto (by omega)
          unfold ent at hG2
          rw [if_neg hm] at hG2
          have hlen := hG2.len
          rw [List.length_append, List.length_singleton] at hlen
          have hgl : ¬ (nI L.length < 0 ∨ 4096 ≤ L.length) := by rw [not_or]; exact ⟨nI_pos (by omega), by omega⟩
          rw [if_pos (h3 t hto hm), h1, nI_clamp (by omega), if_neg hgl, if_neg hg, if_neg hg, if_neg hg, if_neg hm]
          have e1 : (wr u 60 L.length (nI t)).1 50 17 = nI L.length := by rw [wr_ne _ (by decide), h1]
          rw [e1]
          have e2 : (wr (wr (wr (wr u 60 L.length (nI t)) 61 t (nI L.length)) 62 t (nI s)) 63 t (nI x)).1 50 17 = nI L.length := by
            rw [wr_ne _ (by decide), wr_ne _ (by decide), wr_ne _ (by decide), e1]
          rw [e2, nI_1]
          have f1 : Fr [50, 60, 61, 62, 63] u (wr (wr (wr (wr (wr u 60 L.length (nI t)) 61 t (nI L.length)) 62 t (nI s)) 63 t (nI x)) 50 17 (nI (L.length + 1))) := (((((Fr.rf _ u).w (by decide)).w (by decide)).w (by decide)).w (by decide)).w (by decide)
          have W1 : WM (L ++ [(t, x)]) (wr (wr (wr (wr (wr u 60 L.length (nI t)) 61 t (nI L.length)) 62 t (nI s)) 63 t (nI x)) 50 17 (nI (L.length + 1))) := by
            refine ⟨?_, ?_, ?_⟩
            · rw [wr_eq, List.length_append, List.length_singleton]
            · intro i n c hi
              rw [wr_ne _ (show (60 : Nat) ≠ 50 by decide), wr_ne _ (show (61 : Nat) ≠ 50 by decide), wr_ne _ (show (62 : Nat) ≠ 50 by decide), wr_ne _ (show (63 : Nat) ≠ 50 by decide),
                wr_ne _ (show (60 : Nat) ≠ 63 by decide), wr_ne _ (show (61 : Nat) ≠ 63 by decide), wr_ne _ (show (62 : Nat) ≠ 63 by decide), wr_ne _ (show (60 : Nat) ≠ 62 by decide), wr_ne _ (show (61 : Nat) ≠ 62 by decide), wr_ne _ (show (60 : Nat) ≠ 61 by decide)]
              by_cases hil : i < L.length
              · rw [List.getElem?_append_left hil] at hi
                obtain ⟨g1, g2, g3, g4⟩ := h2 i n c hi
                have hnt : n ≠ t := fun e => hm (e ▸ fst_mem hi)
                rw [wr_nek _ (show i ≠ L.length by omega), wr_nek _ hnt, wr_nek _ hnt, wr_nek _ hnt, wr_ne _ (show (62 : Nat) ≠ 61 by decide), wr_ne _ (show (62 : Nat) ≠ 60 by decide), wr_ne _ (show (61 : Nat) ≠ 60 by decide), wr_ne _ (show (63 : Nat) ≠ 62 by decide), wr_ne _ (show (63 : Nat) ≠ 61 by decide), wr_ne _ (show (63 : Nat) ≠ 60 by decide)]
                exact ⟨g1, g2, g3, g4⟩
              · rw [List.getElem?_append_right (by omega)] at hi
                have hz : i - L.length < 1 := (List.getElem?_eq_some_iff.mp hi).1
                have hiL : i = L.length := by omega
                subst hiL
                rw [Nat.sub_self] at hi
                cases hi
                rw [wr_eq, wr_eq, wr_eq, wr_eq]
                exact ⟨rfl, rfl, fun h => by omega, fun _ => ⟨by rw [hxx], rfl⟩⟩
            · intro n hn hnm
              rw [List.map_append] at hnm
              have hnt : n ≠ t := fun e => hnm (by rw [e]; simp)
              have hnL : n ∉ L.map Prod.fst := fun e => hnm (List.mem_append_left _ e)
              rw [wr_ne _ (show (61 : Nat) ≠ 50 by decide), wr_ne _ (show (61 : Nat) ≠ 63 by decide), wr_ne _ (show (61 : Nat) ≠ 62 by decide), wr_nek _ hnt, wr_ne _ (show (61 : Nat) ≠ 60 by decide)]
              exact h3 n hn hnL
          obtain ⟨u2, k1, k2, k3, k4⟩ := l_mwalk88 F x1 hs v d (x + 1) k _ _ (by omega) (by omega) hG2 W1
          refine ⟨u2, k1, k2, f1.tr k3, fun j hj => (k4 j hj).trans ?_⟩
          rw [wr_nek _ hj, wr_ne _ (by decide), wr_ne _ (by decide), wr_ne _ (by decide), wr_ne _ (by decide)]
theorem WfM.fr {u v : St} (h : WfM u) (e : v.1 52 = u.1 52) : WfM v := by
  unfold WfM
  rw [e]
  exact h
theorem l_mwalk64 (F : Nat) (hF : 5000 ≤ F) {a : Nat → Int32} {r : Nat} (hr : r < 4096) : ∀ (d i k : Nat) (u : St), i + d = 4097 → d < k → WfM u → aF u = a → WM (bf a r i) u → ∃ i' u', l_X12_walks_64 F k (nI i) u = some (i', u') ∧ WM (bfE a r) u' ∧ Fr [50, 60, 61, 62, 63] u u' ∧ ∀ j, j ≠ 17 → u'.1 50 j = u.1 50 j
  | d, i, 0, _, _, hk, _, _, _ => absurd hk (by omega)
  | d, i, k + 1, u, hd, hk, hw, ha, hW => by
    have hG := GLbf (a := a) hr i
    have hlen := hG.len
    show ∃ i' u', b_X12_walks_64 F (l_X12_walks_64 F k) (nI i) u = _ ∧ _
    unfold b_X12_walks_64
    rw [hW.1]
    by_cases h0 : (bf a r i).length ≤ i
    · rw [if_pos (nI_le h0 (by omega))]
      by_cases hi : i ≤ 4096
      · have hE := bfE_at (a := a) (r := r) hi h0
        exact ⟨_, u, rfl, by rw [hE]; exact hW, Fr.rf _ _, fun _ _ => rfl⟩
      · have hi2 : i = 4097 := by omega
        have hE : bfE a r = bf a r i := by
          rw [hi2]
          exact (bf_stop a r 4096 (GLbf (a := a) hr 4096).len 1).symm
        exact ⟨_, u, rfl, by rw [hE]; exact hW, Fr.rf _ _, fun _ _ => rfl⟩
    · rw [if_neg (nI_ge (by omega) (by omega))]
      have hi : i < 4096 := by omega
      obtain ⟨e, he⟩ : ∃ e, (bf a r i)[i]? = some e := ⟨_, List.getElem?_eq_getElem (show i < (bf a r i).length by omega)⟩
      have hes := (hG.2 e (List.mem_of_getElem? he)).1
      have hgi : ¬ (nI i < 0 ∨ 4096 ≤ i) := by rw [not_or]; exact ⟨nI_pos (by omega), by omega⟩
      rw [nI_clamp (by omega), if_neg hgi, (hW.2.1 i e.1 e.2 he).1, p_M_asked F (by omega) _ u hw]
      simp only [Option.bind_some, nI_1]
      have hae : asM u (nI e.1) = a e.1 := by rw [← ha]; rfl
      rw [hae]
      obtain ⟨u1, g1, g2, g3, g4⟩ := l_mwalk88 F (nI i) hes (a e.1) 12 0 F _ u (by omega) (by omega) hG hW
      rw [show nI 0 = 0 from rfl] at g1
      rw [g1]
      simp only [Option.bind_some]
      have hb : bf a r (i + 1) = goF (a e.1) e.1 12 0 (bf a r i) := by
        show (match (bf a r i)[i]? with | none => bf a r i | some e => goF (a e.1) e.1 12 0 (bf a r i)) = _
        rw [he]
      rw [← hb] at g2
      obtain ⟨i2, u2, k1, k2, k3, k4⟩ := l_mwalk64 F hF hr (d - 1) (i + 1) k u1 (by omega) (by omega) (hw.fr (g3.2 52 (by decide))) (by rw [aF_eq (asM_congr (g3.2 52 (by decide)) (g3.2 53 (by decide)) (g3.2 54 (by decide)) (g3.2 58 (by decide)))]; exact ha) g2
      exact ⟨i2, u2, k1, k2, g3.tr k3, fun j hj => (k4 j hj).trans (g4 j hj)⟩
theorem l_mwalk7 (F : Nat) : ∀ (d i k : Nat) (u : St), i + d = 4096 → d < k → ∃ u', l_X12_walks_7 F k (nI i) u = some (nI 4096, u') ∧ Fr [61] u u' ∧ (∀ n, n < i → u'.1 61 n = u.1 61 n) ∧ ∀ n, i ≤ n → n < 4096 → u'.1 61 n = -1
  | d, i, 0, _, _, hk => absurd hk (by omega)
  | d, i, k + 1, u, hd, hk => by
    show ∃ u', b_X12_walks_7 F (l_X12_walks_7 F k) (nI i) u = _ ∧ _
    unfold b_X12_walks_7
    rw [show (4096 : Int32) = nI 4096 from rfl]
    by_cases h0 : i = 4096
    · rw [if_pos (nI_le (by omega) (by omega)), h0]
      exact ⟨u, rfl, Fr.rf _ _, fun _ _ => rfl, fun n h1 h2 => by omega⟩
    · have hgi : ¬ (nI i < 0 ∨ 4096 ≤ i) := by rw [not_or]; exact ⟨nI_pos (by omega), by omega⟩
      rw [if_neg (nI_ge (show i < 4096 by omega) (by decide)), nI_clamp (by omega), if_neg hgi, nI_1]
      obtain ⟨u', g1, g2, g3, g4⟩ := l_mwalk7 F (d - 1) (i + 1) k (wr u 61 i (-1)) (by omega) (by omega)
      refine ⟨u', g1, (((Fr.rf [61] u).w (by decide)).tr g2), fun n hn => ?_, fun n h1 h2 => ?_⟩
      · rw [g3 n (by omega), wr_nek _ (by omega)]
      · by_cases hni : n = i
        · subst hni
          rw [g3 n (by omega), wr_eq]
        · exact g4 n (by omega) h2
/-- the model's walks -/
theorem p_walks (F : Nat) (hF : 5000 ≤ F) {u : St} (hw : WfM u) {r : Nat} (hr : r < 4096) (hu : u.1 50 9 = nI r) : ∃ u', f_X12_walks F u = some u' ∧ WM (bfE (aF u) r) u' ∧ Fr [50, 60, 61, 62, 63] u u' ∧ u'.1 50 0 = 0 ∧ ∀ j, j ≠ 17 → j ≠ 0 → u'.1 50 j = u.1 50 j := by
  unfold f_X12_walks
  obtain ⟨w, g1, g2, g3, g4⟩ := l_mwalk7 F 4096 0 F (wr u 50 0 0) (by omega) (by omega)
  rw [show nI 0 = 0 from rfl] at g1
  rw [g1]
  simp only [Option.bind_some]
  have hw50 : ∀ j, w.1 50 j = (wr u 50 0 0).1 50 j := fun j => by rw [g2.2 50 (by decide)]
  have e9 : w.1 50 9 = nI r := by rw [hw50, wr_nek _ (by decide), hu]
  have hgr : ¬ (nI r < 0 ∨ 4096 ≤ r) := by rw [not_or]; exact ⟨nI_pos (by omega), by omega⟩
  have c0 : (0 : Int32).toNatClampNeg = 0 := by decide
  have a1 : (wr w 50 17 1).1 50 9 = nI r := by rw [wr_nek _ (by decide), e9]
  rw [c0, a1, if_neg (by decide)]
  have a2 : (wr (wr w 50 17 1) 60 0 (nI r)).1 50 9 = nI r := by rw [wr_ne _ (by decide), a1]
  rw [a2, nI_clamp (by omega), if_neg hgr]
  have a3 : (wr (wr (wr w 50 17 1) 60 0 (nI r)) 61 r 0).1 50 9 = nI r := by rw [wr_ne _ (by decide), a2]
  rw [a3, nI_clamp (by omega), if_neg hgr]
  have f1 : Fr [50, 60, 61, 62, 63] u (wr (wr (wr (wr w 50 17 1) 60 0 (nI r)) 61 r 0) 62 r (-1)) := (((((((Fr.rf _ u).w (by decide)).tr (g2.mono (by simp))).w (by decide)).w (by decide)).w (by decide)).w (by decide))
  have W1 : WM (bf (aF u) r 0) (wr (wr (wr (wr w 50 17 1) 60 0 (nI r)) 61 r 0) 62 r (-1)) := by
    refine ⟨?_, ?_, ?_⟩
    · rw [wr_ne _ (by decide), wr_ne _ (by decide), wr_ne _ (by decide), wr_eq]; rfl
    · intro i n b hi
      have hi0 : i = 0 := by
        have := (List.getElem?_eq_some_iff.mp hi).1
        have l1 : (bf (aF u) r 0).length = 1 := rfl
        omega
      subst hi0
      cases hi
      refine ⟨?_, ?_, fun _ => wr_eq _, fun h => by omega⟩
      · rw [wr_ne _ (by decide), wr_ne _ (by decide), wr_eq]
      · rw [wr_ne _ (by decide), wr_eq]; rfl
    · intro n hn hnm
      have hnr : n ≠ r := fun e => hnm (by rw [e]; simp [bf])
      rw [wr_ne _ (by decide), wr_nek _ hnr, wr_ne _ (by decide), wr_ne _ (by decide)]
      exact g4 n (by omega) hn
  have hw1 : WfM (wr (wr (wr (wr w 50 17 1) 60 0 (nI r)) 61 r 0) 62 r (-1)) := hw.fr (f1.2 52 (by decide))
  have ha1 : aF (wr (wr (wr (wr w 50 17 1) 60 0 (nI r)) 61 r 0) 62 r (-1)) = aF u := aF_eq (asM_congr (f1.2 52 (by decide)) (f1.2 53 (by decide)) (f1.2 54 (by decide)) (f1.2 58 (by decide)))
  obtain ⟨i2, u2, k1, k2, k3, k4⟩ := l_mwalk64 F hF hr 4097 0 F _ (by omega) (by omega) hw1 ha1 W1
  rw [show nI 0 = 0 from rfl] at k1
  rw [k1]
  refine ⟨u2, rfl, k2, f1.tr k3, ?_, fun j h1 h2 => ?_⟩
  · rw [k4 0 (by decide), wr_ne _ (by decide), wr_ne _ (by decide), wr_ne _ (by decide), wr_nek _ (by decide), hw50, wr_eq]
  · rw [k4 j h1, wr_ne _ (by decide), wr_ne _ (by decide), wr_ne _ (by decide), wr_nek _ h1, hw50, wr_nek _ h2]
