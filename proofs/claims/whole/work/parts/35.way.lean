/-! asked, stops, ways -/
/-- promise 8 -/
theorem op_asked (F : Nat) (hF : 5000 ≤ F) {u : St} (h : CirI u) (x : Int32) : ∃ r u1 u2, f_X11_asked F x u = some (r, u1) ∧ f_X12_asked F x u1 = some (r, u2) ∧ CirI u2 ∧ Kp u u2 := by
  have fin : ∀ u1 : St, CirI u1 → Kp u u1 → CirI (wr u1 50 0 0) ∧ Kp u (wr u1 50 0 0) := fun u1 c k => by
    have f : Fr [50] u1 (wr u1 50 0 0) := (Fr.rf _ u1).w (by decide)
    exact ⟨(c.fr f (by decide) (wr_nek _ (by decide))).1, k.tr (Kp.of f (by decide) (fun k hk => wr_nek _ (by rintro rfl; exact absurd hk (by decide))))⟩
  unfold f_X11_asked f_X12_asked
  rcases ix4096 x with hx | ⟨j, hj, rfl⟩
  · obtain ⟨c1, k1⟩ := fin u h (Kp.rf u)
    refine ⟨-1, u, wr u 50 0 0, ?_, ?_, c1, k1⟩
    · rw [st_out F hx]; rfl
    · rw [mst_out F hx]; rfl
  · obtain ⟨h1, h2, h3, h4, h5, h6, h7⟩ := id h
    obtain ⟨u1, g1, g2, g3, g4⟩ := p_asked F (by omega) hj u h1
    have c1 : CirI u1 := by
      have ha := aF_eq g4
      have e4 : u1.1 4 = u.1 4 := g2.2 4 (by decide)
      have hL : LL u1 = LL u := by unfold LL rsN; rw [ha, e4]
      have hp : pbF u1 = pbF u := by unfold pbF; rw [g2.2 59 (by decide)]
      refine ⟨g3, ?_, ?_, ?_, ?_, ?_, ?_⟩
      · obtain ⟨r, r1, r2, r3⟩ := h2
        exact ⟨r, r1, by rw [e4]; exact r2, by rw [g2.2 50 (by decide)]; exact r3⟩
      · rcases h3 with q | ⟨q1, q2, q3⟩
        · exact Or.inl (by rw [g2.2 11 (by decide)]; exact q)
        · refine Or.inr ⟨by rw [g2.2 11 (by decide)]; exact q1, ?_, ?_⟩
          · rw [ha, e4]
            exact q2.congr (by rw [g2.2 11 (by decide)]) (g2.2 12 (by decide)) (g2.2 13 (by decide)) (g2.2 14 (by decide))
          · rw [ha, e4]
            exact q3.congr (by rw [g2.2 11 (by decide)]) (g2.2 15 (by decide))
      · unfold HzK
        rw [ha, hL, hp, g2.2 16 (by decide), g2.2 17 (by decide), g2.2 11 (by decide)]
        exact h4
      · unfold LvK
        rw [ha, hL, g2.2 18 (by decide), g2.2 19 (by decide)]
        exact h5
      · unfold PtK
        rw [hp, g2.2 6 (by decide)]
        exact h6
      · unfold DrK txt
        rw [g2.2 0 (by decide), e4]
        exact h7
    have k1 : Kp u u1 := Kp.of g2 (by decide) (fun k _ => by rw [g2.2 50 (by decide)])
    obtain ⟨c2, k2⟩ := fin u1 c1 k1
    refine ⟨asM u (nI j), u1, wr u1 50 0 0, ?_, ?_, c2, k2⟩
    · rw [st_in F hj]
      simp only [Option.bind_some]
      rw [if_neg (by decide), g1]
      simp only [Option.bind_some]
    · rw [mst_in F hj]
      simp only [Option.bind_some]
      rw [if_neg (by decide), p_M_asked F (by omega) _ _ c2.1.2.1]
      simp only [Option.bind_some]
      rw [asM_congr (u := u1) (wr_ne _ (by decide)) (wr_ne _ (by decide)) (wr_ne _ (by decide)) (wr_ne _ (by decide)), g4]
theorem stp_all {a : Nat → Int32} {L : WL} (hG : GL L) : stp a L 4096 = stp a L L.length := by
  unfold stp
  rw [List.take_of_length_le hG.len, List.take_of_length_le (Nat.le_refl _)]
theorem stp_mono {a : Nat → Int32} {L : WL} {i : Nat} : ∀ d, ∃ M, stp a L (i + d) = stp a L i ++ M
  | 0 => ⟨[], by simp⟩
  | d + 1 => by
    obtain ⟨M, hM⟩ := stp_mono (a := a) (L := L) (i := i) d
    cases he : L[i + d]? with
    | none =>
      refine ⟨M, ?_⟩
      rw [← hM]
      unfold stp
      have hle := List.getElem?_eq_none_iff.mp he
      rw [List.take_of_length_le (by omega), List.take_of_length_le hle]
    | some e =>
      rw [show i + (d + 1) = i + d + 1 from rfl, stp_succ he]
      by_cases h0 : a e.1 = 0
      · rw [if_pos h0, hM]; exact ⟨M ++ [e.1], by rw [List.append_assoc]⟩
      · rw [if_neg h0]; exact ⟨M, hM⟩
theorem l_mstop (F : Nat) (hF : 5000 ≤ F) (x1 : Int32) {a : Nat → Int32} {L : WL} (hG : GL L) {u : St} (hw : WfM u) (ha : aF u = a) (hW : WM L u) : ∀ (d i k : Nat), i + d = L.length → d < k → (∀ c, c < (stp a L i).length → x1 ≠ nI c) → ∃ w, l_X12_stopOf_8 F x1 k (nI (stp a L i).length) (nI i) u = some w ∧ ((∃ c n, x1 = nI c ∧ (stp a L L.length)[c]? = some n ∧ w = .inl (nI n, u)) ∨ (w = .inr (nI (stp a L L.length).length, nI L.length, u) ∧ ∀ c, c < (stp a L L.length).length → x1 ≠ nI c))
  | d, i, 0, _, hk, _ => absurd hk (by omega)
  | d, i, k + 1, hd, hk, hn => by
    have hl := hG.len
    show ∃ w, b_X12_stopOf_8 F x1 (l_X12_stopOf_8 F x1 k) _ (nI i) u = _ ∧ _
    unfold b_X12_stopOf_8
    rw [hW.1]
    by_cases h0 : d = 0
    · have hi : i = L.length := by omega
      subst hi
      rw [if_pos (nI_le (Nat.le_refl _) (by omega))]
      exact ⟨_, rfl, Or.inr ⟨rfl, hn⟩⟩
    · obtain ⟨e, he⟩ : ∃ e, L[i]? = some e := ⟨_, List.getElem?_eq_getElem (show i < L.length by omega)⟩
      rw [if_neg (nI_ge (by omega) (by omega)), nI_clamp (by omega), if_neg (gin (by omega) (by decide)), (hW.2.1 i e.1 e.2 he).1, p_M_asked F (by omega) _ _ hw]
      simp only [Option.bind_some]
      rw [if_neg (gin (by omega) (by decide)), (hW.2.1 i e.1 e.2 he).1, show asM u (nI e.1) = a e.1 by rw [← ha]; rfl, nI_1, nI_1]
      have hs := stp_succ (a := a) he
      have hsl := stp_len a L i
      by_cases h1 : a e.1 = 0
      · rw [if_pos h1] at hs ⊢
        by_cases h2 : nI (stp a L i).length = x1
        · rw [if_pos h2]
          refine ⟨_, rfl, Or.inl ⟨(stp a L i).length, e.1, h2.symm, ?_, rfl⟩⟩
          obtain ⟨M, hM⟩ := stp_mono (a := a) (L := L) (i := i + 1) (L.length - (i + 1))
          rw [show i + 1 + (L.length - (i + 1)) = L.length by omega, hs] at hM
          rw [hM, List.append_assoc, List.getElem?_append_right (Nat.le_refl _), Nat.sub_self]
          rfl
        · rw [if_neg h2]
          have := l_mstop F hF x1 hG hw ha hW (d - 1) (i + 1) k (by omega) (by omega) (fun c hc => by
            rw [hs, List.length_append, List.length_singleton] at hc
            by_cases hcc : c = (stp a L i).length
            · rw [hcc]; exact Ne.symm h2
            · exact hn c (by omega))
          rw [hs, List.length_append, List.length_singleton] at this
          exact this
      · rw [if_neg h1] at hs ⊢
        have := l_mstop F hF x1 hG hw ha hW (d - 1) (i + 1) k (by omega) (by omega) (fun c hc => by
          rw [hs] at hc
          exact hn c hc)
        rw [hs] at this
        exact this
theorem p_mstopOf (F : Nat) (hF : 5000 ≤ F) {u : St} (h : CirI u) (x : Int32) : ∃ u', CirI u' ∧ Kp u u' ∧ ((∃ c n, x = nI c ∧ c < 4096 ∧ (stp (aF u) (LL u) 4096)[c]? = some n ∧ f_X12_stopOf F x u = some (nI n, u')) ∨ ((∀ c, c < (stp (aF u) (LL u) 4096).length → x ≠ nI c) ∧ f_X12_stopOf F x u = some (if 0 ≤ x then -1 else nI (stp (aF u) (LL u) 4096).length, u'))) := by
  obtain ⟨u2, b1, b2, b3, b4, b5, b6, b7, b8⟩ := p_mw F hF h
  have hl := h.gl.len
  obtain ⟨w, k1, k2⟩ := l_mstop F hF x h.gl b2.1.2.1 b3 b5 (LL u).length 0 F (by omega) (by omega) (fun c hc => by simp [stp] at hc)
  rw [show nI (stp (aF u) (LL u) 0).length = 0 from rfl, show nI 0 = 0 from rfl] at k1
  refine ⟨u2, b2, Kp.mw b6 b8, ?_⟩
  rw [stp_all h.gl]
  unfold f_X12_stopOf
  rw [b1]
  simp only [Option.bind_some]
  rw [k1]
  simp only [Option.bind_some]
  rcases k2 with ⟨c, n, q1, q2, q3⟩ | ⟨q1, q2⟩
  · left
    have := (List.getElem?_eq_some_iff.mp q2).1
    have := stp_len (aF u) (LL u) (LL u).length
    exact ⟨c, n, q1, by omega, q2, by rw [q3]; rfl⟩
  · right
    refine ⟨q2, ?_⟩
    rw [q1]
    show (if 0 ≤ x then _ else _) = _
    by_cases h0 : 0 ≤ x
    · rw [if_pos h0, if_pos h0]
    · rw [if_neg h0, if_neg h0]
/-- promise 13 -/
theorem op_stop (F : Nat) (hF : 5000 ≤ F) {u : St} (h : CirI u) (x : Int32) : ∃ r u1 u2, f_X11_stop F x u = some (r, u1) ∧ f_X12_stop F x u1 = some (r, u2) ∧ CirI u2 ∧ Kp u u2 := by
  obtain ⟨u1, a1, a2, a3, a4, a5, a6, a7, a8⟩ := p_ren F hF h
  have f : Fr [50] u1 (wr u1 50 0 0) := (Fr.rf _ u1).w (by decide)
  obtain ⟨c3, c4, c5⟩ := a2.fr f (by decide) (wr_nek _ (by decide))
  have kf : Kp u (wr u1 50 0 0) := (Kp.ren a8).tr (Kp.of f (by decide) (fun k hk => wr_nek _ (by rintro rfl; exact absurd hk (by decide))))
  unfold f_X11_stop f_X12_stop f_X10_stopAt
  rw [a1]
  simp only [Option.bind_some]
  rcases wl_ix x with hx | ⟨j, hj, rfl⟩
  · rw [if_pos hx]
    refine ⟨-1, u1, wr u1 50 0 0, rfl, ?_, c3, kf⟩
    rw [if_neg (fun q => absurd hx (by rw [Int32.not_lt]; exact q))]
  · rw [if_neg (nI_pos hj), a7.1]
    obtain ⟨u2, b1, b2, b3⟩ := p_mstopOf F hF c3 (nI j)
    rw [aF_eq c4, a3, c5, a4] at b3
    have hsl := stp_len (aF u) (LL u) 4096
    have hl := h.gl.len
    have h0j : (0 : Int32) ≤ nI j := nI_pos' hj
    by_cases hjl : (stp (aF u) (LL u) 4096).length ≤ j
    · rw [if_pos (nI_le hjl hj)]
      refine ⟨-1, u1, u2, rfl, ?_, b1, kf.tr b2⟩
      rw [if_pos h0j]
      rcases b3 with ⟨c, n, q1, q2, q3, q4⟩ | ⟨q1, q2⟩
      · have := (List.getElem?_eq_some_iff.mp q3).1
        have : j = c := nI_inj hj (by omega) q1
        omega
      · rw [q2, if_pos h0j]; rfl
    · rw [if_neg (nI_ge (by omega) (by omega)), nI_clamp hj, if_neg (gin (by omega) (by decide))]
      rcases b3 with ⟨c, n, q1, q2, q3, q4⟩ | ⟨q1, q2⟩
      · have hjc : j = c := nI_inj hj (by omega) q1
        subst hjc
        refine ⟨nI n, u1, u2, ?_, ?_, b1, kf.tr b2⟩
        · simp only [Option.bind_some]
          rw [a7.2 j n q3]
        · rw [if_pos h0j, q4]; rfl
      · exact absurd rfl (q1 j (by omega))
/-- each state but the first comes from one before it -/
def PL (L : WL) : Prop := ∀ (i n b : Nat), L[i]? = some (n, b) → b < 12 → ∃ (j c : Nat), j < i ∧ L[j]? = some (n ^^^ 2 ^ b, c)
theorem PL.e {L : WL} (h : PL L) {s j c x : Nat} (hs : L[j]? = some (s, c)) : PL (ent L (s ^^^ 2 ^ x) x) := by
  unfold ent
  by_cases hm : s ^^^ 2 ^ x ∈ L.map Prod.fst
  · rw [if_pos hm]; exact h
  · rw [if_neg hm]
    intro i n b hi hb
    by_cases hil : i < L.length
    · rw [List.getElem?_append_left hil] at hi
      obtain ⟨j2, c2, h1, h2⟩ := h i n b hi hb
      exact ⟨j2, c2, h1, by rw [List.getElem?_append_left (by omega)]; exact h2⟩
    · rw [List.getElem?_append_right (by omega)] at hi
      have hz : i - L.length < 1 := (List.getElem?_eq_some_iff.mp hi).1
      have hiL : i = L.length := by omega
      subst hiL
      rw [Nat.sub_self] at hi
      cases hi
      have hjl := (List.getElem?_eq_some_iff.mp hs).1
      exact ⟨j, c, hjl, by rw [xx2, List.getElem?_append_left hjl]; exact hs⟩
theorem PLgoF (v : Int32) {s j c : Nat} : ∀ (d x : Nat) (L : WL), L[j]? = some (s, c) → PL L → PL (goF v s d x L)
  | 0, _, _, _, h => h
  | d + 1, x, L, hs, h => by
    unfold goF
    by_cases hb : bt v x = true
    · rw [if_pos hb]
      obtain ⟨M, hM⟩ := ent_pre L (s ^^^ 2 ^ x) x
      refine PLgoF (j := j) (c := c) v d (x + 1) _ ?_ (h.e hs)
      rw [hM, List.getElem?_append_left (List.getElem?_eq_some_iff.mp hs).1]
      exact hs
    · rw [if_neg hb]
      exact PLgoF v d (x + 1) L hs h
theorem PLbf (a : Nat → Int32) (r : Nat) : ∀ i, PL (bf a r i)
  | 0 => fun i n b hi hb => by
    have hz := (List.getElem?_eq_some_iff.mp hi).1
    have l1 : (bf a r 0).length = 1 := rfl
    have : i = 0 := by omega
    subst this
    cases hi
    omega
  | i + 1 => by
    have ih := PLbf a r i
    unfold bf
    cases he : (bf a r i)[i]? with
    | none => exact ih
    | some e => exact PLgoF _ 12 0 _ he ih
def Ch (L : WL) : Nat → Nat → Nat → Prop
  | 0, n, n' => n' = n
  | t + 1, n, n' => ∃ (b i : Nat), b < 12 ∧ L[i]? = some (n, b) ∧ Ch L t (n ^^^ 2 ^ b) n'
theorem way_ex {L : WL} (hG : GL L) (hP : PL L) : ∀ (i n b : Nat), L[i]? = some (n, b) → ∃ m, m ≤ i ∧ (∃ (n' j : Nat), Ch L m n n' ∧ L[j]? = some (n', 12)) ∧ ∀ t, t < m → ∃ (n' b' j : Nat), Ch L t n n' ∧ L[j]? = some (n', b') ∧ b' < 12 := by
  intro i
  induction i using Nat.strongRecOn with
  | _ i ih =>
    intro n b hi
    by_cases hb : b < 12
    · obtain ⟨j, c, hj, hc⟩ := hP i n b hi hb
      obtain ⟨m, hm, ⟨n', j', q1, q2⟩, hq⟩ := ih j hj _ c hc
      refine ⟨m + 1, by omega, ⟨n', j', ⟨b, i, hb, hi, q1⟩, q2⟩, fun t ht => ?_⟩
      cases t with
      | zero => exact ⟨n, b, i, rfl, hi, hb⟩
      | succ t =>
        obtain ⟨n2, b2, j2, p1, p2, p3⟩ := hq t (by omega)
        exact ⟨n2, b2, j2, ⟨b, i, hb, hi, p1⟩, p2, p3⟩
    · have hb12 := (hG.2 _ (List.mem_of_getElem? hi)).2
      have hb2 : b = 12 := by
        have : b ≤ 12 := hb12
        omega
      exact ⟨0, Nat.zero_le _, ⟨n, i, rfl, by rw [hi, hb2]⟩, fun t ht => by omega⟩
theorem byI_nI {b : Nat} (h : b < 12) : byI b = nI b := by unfold byI; rw [if_neg (by omega)]
theorem l_wayL (F : Nat) {L : WL} (hG : GL L) {u : St} (hW : WC L u) : ∀ (m n n' j acc st k : Nat), Ch L m n n' → L[j]? = some (n', 12) → m < k → st + m < 4096 → ∃ y z, l_X10_wayLength_18 F k (nI acc) (nI n) (nI st) u = some (nI (acc + m), y, z, u)
  | m, n, n', j, acc, st, 0, _, _, hk, _ => absurd hk (by omega)
  | 0, n, n', j, acc, st, k + 1, hc, hj, _, hs => by
    have hc : n' = n := hc
    subst hc
    have hn := (hG.2 _ (List.mem_of_getElem? hj)).1
    show ∃ y z, b_X10_wayLength_18 F (l_X10_wayLength_18 F k) _ _ _ u = _
    unfold b_X10_wayLength_18
    rw [show (4096 : Int32) = nI 4096 from rfl, if_neg (nI_ge (show st < 4096 by omega) (by decide)), nI_clamp (by have : n' < 4096 := hn; omega), if_neg (gin hn (by decide)), (hW.2.1 j n' 12 hj).2.2, if_pos (show byI 12 = -1 from rfl)]
    exact ⟨_, _, rfl⟩
  | m + 1, n, n', j, acc, st, k + 1, ⟨b, i, hb, hi, hc⟩, hj, hk, hs => by
    have hn : n < 4096 := (hG.2 _ (List.mem_of_getElem? hi)).1
    show ∃ y z, b_X10_wayLength_18 F (l_X10_wayLength_18 F k) _ _ _ u = _
    unfold b_X10_wayLength_18
    rw [show (4096 : Int32) = nI 4096 from rfl, if_neg (nI_ge (show st < 4096 by omega) (by decide)), nI_clamp (by omega), if_neg (gin hn (by decide)), (hW.2.1 i n b hi).2.2, byI_nI hb, if_neg (nI_ne_m1 (by omega)), if_neg (gin hn (by decide)), xor_nI hn hb, nI_1, nI_1]
    obtain ⟨y, z, h⟩ := l_wayL F hG hW m (n ^^^ 2 ^ b) n' j (acc + 1) (st + 1) k hc hj (by omega) (by omega)
    exact ⟨y, z, by rw [h, show acc + 1 + m = acc + (m + 1) by omega]⟩
theorem l_mwayL (F : Nat) {L : WL} (hG : GL L) {u : St} (hW : WM L u) : ∀ (m n n' j acc k : Nat), Ch L m n n' → L[j]? = some (n', 12) → m < k → ∃ y, l_X12_wayLong_4 F k (nI acc) (nI n) u = some (nI (acc + m), y, u)
  | m, n, n', j, acc, 0, _, _, hk => absurd hk (by omega)
  | 0, n, n', j, acc, k + 1, hc, hj, _ => by
    have hc : n' = n := hc
    subst hc
    have hn : n' < 4096 := (hG.2 _ (List.mem_of_getElem? hj)).1
    show ∃ y, b_X12_wayLong_4 F (l_X12_wayLong_4 F k) _ _ u = _
    unfold b_X12_wayLong_4
    rw [nI_clamp (by omega), if_neg (gin hn (by decide)), (hW.2.1 j n' 12 hj).2.2.1 rfl, if_pos rfl]
    exact ⟨_, rfl⟩
  | m + 1, n, n', j, acc, k + 1, ⟨b, i, hb, hi, hc⟩, hj, hk => by
    have hn : n < 4096 := (hG.2 _ (List.mem_of_getElem? hi)).1
    have hx := x2_lt hn hb
    show ∃ y, b_X12_wayLong_4 F (l_X12_wayLong_4 F k) _ _ u = _
    unfold b_X12_wayLong_4
    rw [nI_clamp (by omega), if_neg (gin hn (by decide)), ((hW.2.1 i n b hi).2.2.2 hb).1, if_neg (nI_ne_m1 (by omega)), if_neg (gin hn (by decide)), nI_1]
    obtain ⟨y, h⟩ := l_mwayL F hG hW m (n ^^^ 2 ^ b) n' j (acc + 1) k hc hj (by omega)
    exact ⟨y, by rw [h, show acc + 1 + m = acc + (m + 1) by omega]⟩
theorem CirI.pl {u : St} (_ : CirI u) : PL (LL u) := PLbf _ _ _
/-- promise 14 -/
theorem op_way (F : Nat) (hF : 5000 ≤ F) {u : St} (h : CirI u) (x : Int32) : ∃ r u1 u2, f_X11_way F x u = some (r, u1) ∧ f_X12_way F x u1 = some (r, u2) ∧ CirI u2 ∧ Kp u u2 := by
  obtain ⟨u1, a1, a2, a3, a4, a5, a6, a7, a8⟩ := p_ren F hF h
  obtain ⟨u2, b1, b2, b3, b4, b5, b6, b7, b8⟩ := p_mw F hF a2
  have hk := (Kp.ren a8).tr (Kp.mw b6 b8)
  rw [a4] at b5
  have hG := h.gl
  have hl := hG.len
  unfold f_X11_way f_X12_way f_X10_wayLength
  rw [a1]
  simp only [Option.bind_some]
  rcases ix4096 x with hx | ⟨n, hn, rfl⟩
  · refine ⟨-1, u1, u2, ?_, ?_, b2, hk⟩
    · rw [p_placeOut F hx]; rfl
    · rw [b1]
      simp only [Option.bind_some]
      rw [mst_out F hx]; rfl
  · rw [p_placeOf F hn]
    simp only [Option.bind_some]
    by_cases hm : n ∈ (LL u).map Prod.fst
    · obtain ⟨i, b, hi⟩ := mem_fst hm
      have hil := (List.getElem?_eq_some_iff.mp hi).1
      obtain ⟨m, hm1, ⟨n', j, q1, q2⟩, _⟩ := way_ex hG h.pl i n b hi
      obtain ⟨y, z, k1⟩ := l_wayL F hG a6 m n n' j 0 0 F q1 q2 (by omega) (by omega)
      obtain ⟨y2, k2⟩ := l_mwayL F hG b5 m n n' j 0 F q1 q2 (by omega)
      rw [show nI 0 = 0 from rfl] at k1 k2
      refine ⟨nI (0 + m), u1, u2, ?_, ?_, b2, hk⟩
      · rw [(a6.2.1 i n b hi).2.1, if_neg (nI_ne_m1 (by omega)), k1]
        rfl
      · rw [b1]
        simp only [Option.bind_some]
        rw [mst_in F hn]
        simp only [Option.bind_some]
        rw [if_neg (by decide), nI_clamp (by omega), if_neg (gin hn (by decide)), (b5.2.1 i n b hi).2.1, if_neg (nI_ne_m1 (by omega))]
        unfold f_X12_wayLong
        rw [k2]
        rfl
    · refine ⟨-1, u1, u2, ?_, ?_, b2, hk⟩
      · rw [a6.2.2 n hn hm, if_pos rfl]
        rfl
      · rw [b1]
        simp only [Option.bind_some]
        rw [mst_in F hn]
        simp only [Option.bind_some]
        rw [if_neg (by decide), nI_clamp (by omega), if_neg (gin hn (by decide)), b5.2.2 n hn hm, if_pos rfl]
theorem l_waySt (F : Nat) {L : WL} (hG : GL L) {u : St} (hW : WC L u) {p : Nat} (hp : p < 4096) : ∀ (t n n' k : Nat), Ch L t n n' → t < k → t < 4096 → l_X10_wayStep_25 F (nI p) k (nI n) (nI (p + t)) u = some (nI n', nI p, u)
  | t, n, n', 0, _, hk, _ => absurd hk (by omega)
  | 0, n, n', k + 1, hc, _, _ => by
    have hc : n' = n := hc
    subst hc
    show b_X10_wayStep_25 F (nI p) (l_X10_wayStep_25 F (nI p) k) _ _ u = _
    unfold b_X10_wayStep_25
    rw [if_pos (nI_le (by omega) (by omega))]
    rfl
  | t + 1, n, n', k + 1, ⟨b, i, hb, hi, hc⟩, hk, ht => by
    have hn : n < 4096 := (hG.2 _ (List.mem_of_getElem? hi)).1
    show b_X10_wayStep_25 F (nI p) (l_X10_wayStep_25 F (nI p) k) _ _ u = _
    unfold b_X10_wayStep_25
    rw [if_neg (nI_ge (by omega) (by omega)), nI_clamp (by omega), if_neg (gin hn (by decide)), (hW.2.1 i n b hi).2.2, byI_nI hb, xor_nI hn hb, show p + (t + 1) = p + t + 1 from rfl, pk_m1]
    exact l_waySt F hG hW hp t _ n' k hc (by omega) (by omega)
theorem l_mwaySt (F : Nat) {L : WL} (hG : GL L) {u : St} (hW : WM L u) {p : Nat} (hp : p < 4096) : ∀ (t n n' k : Nat), Ch L t n n' → t < k → t < 4096 → l_X12_change_47 F (nI p) k (nI n) (nI (p + t)) u = some (nI n', nI p, u)
  | t, n, n', 0, _, hk, _ => absurd hk (by omega)
  | 0, n, n', k + 1, hc, _, _ => by
    have hc : n' = n := hc
    subst hc
    show b_X12_change_47 F (nI p) (l_X12_change_47 F (nI p) k) _ _ u = _
    unfold b_X12_change_47
    rw [if_pos (nI_le (by omega) (by omega))]
    rfl
  | t + 1, n, n', k + 1, ⟨b, i, hb, hi, hc⟩, hk, ht => by
    have hn : n < 4096 := (hG.2 _ (List.mem_of_getElem? hi)).1
    show b_X12_change_47 F (nI p) (l_X12_change_47 F (nI p) k) _ _ u = _
    unfold b_X12_change_47
    rw [if_neg (nI_ge (by omega) (by omega)), nI_clamp (by omega), if_neg (gin hn (by decide)), ((hW.2.1 i n b hi).2.2.2 hb).1, show p + (t + 1) = p + t + 1 from rfl, pk_m1]
    exact l_mwaySt F hG hW hp t _ n' k hc (by omega) (by omega)
/-- promise 15 -/
theorem op_change (F : Nat) (hF : 5000 ≤ F) {u : St} (h : CirI u) (x y : Int32) : ∃ r u1 u2, f_X11_change F x y u = some (r, u1) ∧ f_X12_change F x y u1 = some (r, u2) ∧ CirI u2 ∧ Kp u u2 := by
  obtain ⟨u1, a1, a2, a3, a4, a5, a6, a7, a8⟩ := p_ren F hF h
  obtain ⟨u2, b1, b2, b3, b4, b5, b6, b7, b8⟩ := p_mw F hF a2
  have hk := (Kp.ren a8).tr (Kp.mw b6 b8)
  rw [a4] at b5
  have hG := h.gl
  have hl := hG.len
  unfold f_X11_change f_X12_change f_X10_wayStep f_X10_wayLength
  rw [a1]
  simp only [Option.bind_some]
  have none1 : ∀ w : St, (if y < 0 then some ((-1 : Int32), w) else if y < (-1 : Int32) then (Option.bind (l_X10_wayStep_25 F y F x ((-1 : Int32) - (1 : Int32)) w) (fun w7 => (if w7.1 < 0 ∨ 4096 ≤ w7.1.toNatClampNeg then none else some ((w7.2.2.1 14 w7.1.toNatClampNeg), w7.2.2)))) else some ((-1 : Int32), w)) = some (-1, w) := fun w => by
    by_cases hy : y < 0
    · rw [if_pos hy]
    · rw [if_neg hy, if_neg]
      intro q
      exact hy (Int32.lt_trans q (by decide))
  rcases ix4096 x with hx | ⟨n, hn, rfl⟩
  · refine ⟨-1, u1, u2, ?_, ?_, b2, hk⟩
    · rw [p_placeOut F hx]
      simp only [Option.bind_some]
      rw [if_pos trivial]
      simp only [Option.bind_some]
      rw [none1]
      simp only [Option.bind_some]
    · rw [b1]
      simp only [Option.bind_some]
      rw [mst_out F hx]; rfl
  · rw [p_placeOf F hn]
    simp only [Option.bind_some]
    by_cases hm : n ∈ (LL u).map Prod.fst
    · obtain ⟨i, b, hi⟩ := mem_fst hm
      have hil := (List.getElem?_eq_some_iff.mp hi).1
      obtain ⟨m, hm1, ⟨n', j, q1, q2⟩, q3⟩ := way_ex hG h.pl i n b hi
      obtain ⟨y1, z1, k1⟩ := l_wayL F hG a6 m n n' j 0 0 F q1 q2 (by omega) (by omega)
      obtain ⟨y2, k2⟩ := l_mwayL F hG b5 m n n' j 0 F q1 q2 (by omega)
      rw [show nI 0 = 0 from rfl, Nat.zero_add] at k1 k2
      rw [(a6.2.1 i n b hi).2.1, if_neg (nI_ne_m1 (by omega)), k1]
      simp only [Option.bind_some]
      have hwl : f_X12_wayLong F (nI n) u2 = some (nI m, u2) := by
        unfold f_X12_wayLong
        rw [k2]
        rfl
      by_cases hy : y < 0
      · rw [if_pos hy]
        refine ⟨-1, u1, u2, by simp only [Option.bind_some], ?_, b2, hk⟩
        rw [b1]
        simp only [Option.bind_some]
        rw [mst_in F hn]
        simp only [Option.bind_some]
        rw [if_neg (by decide), nI_clamp (by omega), if_neg (gin hn (by decide)), (b5.2.1 i n b hi).2.1, if_neg (nI_ne_m1 (by omega)), if_pos hy]
      · obtain ⟨p, hp, rfl⟩ := nI_of hy
        rw [if_neg hy]
        by_cases hpm : p < m
        · rw [if_pos (nI_lt hpm (by omega)), show nI m - (1 : Int32) = nI (p + (m - 1 - p)) by
            rw [show (1 : Int32) = nI 1 from rfl, pk_sub (by omega), show p + (m - 1 - p) = m - 1 by omega]]
          obtain ⟨n2, b9, j2, p1, p2, p3⟩ := q3 (m - 1 - p) (by omega)
          have hn2 : n2 < 4096 := (hG.2 _ (List.mem_of_getElem? p2)).1
          rw [l_waySt F hG a6 (by omega) (m - 1 - p) n n2 F p1 (by omega) (by omega)]
          simp only [Option.bind_some]
          rw [nI_clamp (by omega), if_neg (gin hn2 (by decide)), (a6.2.1 j2 n2 b9 p2).2.2, byI_nI p3]
          refine ⟨nI b9, u1, u2, by simp only [Option.bind_some], ?_, b2, hk⟩
          rw [b1]
          simp only [Option.bind_some]
          rw [mst_in F hn]
          simp only [Option.bind_some]
          rw [if_neg (by decide), nI_clamp (by omega), if_neg (gin hn (by decide)), (b5.2.1 i n b hi).2.1, if_neg (nI_ne_m1 (by omega)), if_neg hy, hwl]
          simp only [Option.bind_some]
          rw [if_pos (nI_lt hpm (by omega)), hwl]
          simp only [Option.bind_some]
          rw [show nI m - (1 : Int32) = nI (p + (m - 1 - p)) by
            rw [show (1 : Int32) = nI 1 from rfl, pk_sub (by omega), show p + (m - 1 - p) = m - 1 by omega], l_mwaySt F hG b5 (by omega) (m - 1 - p) n n2 F p1 (by omega) (by omega)]
          simp only [Option.bind_some]
          rw [nI_clamp (by omega), if_neg (gin hn2 (by decide)), ((b5.2.1 j2 n2 b9 p2).2.2.2 p3).2]
        · rw [if_neg (nI_nlt (by omega) hp)]
          refine ⟨-1, u1, u2, by simp only [Option.bind_some], ?_, b2, hk⟩
          rw [b1]
          simp only [Option.bind_some]
          rw [mst_in F hn]
          simp only [Option.bind_some]
          rw [if_neg (by decide), nI_clamp (by omega), if_neg (gin hn (by decide)), (b5.2.1 i n b hi).2.1, if_neg (nI_ne_m1 (by omega)), if_neg hy, hwl]
          simp only [Option.bind_some]
          rw [if_neg (nI_nlt (by omega) hp)]
    · refine ⟨-1, u1, u2, ?_, ?_, b2, hk⟩
      · rw [a6.2.2 n hn hm, if_pos rfl]
        simp only [Option.bind_some]
        rw [none1]
        simp only [Option.bind_some]
      · rw [b1]
        simp only [Option.bind_some]
        rw [mst_in F hn]
        simp only [Option.bind_some]
        rw [if_neg (by decide), nI_clamp (by omega), if_neg (gin hn (by decide)), b5.2.2 n hn hm, if_pos rfl]
