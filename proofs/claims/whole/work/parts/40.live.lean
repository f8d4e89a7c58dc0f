/-! live signals: the system's side -/
theorem sub_len : ∀ (l1 l2 : List Nat), l1.Nodup → (∀ x ∈ l1, x ∈ l2) → l1.length ≤ l2.length
  | [], _, _, _ => Nat.zero_le _
  | x :: t, l2, hd, hs => by
    have hx := hs x List.mem_cons_self
    have hn := List.nodup_cons.mp hd
    have h1 := sub_len t (l2.erase x) hn.2 (fun z hz => (List.mem_erase_of_ne (fun e => hn.1 (by rw [← e]; exact hz))).mpr (hs z (List.mem_cons_of_mem _ hz)))
    rw [List.length_erase_of_mem hx] at h1
    have : 0 < l2.length := List.length_pos_of_mem hx
    rw [List.length_cons]
    omega
theorem sub_all {l1 l2 : List Nat} (hd : l1.Nodup) (hs : ∀ x ∈ l1, x ∈ l2) (hl : l1.length = l2.length) : ∀ x ∈ l2, x ∈ l1 := by
  intro x hx
  by_cases h : x ∈ l1
  · exact h
  · have := sub_len (x :: l1) l2 (List.nodup_cons.mpr ⟨h, hd⟩) (fun z hz => by
      rcases List.mem_cons.mp hz with e | e
      · rw [e]; exact hx
      · exact hs z e)
    rw [List.length_cons] at this
    omega
theorem ent_mem (L : WL) (t x : Nat) : t ∈ (ent L t x).map Prod.fst := by
  unfold ent
  by_cases h : t ∈ L.map Prod.fst
  · rw [if_pos h]; exact h
  · rw [if_neg h]; simp
theorem goF_mem (v : Int32) (s : Nat) : ∀ (d x : Nat) (L : WL) (y : Nat), x ≤ y → y < x + d → bt v y = true → s ^^^ 2 ^ y ∈ (goF v s d x L).map Prod.fst
  | 0, x, L, y, h1, h2, _ => by omega
  | d + 1, x, L, y, h1, h2, hb => by
    unfold goF
    by_cases hxy : x = y
    · subst hxy
      rw [if_pos hb]
      obtain ⟨M, hM⟩ := goF_pre v s d (x + 1) (ent L (s ^^^ 2 ^ x) x)
      rw [hM, List.map_append]
      exact List.mem_append_left _ (ent_mem L _ x)
    · exact goF_mem v s d (x + 1) _ y (by omega) (by omega) hb
/-- what is asked in a state of the walk leads to one of the walk -/
theorem bf_clos {a : Nat → Int32} {r : Nat} (hr : r < 4096) {s y : Nat} (hs : s ∈ (bfE a r).map Prod.fst) (hy : y < 12) (hb : bt (a s) y = true) : s ^^^ 2 ^ y ∈ (bfE a r).map Prod.fst := by
  obtain ⟨i, b, hi⟩ := mem_fst hs
  have hG := GLbf (a := a) hr 4096
  have hl := hG.len
  have hil : i < (bfE a r).length := (List.getElem?_eq_some_iff.mp hi).1
  have hil2 : i < (bf a r 4096).length := hil
  have hlen : i < (bf a r i).length := by
    rcases Nat.lt_or_ge i (bf a r i).length with q | q
    · exact q
    · have := bfE_at (a := a) (r := r) (show i ≤ 4096 by omega) q
      rw [this] at hil
      omega
  obtain ⟨M, hM⟩ := bf_le a r i (4096 - i)
  rw [show i + (4096 - i) = 4096 by omega] at hM
  have hi2 : (bf a r i)[i]? = some (s, b) := by
    have h9 : (bf a r 4096)[i]? = some (s, b) := hi
    rw [hM, List.getElem?_append_left hlen] at h9
    exact h9
  have hb1 : bf a r (i + 1) = goF (a s) s 12 0 (bf a r i) := by
    show (match (bf a r i)[i]? with | none => bf a r i | some e => goF (a e.1) e.1 12 0 (bf a r i)) = _
    rw [hi2]
  have hm := goF_mem (a s) s 12 0 (bf a r i) y (by omega) (by omega) hb
  rw [← hb1] at hm
  obtain ⟨M2, hM2⟩ := bf_le a r (i + 1) (4096 - (i + 1))
  rw [show i + 1 + (4096 - (i + 1)) = 4096 by omega] at hM2
  unfold bfE
  rw [hM2, List.map_append]
  exact List.mem_append_left _ hm
theorem CirI.clos {u : St} (h : CirI u) {s y : Nat} (hs : s ∈ (LL u).map Prod.fst) (hy : y < 12) (hb : bt (aF u s) y = true) : s ^^^ 2 ^ y ∈ (LL u).map Prod.fst := by
  obtain ⟨r, r1, r2, r3⟩ := h.2.1
  exact bf_clos (by unfold rsN; rw [r2, nI_clamp (by omega)]; exact r1) hs hy hb
def QR (Q : List Nat) (u : St) : Prop := u.1 18 4 = nI Q.length ∧ (∀ i n, Q[i]? = some n → u.1 20 i = nI n) ∧ ∀ n, n < 4096 → u.1 19 n = if n ∈ Q then 1 else 0
def GQ (a : Nat → Int32) (L : WL) (x : Nat) (Q : List Nat) : Prop := Q.Nodup ∧ ∀ n ∈ Q, n ∈ L.map Prod.fst ∧ Lds a x n
def adQ (Q : List Nat) (n : Nat) : List Nat := if n ∈ Q then Q else Q ++ [n]
theorem adQ_mem (Q : List Nat) (n : Nat) : n ∈ adQ Q n := by
  unfold adQ
  by_cases h : n ∈ Q
  · rw [if_pos h]; exact h
  · rw [if_neg h]; simp
theorem adQ_pre (Q : List Nat) (n : Nat) : ∃ M, adQ Q n = Q ++ M := by
  unfold adQ
  by_cases h : n ∈ Q
  · exact ⟨[], by rw [if_pos h]; simp⟩
  · exact ⟨[n], by rw [if_neg h]⟩
theorem GQ.ad {a : Nat → Int32} {L : WL} {x : Nat} {Q : List Nat} (h : GQ a L x Q) {n : Nat} (h1 : n ∈ L.map Prod.fst) (h2 : Lds a x n) : GQ a L x (adQ Q n) := by
  unfold adQ
  by_cases hm : n ∈ Q
  · rw [if_pos hm]; exact h
  · rw [if_neg hm]
    refine ⟨List.nodup_append.mpr ⟨h.1, by simp, fun p hp q hq => ?_⟩, fun m hm2 => ?_⟩
    · rw [List.mem_singleton.mp hq]
      exact fun e => hm (by rw [← e]; exact hp)
    · rcases List.mem_append.mp hm2 with q | q
      · exact h.2 m q
      · rw [List.mem_singleton.mp q]; exact ⟨h1, h2⟩
theorem GQ.len {a : Nat → Int32} {L : WL} {x : Nat} {Q : List Nat} (h : GQ a L x Q) : Q.length ≤ L.length := by
  have := sub_len Q (L.map Prod.fst) h.1 (fun n hn => (h.2 n hn).1)
  simpa using this
theorem nar1 : vp_nar .boolean 1 = 1 := by decide
theorem nar0 : vp_nar .boolean 0 = 0 := by decide
theorem p_find (F : Nat) {a : Nat → Int32} {L : WL} (hG : GL L) {x : Nat} {Q : List Nat} {u : St} (hQ : QR Q u) (hg : GQ a L x Q) {n : Nat} (hn : n < 4096) (h1 : n ∈ L.map Prod.fst) (h2 : Lds a x n) : ∃ u', f_X3_find F (nI n) u = some u' ∧ QR (adQ Q n) u' ∧ Fr [18, 19, 20] u u' ∧ ∀ k, k ≠ 4 → u'.1 18 k = u.1 18 k := by
  obtain ⟨q1, q2, q3⟩ := hQ
  have hl := hG.len
  have hgl := hg.len
  unfold f_X3_find
  rw [nI_clamp (by omega), if_neg (gin hn (by decide)), q3 n hn]
  unfold adQ
  by_cases hm : n ∈ Q
  · rw [if_pos hm, if_neg (by decide), if_pos hm]
    exact ⟨u, rfl, ⟨q1, q2, q3⟩, Fr.rf _ _, fun _ _ => rfl⟩
  · have hg2 := (hg.ad h1 h2).len
    unfold adQ at hg2
    rw [if_neg hm, List.length_append, List.length_singleton] at hg2
    rw [if_neg hm, if_pos rfl, q1, show (4096 : Int32) = nI 4096 from rfl, if_neg (nI_ge (show Q.length < 4096 by omega) (by decide)), if_neg (gin hn (by decide)), nar1, if_neg hm]
    have e1 : (wr u 19 n 1).1 18 4 = nI Q.length := by rw [wr_ne _ (by decide), q1]
    rw [e1, nI_clamp (by omega), if_neg (gin (show Q.length < 4096 by omega) (by decide))]
    have e2 : (wr (wr u 19 n 1) 20 Q.length (nI n)).1 18 4 = nI Q.length := by rw [wr_ne _ (by decide), e1]
    rw [e2, nI_1]
    refine ⟨_, rfl, ⟨?_, ?_, ?_⟩, (((Fr.rf _ u).w (by decide)).w (by decide)).w (by decide), fun k hk => ?_⟩
    · rw [wr_eq, List.length_append, List.length_singleton]
    · intro i m hi
      rw [wr_ne _ (by decide)]
      by_cases hil : i < Q.length
      · rw [List.getElem?_append_left hil] at hi
        rw [wr_nek _ (by omega), wr_ne _ (by decide)]
        exact q2 i m hi
      · rw [List.getElem?_append_right (by omega)] at hi
        have hz : i - Q.length < 1 := (List.getElem?_eq_some_iff.mp hi).1
        have hiL : i = Q.length := by omega
        subst hiL
        rw [Nat.sub_self] at hi
        cases hi
        rw [wr_eq]
    · intro m hm2
      rw [wr_ne _ (by decide), wr_ne _ (by decide)]
      by_cases hmn : m = n
      · subst hmn
        rw [wr_eq, if_pos (by simp)]
      · rw [wr_nek _ hmn, q3 m hm2]
        have : (m ∈ Q ++ [n]) ↔ m ∈ Q := by simp [hmn]
        by_cases hmq : m ∈ Q
        · rw [if_pos hmq, if_pos (this.mpr hmq)]
        · rw [if_neg hmq, if_neg (fun z => hmq (this.mp z))]
    · rw [wr_nek _ hk, wr_ne _ (by decide), wr_ne _ (by decide)]
theorem QR.fr {Q : List Nat} {u v : St} (h : QR Q u) (h4 : v.1 18 4 = u.1 18 4) (h19 : v.1 19 = u.1 19) (h20 : v.1 20 = u.1 20) : QR Q v := by
  unfold QR
  rw [h4, h19, h20]
  exact h
/-- what stays while the queue grows -/
def LvS (a : Nat → Int32) (L : WL) (u u' : St) : Prop := CirK u' ∧ asM u' = asM u ∧ Fr [5, 18, 19, 20] u u' ∧ (∀ k, k ≠ 4 → u'.1 18 k = u.1 18 k)
theorem LvS.rf {a : Nat → Int32} {L : WL} {u : St} (h : CirK u) : LvS a L u u := ⟨h, rfl, Fr.rf _ _, fun _ _ => rfl⟩
theorem LvS.tr {a : Nat → Int32} {L : WL} {u v w : St} (h : LvS a L u v) (g : LvS a L v w) : LvS a L u w := ⟨g.1, g.2.1.trans h.2.1, h.2.2.1.tr g.2.2.1, fun k hk => (g.2.2.2 k hk).trans (h.2.2.2 k hk)⟩
theorem WC.lv {L : WL} {u v : St} (h : WC L u) (hf : Fr [5, 18, 19, 20] u v) : WC L v := h.congr (by rw [hf.2 11 (by decide)]) (hf.2 12 (by decide)) (hf.2 13 (by decide)) (hf.2 14 (by decide))
theorem p_findL (F : Nat) {a : Nat → Int32} {L : WL} (hG : GL L) {x : Nat} {Q : List Nat} {u : St} (hc : CirK u) (hQ : QR Q u) (hg : GQ a L x Q) {n : Nat} (hn : n < 4096) (h1 : n ∈ L.map Prod.fst) (h2 : Lds a x n) : ∃ u', f_X3_find F (nI n) u = some u' ∧ QR (adQ Q n) u' ∧ LvS a L u u' := by
  obtain ⟨u', g1, g2, g3, g4⟩ := p_find F hG hQ hg hn h1 h2
  obtain ⟨c, m⟩ := hc.fr g3 (by decide)
  exact ⟨u', g1, g2, c, m, g3.mono (by intro q hq; simp at hq ⊢; omega), g4⟩
theorem p_askL (F : Nat) (hF : 200 ≤ F) {a : Nat → Int32} {L : WL} {Q : List Nat} {u : St} (hc : CirK u) (ha : aF u = a) (hQ : QR Q u) {n : Nat} (hn : n < 4096) : ∃ u', f_X0_askedIn F (nI n) u = some (a n, u') ∧ QR Q u' ∧ LvS a L u u' := by
  obtain ⟨u1, g1, g2, g3, g4⟩ := p_asked F hF hn u hc
  rw [show asM u (nI n) = a n by rw [← ha]; rfl] at g1
  exact ⟨u1, g1, hQ.fr (by rw [g2.2 18 (by decide)]) (g2.2 19 (by decide)) (g2.2 20 (by decide)), g3, g4, g2.mono (by intro q hq; simp at hq ⊢; omega), fun k _ => by rw [g2.2 18 (by decide)]⟩
theorem l_lv7 (F : Nat) (hF : 5000 ≤ F) {a : Nat → Int32} {L : WL} (hG : GL L) {x : Nat} (hx : x < 12) : ∀ (d i k : Nat) (u : St) (Q : List Nat), i + d = L.length → d < k → CirK u → aF u = a → WC L u → QR Q u → GQ a L x Q → (∀ j e, j < i → L[j]? = some e → bt (a e.1) x = true → e.1 ∈ Q) → ∃ Q' u', l_X3_leadsThereFromAll_7 F (nI x) k (nI i) u = some (nI L.length, u') ∧ QR Q' u' ∧ GQ a L x Q' ∧ (∀ j e, j < L.length → L[j]? = some e → bt (a e.1) x = true → e.1 ∈ Q') ∧ LvS a L u u'
  | d, i, 0, _, _, _, hk, _, _, _, _, _, _ => absurd hk (by omega)
  | d, i, k + 1, u, Q, hd, hk, hc, ha, hW, hQ, hg, hp => by
    have hl := hG.len
    show ∃ Q' u', b_X3_leadsThereFromAll_7 F (nI x) (l_X3_leadsThereFromAll_7 F (nI x) k) _ u = _ ∧ _
    unfold b_X3_leadsThereFromAll_7
    rw [show f_X10_size F u = some (u.1 11 5, u) from rfl]
    simp only [Option.bind_some]
    rw [hW.1]
    by_cases h0 : d = 0
    · have : i = L.length := by omega
      subst this
      rw [if_pos (nI_le (Nat.le_refl _) (by omega))]
      exact ⟨Q, u, rfl, hQ, hg, hp, LvS.rf hc⟩
    · obtain ⟨e, he⟩ : ∃ e, L[i]? = some e := ⟨_, List.getElem?_eq_getElem (show i < L.length by omega)⟩
      have hes := (hG.2 e (List.mem_of_getElem? he)).1
      rw [if_neg (nI_ge (by omega) (by omega)), p_stateAt F hG hW he]
      simp only [Option.bind_some]
      obtain ⟨u1, g1, g2, g3⟩ := p_askL F (by omega) (L := L) hc ha hQ hes
      rw [g1]
      simp only [Option.bind_some]
      rw [p_isIn F _ (by omega)]
      simp only [Option.bind_some, nI_1]
      have ha1 : aF u1 = a := by rw [aF_eq g3.2.1]; exact ha
      cases hb : bt (a e.1) x with
      | false =>
        rw [if_pos (by simp [b2i])]
        obtain ⟨Q2, u2, k1, k2, k3, k4, k5⟩ := l_lv7 F hF hG hx (d - 1) (i + 1) k u1 Q (by omega) (by omega) g3.1 ha1 (hW.lv g3.2.2.1) g2 hg (fun j e2 hj he2 hb2 => by
          by_cases hji : j = i
          · subst hji
            rw [he] at he2
            cases he2
            rw [hb] at hb2
            cases hb2
          · exact hp j e2 (by omega) he2 hb2)
        exact ⟨Q2, u2, k1, k2, k3, k4, g3.tr k5⟩
      | true =>
        rw [if_neg (by simp [b2i])]
        have hme : e.1 ∈ L.map Prod.fst := List.mem_map.mpr ⟨e, List.mem_of_getElem? he, rfl⟩
        obtain ⟨u2, m1, m2, m3⟩ := p_findL F hG g3.1 g2 hg hes hme ⟨0, hb⟩
        rw [m1]
        simp only [Option.bind_some]
        obtain ⟨M, hM⟩ := adQ_pre Q e.1
        obtain ⟨Q2, u3, k1, k2, k3, k4, k5⟩ := l_lv7 F hF hG hx (d - 1) (i + 1) k u2 (adQ Q e.1) (by omega) (by omega) m3.1 (by rw [aF_eq m3.2.1]; exact ha1) ((hW.lv g3.2.2.1).lv m3.2.2.1) m2 (hg.ad hme ⟨0, hb⟩) (fun j e2 hj he2 hb2 => by
          by_cases hji : j = i
          · subst hji
            rw [he] at he2
            cases he2
            exact adQ_mem Q e.1
          · rw [hM]
            exact List.mem_append_left _ (hp j e2 (by omega) he2 hb2))
        exact ⟨Q2, u3, k1, k2, k3, k4, (g3.tr m3).tr k5⟩
theorem lead_up {a : Nat → Int32} {x : Nat} {s y : Nat} (hy : y < 12) (hb : bt (a (s ^^^ 2 ^ y)) y = true) (h : Lds a x s) : Lds a x (s ^^^ 2 ^ y) := by
  obtain ⟨n, hn⟩ := h
  exact ⟨n + 1, Or.inr ⟨y, hy, hb, by rw [xx2]; exact hn⟩⟩
theorem l_back (F : Nat) (hF : 5000 ≤ F) {a : Nat → Int32} {L : WL} (hG : GL L) {x n : Nat} (hn : n < 4096) (hl : Lds a x n) : ∀ (d y k : Nat) (u : St) (Q : List Nat), y + d = 12 → d < k → CirK u → aF u = a → WC L u → QR Q u → GQ a L x Q → (∀ z, z < y → n ^^^ 2 ^ z ∈ L.map Prod.fst → bt (a (n ^^^ 2 ^ z)) z = true → n ^^^ 2 ^ z ∈ Q) → ∃ M u', l_X3_goBackFrom_2 F (nI n) k (nI y) u = some (nI 12, u') ∧ QR (Q ++ M) u' ∧ GQ a L x (Q ++ M) ∧ (∀ z, z < 12 → n ^^^ 2 ^ z ∈ L.map Prod.fst → bt (a (n ^^^ 2 ^ z)) z = true → n ^^^ 2 ^ z ∈ Q ++ M) ∧ LvS a L u u'
  | d, y, 0, _, _, _, hk, _, _, _, _, _, _ => absurd hk (by omega)
  | d, y, k + 1, u, Q, hd, hk, hc, ha, hW, hQ, hg, hp => by
    show ∃ M u', b_X3_goBackFrom_2 F (nI n) (l_X3_goBackFrom_2 F (nI n) k) _ u = _ ∧ _
    unfold b_X3_goBackFrom_2
    rw [show (12 : Int32) = nI 12 from rfl]
    by_cases h0 : d = 0
    · rw [if_pos (nI_le (by omega) (by omega)), show y = 12 by omega]
      exact ⟨[], u, rfl, by simpa using hQ, by simpa using hg, fun z hz h1 h2 => by simpa using hp z (by omega) h1 h2, LvS.rf hc⟩
    · have hy : y < 12 := by omega
      have hb4 := x2_lt hn hy
      have hlen := hG.len
      rw [if_neg (nI_ge hy (by decide)), xor_nI hn hy, p_placeOf F hb4]
      simp only [Option.bind_some, nI_1]
      by_cases hm : n ^^^ 2 ^ y ∈ L.map Prod.fst
      · obtain ⟨i, b, hi⟩ := mem_fst hm
        have hil := (List.getElem?_eq_some_iff.mp hi).1
        rw [(hW.2.1 i _ b hi).2.1, if_neg (nI_ne_m1 (by omega))]
        obtain ⟨u1, g1, g2, g3⟩ := p_askL F (by omega) (L := L) hc ha hQ hb4
        rw [g1]
        simp only [Option.bind_some]
        rw [p_isIn F _ (by omega)]
        simp only [Option.bind_some]
        have ha1 : aF u1 = a := by rw [aF_eq g3.2.1]; exact ha
        cases hb : bt (a (n ^^^ 2 ^ y)) y with
        | false =>
          rw [if_pos (by simp [b2i])]
          obtain ⟨M, u2, k1, k2, k3, k4, k5⟩ := l_back F hF hG hn hl (d - 1) (y + 1) k u1 Q (by omega) (by omega) g3.1 ha1 (hW.lv g3.2.2.1) g2 hg (fun z hz h1 h2 => by
            by_cases hzy : z = y
            · subst hzy
              rw [hb] at h2
              cases h2
            · exact hp z (by omega) h1 h2)
          exact ⟨M, u2, k1, k2, k3, k4, g3.tr k5⟩
        | true =>
          rw [if_neg (by simp [b2i])]
          have hld := lead_up hy hb hl
          obtain ⟨u2, m1, m2, m3⟩ := p_findL F hG g3.1 g2 hg hb4 hm hld
          rw [m1]
          simp only [Option.bind_some]
          obtain ⟨M0, hM0⟩ := adQ_pre Q (n ^^^ 2 ^ y)
          obtain ⟨M, u3, k1, k2, k3, k4, k5⟩ := l_back F hF hG hn hl (d - 1) (y + 1) k u2 (adQ Q (n ^^^ 2 ^ y)) (by omega) (by omega) m3.1 (by rw [aF_eq m3.2.1]; exact ha1) ((hW.lv g3.2.2.1).lv m3.2.2.1) m2 (hg.ad hm hld) (fun z hz h1 h2 => by
            by_cases hzy : z = y
            · subst hzy
              exact adQ_mem Q _
            · rw [hM0]
              exact List.mem_append_left _ (hp z (by omega) h1 h2))
          rw [hM0, List.append_assoc] at k2 k3 k4
          exact ⟨M0 ++ M, u3, k1, k2, k3, k4, (g3.tr m3).tr k5⟩
      · rw [hW.2.2 _ hb4 hm, if_pos rfl]
        exact l_back F hF hG hn hl (d - 1) (y + 1) k u Q (by omega) (by omega) hc ha hW hQ hg (fun z hz h1 h2 => by
          by_cases hzy : z = y
          · subst hzy
            exact absurd h1 hm
          · exact hp z (by omega) h1 h2)
theorem l_lv55 (F : Nat) (hF : 5000 ≤ F) {a : Nat → Int32} {L : WL} (hG : GL L) {x : Nat} : ∀ (d i k : Nat) (u : St) (Q : List Nat), i + d = 4096 → d < k → CirK u → aF u = a → WC L u → QR Q u → GQ a L x Q → (∀ j n, j < i → Q[j]? = some n → ∀ z, z < 12 → n ^^^ 2 ^ z ∈ L.map Prod.fst → bt (a (n ^^^ 2 ^ z)) z = true → n ^^^ 2 ^ z ∈ Q) → ∃ M w u', l_X3_leadsThereFromAll_55 F k (nI i) u = some (w, u') ∧ QR (Q ++ M) u' ∧ GQ a L x (Q ++ M) ∧ (∀ n, n ∈ Q ++ M → ∀ z, z < 12 → n ^^^ 2 ^ z ∈ L.map Prod.fst → bt (a (n ^^^ 2 ^ z)) z = true → n ^^^ 2 ^ z ∈ Q ++ M) ∧ LvS a L u u'
  | d, i, 0, _, _, _, hk, _, _, _, _, _, _ => absurd hk (by omega)
  | d, i, k + 1, u, Q, hd, hk, hc, ha, hW, hQ, hg, hp => by
    have hl := hG.len
    have hql := hg.len
    show ∃ M w u', b_X3_leadsThereFromAll_55 F (l_X3_leadsThereFromAll_55 F k) _ u = _ ∧ _
    unfold b_X3_leadsThereFromAll_55
    rw [hQ.1, show (4096 : Int32) = nI 4096 from rfl]
    by_cases h0 : Q.length ≤ i
    · rw [if_pos (nI_le h0 (by omega))]
      refine ⟨[], _, u, rfl, by simpa using hQ, by simpa using hg, fun n hn z hz h1 h2 => ?_, LvS.rf hc⟩
      rw [List.append_nil] at hn ⊢
      obtain ⟨j, hj⟩ := List.getElem?_of_mem hn
      have := (List.getElem?_eq_some_iff.mp hj).1
      exact hp j n (by omega) hj z hz h1 h2
    · obtain ⟨n, hn⟩ : ∃ n, Q[i]? = some n := ⟨_, List.getElem?_eq_getElem (show i < Q.length by omega)⟩
      have hnq := hg.2 n (List.mem_of_getElem? hn)
      have hn4 : n < 4096 := by
        obtain ⟨e, he, rfl⟩ := List.mem_map.mp hnq.1
        exact (hG.2 e he).1
      rw [if_neg (nI_ge (by omega) (by omega)), if_neg (nI_ge (show i < 4096 by omega) (by decide)), nI_clamp (by omega), if_neg (gin (show i < 4096 by omega) (by decide)), hQ.2.1 i n hn, nI_1]
      obtain ⟨M, u1, g1, g2, g3, g4, g5⟩ := l_back F hF hG (x := x) hn4 hnq.2 12 0 F u Q (by omega) (by omega) hc ha hW hQ hg (fun z hz => by omega)
      rw [show nI 0 = 0 from rfl] at g1
      have hgb : f_X3_goBackFrom F (nI n) u = some u1 := by
        unfold f_X3_goBackFrom
        rw [g1]
        rfl
      rw [hgb]
      simp only [Option.bind_some]
      obtain ⟨M2, w, u2, k1, k2, k3, k4, k5⟩ := l_lv55 F hF hG (x := x) (d - 1) (i + 1) k u1 (Q ++ M) (by omega) (by omega) g5.1 (by rw [aF_eq g5.2.1]; exact ha) (hW.lv g5.2.2.1) g2 g3 (fun j m hj hm z hz h1 h2 => by
        have hjl : j < Q.length := by omega
        rw [List.getElem?_append_left hjl] at hm
        by_cases hji : j = i
        · subst hji
          rw [hn] at hm
          cases hm
          exact g4 z hz h1 h2
        · exact List.mem_append_left _ (hp j m (by omega) hm z hz h1 h2))
      rw [List.append_assoc] at k2 k3 k4
      exact ⟨M ++ M2, w, u2, k1, k2, k3, k4, g5.tr k5⟩
theorem l_lv108 (F : Nat) (x2 : Int32) {a : Nat → Int32} {L : WL} {Q : List Nat} (hq : Q.length ≤ 4096) (hq4 : ∀ n ∈ Q, n < 4096) : ∀ (d i k : Nat) (u : St), i + d = Q.length → d < k → u.1 18 4 = nI Q.length → (∀ i n, Q[i]? = some n → u.1 20 i = nI n) → (∀ n, n < 4096 → n ∉ Q.drop i → u.1 19 n = 0) → ∃ u', l_X3_leadsThereFromAll_108 F x2 k (nI i) u = some (nI Q.length, u') ∧ (∀ n, n < 4096 → u'.1 19 n = 0) ∧ Fr [19] u u'
  | d, i, 0, _, _, hk, _, _, _ => absurd hk (by omega)
  | d, i, k + 1, u, hd, hk, h4, h20, h19 => by
    show ∃ u', b_X3_leadsThereFromAll_108 F x2 (l_X3_leadsThereFromAll_108 F x2 k) _ u = _ ∧ _
    unfold b_X3_leadsThereFromAll_108
    rw [h4]
    by_cases h0 : d = 0
    · have : i = Q.length := by omega
      subst this
      rw [if_pos (nI_le (Nat.le_refl _) (by omega))]
      refine ⟨u, rfl, fun n hn => h19 n hn (by simp), Fr.rf _ _⟩
    · obtain ⟨n, hn⟩ : ∃ n, Q[i]? = some n := ⟨_, List.getElem?_eq_getElem (show i < Q.length by omega)⟩
      have hn4 := hq4 n (List.mem_of_getElem? hn)
      rw [if_neg (nI_ge (by omega) (by omega)), nI_clamp (by omega), if_neg (gin (show i < 4096 by omega) (by decide)), h20 i n hn, nI_clamp (by omega), if_neg (gin hn4 (by decide)), nI_1, nar0]
      obtain ⟨u', g1, g2, g3⟩ := l_lv108 F x2 (a := a) (L := L) hq hq4 (d - 1) (i + 1) k (wr u 19 n 0) (by omega) (by omega) (by rw [wr_ne _ (by decide)]; exact h4) (fun j m hj => by rw [wr_ne _ (by decide)]; exact h20 j m hj) (fun m hm hd2 => by
        by_cases hmn : m = n
        · subst hmn
          rw [wr_eq]
        · rw [wr_nek _ hmn]
          refine h19 m hm (fun z => ?_)
          have hlt : i < Q.length := by omega
          rw [List.drop_eq_getElem_cons hlt] at z
          rcases List.mem_cons.mp z with z | z
          · exact hmn (z.trans (Option.some.inj ((List.getElem?_eq_getElem hlt).symm.trans hn)))
          · exact hd2 z)
      exact ⟨u', g1, g2, ((Fr.rf [19] u).w (by decide)).tr g3⟩
/-- the system's search from all states in which a signal is asked -/
theorem p_leads (F : Nat) (hF : 5000 ≤ F) {u : St} (hc : CirK u) {L : WL} (hG : GL L) (hW : WC L u) (hcl : ∀ s y, s ∈ L.map Prod.fst → y < 12 → bt (aF u s) y = true → s ^^^ 2 ^ y ∈ L.map Prod.fst) (h19 : ∀ n, n < 4096 → u.1 19 n = 0) {x : Nat} (hx : x < 12) : ∃ b u', f_X3_leadsThereFromAll F (nI x) u = some (b2i b, u') ∧ (b = true ↔ ∀ s ∈ L.map Prod.fst, Lds (aF u) x s) ∧ (∀ n, n < 4096 → u'.1 19 n = 0) ∧ LvS (aF u) L u u' := by
  have hl := hG.len
  have fw : Fr [18] u (wr u 18 4 0) := (Fr.rf _ u).w (by decide)
  obtain ⟨c0, a0⟩ := hc.fr fw (by decide)
  have s0 : LvS (aF u) L u (wr u 18 4 0) := ⟨c0, a0, fw.mono (by intro q hq; simp at hq ⊢; omega), fun k hk => wr_nek _ hk⟩
  have Q0 : QR [] (wr u 18 4 0) := ⟨wr_eq _, fun i n h => by simp at h, fun n hn => by rw [wr_ne _ (by decide), h19 n hn]; simp⟩
  obtain ⟨Q1, u1, g1, g2, g3, g4, g5⟩ := l_lv7 F hF hG hx L.length 0 F _ [] (by omega) (by omega) c0 (aF_eq a0) (hW.lv s0.2.2.1) Q0 ⟨by simp, fun n hn => by simp at hn⟩ (fun j e hj => by omega)
  rw [show nI 0 = 0 from rfl] at g1
  obtain ⟨M, w, u2, k1, k2, k3, k4, k5⟩ := l_lv55 F hF hG (x := x) 4096 0 F u1 Q1 (by omega) (by omega) g5.1 (by rw [aF_eq (g5.2.1.trans a0)]) ((hW.lv s0.2.2.1).lv g5.2.2.1) g2 g3 (fun j n hj => by omega)
  rw [show nI 0 = 0 from rfl] at k1
  have s2 : LvS (aF u) L u u2 := (s0.tr g5).tr k5
  have W2 : WC L u2 := hW.lv s2.2.2.1
  have hql := k3.len
  have all : (∀ s ∈ L.map Prod.fst, Lds (aF u) x s) ↔ (Q1 ++ M).length = L.length := by
    constructor
    · intro h
      apply Nat.le_antisymm hql
      have hin : ∀ s ∈ L.map Prod.fst, s ∈ Q1 ++ M := by
        have key : ∀ n s, s ∈ L.map Prod.fst → lead (aF u) x n s → s ∈ Q1 ++ M := by
          intro n
          induction n with
          | zero =>
            intro s hs hb
            obtain ⟨e, he, rfl⟩ := List.mem_map.mp hs
            obtain ⟨j, hj⟩ := List.getElem?_of_mem he
            exact List.mem_append_left _ (g4 j e (List.getElem?_eq_some_iff.mp hj).1 hj hb)
          | succ n ih =>
            intro s hs hb
            rcases hb with hb | ⟨y, hy, hby, hb⟩
            · exact ih s hs hb
            · have h1 := ih _ (hcl s y hs hy hby) hb
              have := k4 _ h1 y hy (by rw [xx2]; exact hs) (by rw [xx2]; exact hby)
              rwa [xx2] at this
        intro s hs
        obtain ⟨n, hn⟩ := h s hs
        exact key n s hs hn
      have := sub_len (L.map Prod.fst) (Q1 ++ M) hG.1 hin
      simpa using this
    · intro h s hs
      exact (k3.2 s (sub_all k3.1 (fun z hz => (k3.2 z hz).1) (by simpa using h) s hs)).2
  have hq4 : ∀ n ∈ Q1 ++ M, n < 4096 := fun n hn => by
    obtain ⟨e, he, rfl⟩ := List.mem_map.mp (k3.2 n hn).1
    exact (hG.2 e he).1
  have fin : ∀ x2 : Int32, ∃ u3, l_X3_leadsThereFromAll_108 F x2 F (0 : Int32) u2 = some (nI (Q1 ++ M).length, u3) ∧ (∀ n, n < 4096 → u3.1 19 n = 0) ∧ LvS (aF u) L u u3 := by
    intro x2
    obtain ⟨u3, m1, m2, m3⟩ := l_lv108 F x2 (a := aF u) (L := L) (Q := Q1 ++ M) (by omega) hq4 (Q1 ++ M).length 0 F u2 (by omega) (by omega) k2.1 k2.2.1 (fun n hn hd => by
      rw [k2.2.2 n hn, if_neg (by simpa using hd)])
    obtain ⟨c3, a3⟩ := s2.1.fr m3 (by decide)
    exact ⟨u3, m1, m2, c3, a3.trans s2.2.1, s2.2.2.1.tr (m3.mono (by intro q hq; simp at hq ⊢; omega)), fun k hk => by rw [m3.2 18 (by decide)]; exact s2.2.2.2 k hk⟩
  unfold f_X3_leadsThereFromAll
  rw [g1]
  simp only [Option.bind_some]
  rw [k1]
  simp only [Option.bind_some]
  rw [show f_X10_size F u2 = some (u2.1 11 5, u2) from rfl]
  simp only [Option.bind_some]
  rw [k2.1, W2.1]
  by_cases he : (Q1 ++ M).length = L.length
  · obtain ⟨u3, m1, m2, m3⟩ := fin 1
    rw [if_pos (by rw [he]), m1]
    exact ⟨true, u3, rfl, ⟨fun _ => all.mpr he, fun _ => rfl⟩, m2, m3⟩
  · obtain ⟨u3, m1, m2, m3⟩ := fin 0
    rw [if_neg (fun q => he (nI_inj (by omega) (by omega) q)), m1]
    exact ⟨false, u3, rfl, ⟨fun q => absurd q (by decide), fun q => absurd (all.mp q) he⟩, m2, m3⟩
