/-! the tape -/
def byN (x : Int32) (k : Nat) : Nat := x.toBitVec.toNat / 2 ^ k % 256
theorem byN_lt (x : Int32) (k : Nat) : byN x k < 256 := Nat.mod_lt _ (by decide)
theorem c_byte (x s : Int32) (k : Nat) (hs : ((s.toUInt32 &&& Int32.toUInt32 31).toBitVec % 32).toNat = k) : (ushr x s) &&& (255 : Int32) = nI (byN x k) := by
  rw [pk_and _ 8 (by decide)]
  unfold ushr byN
  rw [pk_ushr x s k hs]
theorem bt_255 {j : Nat} (h : j < 32) : bt 255 j = decide (j < 8) := by
  have : ∀ j, j < 32 → bt 255 j = decide (j < 8) := by decide
  exact this j h
theorem bt_shrK (v : Int32) {k j : Nat} (hk : k < 32) (hj : k + j < 32) : bt (v >>> (nI k &&& 31)) j = bt v (k + j) := by
  unfold bt
  rw [Int32.toBitVec_shiftRight]
  show (v.toBitVec.sshiftRight ((nI k &&& 31).toBitVec.smod 32).toNat).getLsbD j = _
  rw [sh_amt hk, BitVec.getLsbD_sshiftRight]
  simp [hj, show j < 32 by omega]
theorem bt_byN (x : Int32) {k j : Nat} (hj : j < 8) : bt (nI (byN x k)) j = bt x (k + j) := by
  rw [bt_nI (by have := byN_lt x k; omega)]
  unfold byN
  rw [show (256 : Nat) = 2 ^ 8 from rfl, Nat.testBit_mod_two_pow, Nat.testBit_div_two_pow]
  simp [hj]
  rw [Nat.add_comm]
  rfl
theorem m_byte (x : Int32) {k : Nat} (hk : k ≤ 24) : (x >>> (nI k &&& 31)) &&& (255 : Int32) = nI (byN x k) := by
  apply bt_ext
  intro j hj
  rw [bt_and, bt_255 hj]
  by_cases h : j < 8
  · rw [bt_shrK x (by omega) (by omega), bt_byN x h]
    simp [h]
  · have := byN_lt x k
    rw [bt_nI (by omega), Nat.testBit_lt_two_pow (Nat.lt_of_lt_of_le this (Nat.pow_le_pow_right (n := 2) (i := 8) (by decide) (by omega)))]
    simp [h]
theorem m_byte8 (x : Int32) {k : Nat} (hk : k ≤ 24) : (x >>> (nI k &&& 31)).toInt8 = (nI (byN x k)).toInt8 := by
  apply Int8.toBitVec_inj.mp
  apply BitVec.eq_of_getLsbD_eq
  intro j hj
  show ((x >>> (nI k &&& 31)).toBitVec.signExtend 8).getLsbD j = ((nI (byN x k)).toBitVec.signExtend 8).getLsbD j
  rw [BitVec.getLsbD_signExtend, BitVec.getLsbD_signExtend]
  have h1 := bt_shrK x (k := k) (j := j) (by omega) (by omega)
  have h2 := bt_byN x (k := k) (j := j) hj
  unfold bt at h1 h2
  rw [h1, h2]
  simp [show j < 32 by omega]
def nz (b : Nat) : Nat := if b = 0 then 0 else 1
def byL (x : Int32) : List Nat := ([24, 16, 8, 0] : List Nat).filterMap (fun k => if byN x k = 0 then none else some (byN x k))
theorem byL_len (x : Int32) : (byL x).length = nz (byN x 24) + nz (byN x 16) + nz (byN x 8) + nz (byN x 0) := by
  unfold byL nz
  by_cases h1 : byN x 24 = 0 <;> by_cases h2 : byN x 16 = 0 <;> by_cases h3 : byN x 8 = 0 <;> by_cases h4 : byN x 0 = 0 <;> simp [h1, h2, h3, h4]
theorem byL_ok (x : Int32) : ∀ b ∈ byL x, 1 ≤ b ∧ b < 256 := by
  intro b hb
  unfold byL at hb
  obtain ⟨k, -, hk⟩ := List.mem_filterMap.mp hb
  have := byN_lt x k
  by_cases h : byN x k = 0
  · rw [if_pos h] at hk; cases hk
  · rw [if_neg h] at hk
    cases hk
    exact ⟨by omega, this⟩
theorem nI_0' {b : Nat} (hb : b < 256) : nI b = 0 ↔ b = 0 := by
  constructor
  · intro h
    exact nI_inj (by omega) (by omega) h
  · rintro rfl; rfl
theorem s_bI (F : Nat) (x : Int32) (k a b : Nat) (s s' : Int32) (hs : ((s.toUInt32 &&& Int32.toUInt32 31).toBitVec % 32).toNat = b) (h0 : ¬ s < 0) (h1 : s + (-8) = s') (u : St) : l_X7_bytesIn_5 F x (k + 1) (nI a) s u = l_X7_bytesIn_5 F x k (nI (a + nz (byN x b))) s' u := by
  show b_X7_bytesIn_5 F x (l_X7_bytesIn_5 F x k) _ _ u = _
  unfold b_X7_bytesIn_5
  rw [if_neg h0, c_byte x s b hs, h1, nI_1]
  unfold nz
  by_cases h : byN x b = 0
  · rw [if_pos ((nI_0' (byN_lt x b)).mpr h), if_pos h, Nat.add_zero]
  · rw [if_neg (fun q => h ((nI_0' (byN_lt x b)).mp q)), if_neg h]
theorem p_bytesIn (F : Nat) (hF : 100 ≤ F) (x : Int32) (u : St) : f_X7_bytesIn F x u = some (nI (byL x).length, u) := by
  obtain ⟨G, rfl⟩ : ∃ G, F = G + 5 := ⟨F - 5, by omega⟩
  unfold f_X7_bytesIn
  have h1 := s_bI (G + 5) x (G + 4) 0 24 24 16 (by decide) (by decide) (by decide) u
  have h2 := s_bI (G + 5) x (G + 3) (0 + nz (byN x 24)) 16 16 8 (by decide) (by decide) (by decide) u
  have h3 := s_bI (G + 5) x (G + 2) (0 + nz (byN x 24) + nz (byN x 16)) 8 8 0 (by decide) (by decide) (by decide) u
  have h4 := s_bI (G + 5) x (G + 1) (0 + nz (byN x 24) + nz (byN x 16) + nz (byN x 8)) 0 0 (-8) (by decide) (by decide) (by decide) u
  rw [show nI 0 = 0 from rfl] at h1
  rw [h1, h2, h3, h4]
  show Option.bind (b_X7_bytesIn_5 (G + 5) x (l_X7_bytesIn_5 (G + 5) x G) _ _ u) _ = _
  unfold b_X7_bytesIn_5
  rw [if_pos (by decide)]
  simp only [Option.bind_some]
  rw [byL_len]
  simp
theorem s_mbI (F : Nat) (x : Int32) (k a b : Nat) (hb : b ≤ 24) (s s' : Int32) (hs : s = nI b) (h0 : ¬ s < 0) (h1 : s + (-8) = s') (u : St) : l_X12_bytesIn_5 F x (k + 1) (nI a) s u = l_X12_bytesIn_5 F x k (nI (a + nz (byN x b))) s' u := by
  show b_X12_bytesIn_5 F x (l_X12_bytesIn_5 F x k) _ _ u = _
  unfold b_X12_bytesIn_5
  rw [if_neg h0, h1, hs, m_byte x hb, nI_1, show (0 : Int32) = nI 0 from rfl, nI_add]
  unfold nz
  by_cases h : byN x b = 0
  · rw [if_pos (by rw [h]), if_pos h]
  · rw [if_neg (show ¬ nI (byN x b) = nI 0 from fun q => h ((nI_0' (byN_lt x b)).mp q)), if_neg h]
theorem p_mbytesIn (F : Nat) (hF : 100 ≤ F) (x : Int32) (u : St) : f_X12_bytesIn F x u = some (nI (byL x).length, u) := by
  obtain ⟨G, rfl⟩ : ∃ G, F = G + 5 := ⟨F - 5, by omega⟩
  unfold f_X12_bytesIn
  have h1 := s_mbI (G + 5) x (G + 4) 0 24 (by decide) 24 16 (by decide) (by decide) (by decide) u
  have h2 := s_mbI (G + 5) x (G + 3) (0 + nz (byN x 24)) 16 (by decide) 16 8 (by decide) (by decide) (by decide) u
  have h3 := s_mbI (G + 5) x (G + 2) (0 + nz (byN x 24) + nz (byN x 16)) 8 (by decide) 8 0 (by decide) (by decide) (by decide) u
  have h4 := s_mbI (G + 5) x (G + 1) (0 + nz (byN x 24) + nz (byN x 16) + nz (byN x 8)) 0 (by decide) 0 (-8) (by decide) (by decide) (by decide) u
  rw [show nI 0 = 0 from rfl] at h1
  rw [h1, h2, h3, h4]
  show Option.bind (b_X12_bytesIn_5 (G + 5) x (l_X12_bytesIn_5 (G + 5) x G) _ _ u) _ = _
  unfold b_X12_bytesIn_5
  rw [if_pos (by decide)]
  simp only [Option.bind_some]
  rw [byL_len]
  simp
def TC (l : List Nat) (u : St) : Prop := u.1 1 1 = nI l.length ∧ ∀ i b, l[i]? = some b → u.1 2 i = nI b
def TM (l : List Nat) (u : St) : Prop := u.1 50 2 = nI l.length ∧ ∀ i b, l[i]? = some b → u.1 51 i = (nI b).toInt8.toInt32
def on1 (b : Nat) : List Nat := if b = 0 then [] else [b]
theorem byL_on (x : Int32) : byL x = on1 (byN x 24) ++ (on1 (byN x 16) ++ (on1 (byN x 8) ++ on1 (byN x 0))) := by
  unfold byL on1
  by_cases h1 : byN x 24 = 0 <;> by_cases h2 : byN x 16 = 0 <;> by_cases h3 : byN x 8 = 0 <;> by_cases h4 : byN x 0 = 0 <;> simp [h1, h2, h3, h4]
theorem on1_len (b : Nat) : (on1 b).length = nz b := by unfold on1 nz; split <;> rfl
theorem snoc_get {l : List Nat} {b i c : Nat} (h : (l ++ [b])[i]? = some c) : (i < l.length ∧ l[i]? = some c) ∨ (i = l.length ∧ c = b) := by
  by_cases hi : i < l.length
  · rw [List.getElem?_append_left hi] at h
    exact Or.inl ⟨hi, h⟩
  · rw [List.getElem?_append_right (by omega)] at h
    have hz : i - l.length < 1 := (List.getElem?_eq_some_iff.mp h).1
    have : i = l.length := by omega
    subst this
    rw [Nat.sub_self] at h
    cases h
    exact Or.inr ⟨rfl, rfl⟩
theorem s_ap (F : Nat) (x : Int32) (k b : Nat) (s s' : Int32) (hs : ((s.toUInt32 &&& Int32.toUInt32 31).toBitVec % 32).toNat = b) (h0 : ¬ s < 0) (h1 : s + (-8) = s') {l : List Nat} {u : St} (hl : (l ++ on1 (byN x b)).length ≤ 300) (hT : TC l u) : ∃ u', l_X7_append_3 F x (k + 1) s u = l_X7_append_3 F x k s' u' ∧ TC (l ++ on1 (byN x b)) u' ∧ Fr [1, 2] u u' := by
  show ∃ u', b_X7_append_3 F x (l_X7_append_3 F x k) _ u = _ ∧ _
  unfold b_X7_append_3
  rw [if_neg h0, c_byte x s b hs, h1, hT.1]
  rw [List.length_append, on1_len] at hl
  unfold nz at hl
  unfold on1
  by_cases h : byN x b = 0
  · rw [if_pos ((nI_0' (byN_lt x b)).mpr h), if_pos h, List.append_nil]
    exact ⟨u, rfl, hT, Fr.rf _ _⟩
  · rw [if_neg h] at hl
    rw [if_neg (fun q => h ((nI_0' (byN_lt x b)).mp q)), if_neg h, show (300 : Int32) = nI 300 from rfl, if_neg (nI_ge (show l.length < 300 by omega) (by decide)), nI_clamp (by omega), if_neg (gin (show l.length < 300 by omega) (by decide)), wr_ne _ (by decide), hT.1, nI_1]
    refine ⟨_, rfl, ⟨?_, ?_⟩, ((Fr.rf _ u).w (by decide)).w (by decide)⟩
    · rw [wr_eq, List.length_append, List.length_singleton]
    · intro i c hc
      rw [wr_ne _ (by decide)]
      rcases snoc_get hc with ⟨q1, q2⟩ | ⟨q1, q2⟩
      · rw [wr_nek _ (by omega)]
        exact hT.2 i c q2
      · rw [q1, q2, wr_eq]
theorem s_put (F : Nat) (x : Int32) (k b : Nat) (hb : b ≤ 24) (s s' : Int32) (hs : s = nI b) (h0 : ¬ s < 0) (h1 : s + (-8) = s') {l : List Nat} {u : St} (hl : (l ++ on1 (byN x b)).length ≤ 300) (hT : TM l u) : ∃ u', l_X12_put_3 F x (k + 1) s u = l_X12_put_3 F x k s' u' ∧ TM (l ++ on1 (byN x b)) u' ∧ Fr [50, 51] u u' ∧ ∀ j, j ≠ 2 → u'.1 50 j = u.1 50 j := by
  show ∃ u', b_X12_put_3 F x (l_X12_put_3 F x k) _ u = _ ∧ _
  unfold b_X12_put_3
  rw [if_neg h0, h1, hs, m_byte x hb, m_byte8 x hb, hT.1, pk_vb]
  rw [List.length_append, on1_len] at hl
  unfold nz at hl
  unfold on1
  by_cases h : byN x b = 0
  · rw [if_pos ((nI_0' (byN_lt x b)).mpr h), if_pos h, List.append_nil]
    exact ⟨u, rfl, hT, Fr.rf _ _, fun _ _ => rfl⟩
  · rw [if_neg h] at hl
    rw [if_neg (fun q => h ((nI_0' (byN_lt x b)).mp q)), if_neg h, nI_clamp (by omega), if_neg (gin (show l.length < 300 by omega) (by decide)), wr_ne _ (by decide), hT.1, nI_1]
    refine ⟨_, rfl, ⟨?_, ?_⟩, ((Fr.rf _ u).w (by decide)).w (by decide), fun j hj => by rw [wr_nek _ hj, wr_ne _ (by decide)]⟩
    · rw [wr_eq, List.length_append, List.length_singleton]
    · intro i c hc
      rw [wr_ne _ (by decide)]
      rcases snoc_get hc with ⟨q1, q2⟩ | ⟨q1, q2⟩
      · rw [wr_nek _ (by omega)]
        exact hT.2 i c q2
      · rw [q1, q2, wr_eq]
theorem p_append (F : Nat) (hF : 100 ≤ F) (x : Int32) {l : List Nat} {u : St} (hl : (l ++ byL x).length ≤ 300) (hT : TC l u) : ∃ u', f_X7_append F x u = some u' ∧ TC (l ++ byL x) u' ∧ Fr [1, 2] u u' := by
  obtain ⟨G, rfl⟩ : ∃ G, F = G + 5 := ⟨F - 5, by omega⟩
  rw [byL_on] at hl ⊢
  simp only [List.length_append] at hl
  obtain ⟨u1, a1, a2, a3⟩ := s_ap (G + 5) x (G + 4) 24 24 16 (by decide) (by decide) (by decide) (l := l) (u := u) (by simp only [List.length_append]; omega) hT
  obtain ⟨u2, b1, b2, b3⟩ := s_ap (G + 5) x (G + 3) 16 16 8 (by decide) (by decide) (by decide) (u := u1) (by simp only [List.length_append]; omega) a2
  obtain ⟨u3, c1, c2, c3⟩ := s_ap (G + 5) x (G + 2) 8 8 0 (by decide) (by decide) (by decide) (u := u2) (by simp only [List.length_append]; omega) b2
  obtain ⟨u4, d1, d2, d3⟩ := s_ap (G + 5) x (G + 1) 0 0 (-8) (by decide) (by decide) (by decide) (u := u3) (by simp only [List.length_append]; omega) c2
  refine ⟨u4, ?_, by simpa [List.append_assoc] using d2, ((a3.tr b3).tr c3).tr d3⟩
  unfold f_X7_append
  rw [a1, b1, c1, d1]
  show Option.bind (b_X7_append_3 (G + 5) x (l_X7_append_3 (G + 5) x G) _ u4) _ = _
  unfold b_X7_append_3
  rw [if_pos (by decide)]
  rfl
theorem p_put (F : Nat) (hF : 100 ≤ F) (x : Int32) {l : List Nat} {u : St} (hl : (l ++ byL x).length ≤ 300) (hT : TM l u) : ∃ u', f_X12_put F x u = some u' ∧ TM (l ++ byL x) u' ∧ Fr [50, 51] u u' ∧ ∀ j, j ≠ 2 → u'.1 50 j = u.1 50 j := by
  obtain ⟨G, rfl⟩ : ∃ G, F = G + 5 := ⟨F - 5, by omega⟩
  rw [byL_on] at hl ⊢
  simp only [List.length_append] at hl
  obtain ⟨u1, a1, a2, a3, a4⟩ := s_put (G + 5) x (G + 4) 24 (by decide) 24 16 (by decide) (by decide) (by decide) (l := l) (u := u) (by simp only [List.length_append]; omega) hT
  obtain ⟨u2, b1, b2, b3, b4⟩ := s_put (G + 5) x (G + 3) 16 (by decide) 16 8 (by decide) (by decide) (by decide) (u := u1) (by simp only [List.length_append]; omega) a2
  obtain ⟨u3, c1, c2, c3, c4⟩ := s_put (G + 5) x (G + 2) 8 (by decide) 8 0 (by decide) (by decide) (by decide) (u := u2) (by simp only [List.length_append]; omega) b2
  obtain ⟨u4, d1, d2, d3, d4⟩ := s_put (G + 5) x (G + 1) 0 (by decide) 0 (-8) (by decide) (by decide) (by decide) (u := u3) (by simp only [List.length_append]; omega) c2
  refine ⟨u4, ?_, by simpa [List.append_assoc] using d2, ((a3.tr b3).tr c3).tr d3, fun j hj => (d4 j hj).trans ((c4 j hj).trans ((b4 j hj).trans (a4 j hj)))⟩
  unfold f_X12_put
  rw [a1, b1, c1, d1]
  show Option.bind (b_X12_put_3 (G + 5) x (l_X12_put_3 (G + 5) x G) _ u4) _ = _
  unfold b_X12_put_3
  rw [if_pos (by decide)]
  rfl
def TpI (u : St) : Prop := ∃ l : List Nat, l.length ≤ 300 ∧ (∀ b ∈ l, 1 ≤ b ∧ b < 256) ∧ TC l u ∧ TM l u
theorem TC.fr {l : List Nat} {u v : St} (h : TC l u) (h1 : v.1 1 1 = u.1 1 1) (h2 : v.1 2 = u.1 2) : TC l v := by unfold TC; rw [h1, h2]; exact h
theorem TM.fr {l : List Nat} {u v : St} (h : TM l u) (h1 : v.1 50 2 = u.1 50 2) (h2 : v.1 51 = u.1 51) : TM l v := by unfold TM; rw [h1, h2]; exact h
theorem TpI.kp {u v : St} (h : TpI u) (k : KpN u v) : TpI v := by
  obtain ⟨l, h1, h2, h3, h4⟩ := h
  exact ⟨l, h1, h2, h3.fr (by rw [k.1 1 (by decide)]) (k.1 2 (by decide)), h4.fr (k.2.1 2 (by decide)) (k.1 51 (by decide))⟩
def fdL (a b c d e : Int32) : Nat := (byL a).length + (byL b).length + (byL c).length + (byL d).length + (byL e).length
theorem nz_le (n : Nat) : nz n ≤ 1 := by unfold nz; split <;> omega
theorem byL_4 (x : Int32) : (byL x).length ≤ 4 := by
  rw [byL_len]
  have y1 := nz_le (byN x 24); have y2 := nz_le (byN x 16); have y3 := nz_le (byN x 8); have y4 := nz_le (byN x 0)
  omega
theorem fdL_20 (a b c d e : Int32) : fdL a b c d e ≤ 20 := by
  unfold fdL
  have := byL_4 a; have := byL_4 b; have := byL_4 c; have := byL_4 d; have := byL_4 e
  omega
theorem c_feed (F : Nat) (hF : 100 ≤ F) {l : List Nat} {u : St} (hl : l.length ≤ 300) (h : u.1 1 1 = nI l.length) (a b c d e : Int32) : f_X11_feed F a b c d e u = if l.length + fdL a b c d e ≤ 300 then (Option.bind (f_X7_append F a u) (fun u25 => (Option.bind (f_X7_append F b u25) (fun u27 => (Option.bind (f_X7_append F c u27) (fun u29 => (Option.bind (f_X7_append F d u29) (fun u31 => (Option.bind (f_X7_append F e u31) (fun u33 => (Option.bind (f_X7_size F u33) (fun w38 => some (w38.1, w38.2))))))))))))) else some (-1, u) := by
  have h20 := fdL_20 a b c d e
  unfold f_X11_feed
  rw [p_bytesIn F hF a u, Option.bind_some, p_bytesIn F hF b u, Option.bind_some, p_bytesIn F hF c u, Option.bind_some, p_bytesIn F hF d u, Option.bind_some, p_bytesIn F hF e u, Option.bind_some, show f_X7_size F u = some (u.1 1 1, u) from rfl, Option.bind_some]
  have hc : ((u.1 1 1 + ((((nI (byL a).length + nI (byL b).length) + nI (byL c).length) + nI (byL d).length) + nI (byL e).length)) ≤ (300 : Int32)) ↔ l.length + fdL a b c d e ≤ 300 := by
    rw [h, nI_add, nI_add, nI_add, nI_add, nI_add]
    show nI (l.length + fdL a b c d e) ≤ nI 300 ↔ _
    exact nI_leI (by omega) (by decide)
  by_cases q : l.length + fdL a b c d e ≤ 300
  · rw [if_pos q]
    exact if_pos (hc.mpr q)
  · rw [if_neg q]
    exact if_neg (fun z => q (hc.mp z))
theorem k_feed (F : Nat) (hF : 100 ≤ F) {l : List Nat} {u : St} (hl : l.length ≤ 300) (h : u.1 50 2 = nI l.length) (a b c d e : Int32) : f_X12_feed F a b c d e u = if l.length + fdL a b c d e ≤ 300 then (Option.bind (f_X12_put F a (wr u 50 0 0)) (fun u21 => (Option.bind (f_X12_put F b u21) (fun u23 => (Option.bind (f_X12_put F c u23) (fun u25 => (Option.bind (f_X12_put F d u25) (fun u27 => (Option.bind (f_X12_put F e u27) (fun u29 => some ((u29.1 50 2), u29))))))))))) else some (-1, wr u 50 0 0) := by
  have h20 := fdL_20 a b c d e
  unfold f_X12_feed
  rw [p_mbytesIn F hF a, Option.bind_some, p_mbytesIn F hF b, Option.bind_some, p_mbytesIn F hF c, Option.bind_some, p_mbytesIn F hF d, Option.bind_some, p_mbytesIn F hF e, Option.bind_some]
  have hc : (((((((wr u 50 0 (0 : Int32)).1 50 2) + nI (byL a).length) + nI (byL b).length) + nI (byL c).length) + nI (byL d).length) + nI (byL e).length ≤ (300 : Int32)) ↔ l.length + fdL a b c d e ≤ 300 := by
    rw [wr_nek _ (by decide), h, nI_add, nI_add, nI_add, nI_add, nI_add]
    have : l.length + (byL a).length + (byL b).length + (byL c).length + (byL d).length + (byL e).length = l.length + fdL a b c d e := by unfold fdL; omega
    rw [this]
    show nI (l.length + fdL a b c d e) ≤ nI 300 ↔ _
    exact nI_leI (by omega) (by decide)
  by_cases q : l.length + fdL a b c d e ≤ 300
  · rw [if_pos q]
    exact if_pos (hc.mpr q)
  · rw [if_neg q]
    exact if_neg (fun z => q (hc.mp z))
/-- promise 2 -/
theorem op_feed (F : Nat) (hF : 100 ≤ F) {u : St} (h : TpI u) (a b c d e : Int32) : ∃ r u1 u2, f_X11_feed F a b c d e u = some (r, u1) ∧ f_X12_feed F a b c d e u1 = some (r, u2) ∧ TpI u2 ∧ Fr [1, 2, 50, 51] u u2 ∧ ∀ j, j ≠ 2 → j ≠ 0 → u2.1 50 j = u.1 50 j := by
  obtain ⟨l, h1, h2, h3, h4⟩ := h
  rw [c_feed F hF h1 h3.1]
  by_cases q : l.length + fdL a b c d e ≤ 300
  · rw [if_pos q]
    unfold fdL at q
    obtain ⟨a1, A1, A2, A3⟩ := p_append F hF a (l := l) (u := u) (by simp only [List.length_append]; omega) h3
    obtain ⟨a2, B1, B2, B3⟩ := p_append F hF b (u := a1) (by simp only [List.length_append]; omega) A2
    obtain ⟨a3, C1, C2, C3⟩ := p_append F hF c (u := a2) (by simp only [List.length_append]; omega) B2
    obtain ⟨a4, D1, D2, D3⟩ := p_append F hF d (u := a3) (by simp only [List.length_append]; omega) C2
    obtain ⟨a5, E1, E2, E3⟩ := p_append F hF e (u := a4) (by simp only [List.length_append]; omega) D2
    have f1 : Fr [1, 2] u a5 := (((A3.tr B3).tr C3).tr D3).tr E3
    have m0 : TM l (wr a5 50 0 0) := h4.fr (by rw [wr_nek _ (by decide), f1.2 50 (by decide)]) (by rw [wr_ne _ (by decide), f1.2 51 (by decide)])
    obtain ⟨b1, G1, G2, G3, G4⟩ := p_put F hF a (l := l) (u := wr a5 50 0 0) (by simp only [List.length_append]; omega) m0
    obtain ⟨b2, H1, H2, H3, H4⟩ := p_put F hF b (u := b1) (by simp only [List.length_append]; omega) G2
    obtain ⟨b3, I1, I2, I3, I4⟩ := p_put F hF c (u := b2) (by simp only [List.length_append]; omega) H2
    obtain ⟨b4, J1, J2, J3, J4⟩ := p_put F hF d (u := b3) (by simp only [List.length_append]; omega) I2
    obtain ⟨b5, K1, K2, K3, K4⟩ := p_put F hF e (u := b4) (by simp only [List.length_append]; omega) J2
    have f2 : Fr [50, 51] (wr a5 50 0 0) b5 := (((G3.tr H3).tr I3).tr J3).tr K3
    refine ⟨nI (l ++ byL a ++ byL b ++ byL c ++ byL d ++ byL e).length, a5, b5, ?_, ?_, ?_, ?_, ?_⟩
    · rw [A1, Option.bind_some, B1, Option.bind_some, C1, Option.bind_some, D1, Option.bind_some, E1, Option.bind_some, show f_X7_size F a5 = some (a5.1 1 1, a5) from rfl, Option.bind_some, E2.1]
    · rw [k_feed F hF h1 (by rw [f1.2 50 (by decide)]; exact h4.1), if_pos (by unfold fdL; exact q), G1, Option.bind_some, H1, Option.bind_some, I1, Option.bind_some, J1, Option.bind_some, K1, Option.bind_some, K2.1]
    · refine ⟨l ++ byL a ++ byL b ++ byL c ++ byL d ++ byL e, by simp only [List.length_append]; omega, ?_, E2.fr (by rw [f2.2 1 (by decide), wr_ne _ (by decide)]) (by rw [f2.2 2 (by decide), wr_ne _ (by decide)]), K2⟩
      intro z hz
      simp only [List.mem_append] at hz
      rcases hz with ((((hz | hz) | hz) | hz) | hz) | hz
      · exact h2 z hz
      · exact byL_ok a z hz
      · exact byL_ok b z hz
      · exact byL_ok c z hz
      · exact byL_ok d z hz
      · exact byL_ok e z hz
    · exact ((f1.mono (by intro q hq; simp at hq ⊢; omega)).w (by decide)).tr (f2.mono (by intro q hq; simp at hq ⊢; omega))
    · intro j hj hj0
      rw [K4 j hj, J4 j hj, I4 j hj, H4 j hj, G4 j hj, wr_nek _ hj0, f1.2 50 (by decide)]
  · rw [if_neg q]
    refine ⟨-1, u, wr u 50 0 0, rfl, ?_, ⟨l, h1, h2, h3.fr (by rw [wr_ne _ (by decide)]) (wr_ne _ (by decide)), h4.fr (wr_nek _ (by decide)) (wr_ne _ (by decide))⟩, (Fr.rf _ u).w (by decide), fun j _ hj => wr_nek _ hj⟩
    rw [k_feed F hF h1 h4.1, if_neg q]
/-- promise 3 -/
theorem op_end (F : Nat) {u : St} (h : TpI u) (x : Int32) : ∃ r u1 u2, f_X11_end F x u = some (r, u1) ∧ f_X12_end F x u1 = some (r, u2) ∧ TpI u2 ∧ Fr [1, 2, 50, 51] u u2 ∧ ∀ j, j ≠ 2 → j ≠ 0 → u2.1 50 j = u.1 50 j := by
  obtain ⟨l, h1, h2, h3, h4⟩ := h
  have no : TpI (wr u 50 0 0) ∧ Fr [1, 2, 50, 51] u (wr u 50 0 0) ∧ ∀ j, j ≠ 2 → j ≠ 0 → (wr u 50 0 0).1 50 j = u.1 50 j := ⟨⟨l, h1, h2, h3.fr (by rw [wr_ne _ (by decide)]) (wr_ne _ (by decide)), h4.fr (wr_nek _ (by decide)) (wr_ne _ (by decide))⟩, (Fr.rf _ u).w (by decide), fun j _ hj => wr_nek _ hj⟩
  unfold f_X11_end f_X12_end
  rcases wl_ix x with hx | ⟨j, hj, rfl⟩
  · rw [if_pos hx]
    exact ⟨0, u, wr u 50 0 0, rfl, by rw [if_pos hx], no⟩
  · rw [if_neg (nI_pos hj), show f_X7_size F u = some (u.1 1 1, u) from rfl]
    simp only [Option.bind_some]
    rw [h3.1]
    by_cases hl : j ≤ l.length
    · rw [if_pos (nI_le hl (by omega)), show f_X7_cut F (nI j) u = some (wr u 1 1 (nI j)) from rfl]
      simp only [Option.bind_some]
      refine ⟨1, wr u 1 1 (nI j), wr (wr (wr u 1 1 (nI j)) 50 0 0) 50 2 (nI j), rfl, ?_, ⟨l.take j, ?_, ?_, ⟨?_, ?_⟩, ⟨?_, ?_⟩⟩, ?_, ?_⟩
      · rw [if_neg (nI_pos hj), wr_nek _ (by decide), wr_ne _ (by decide), h4.1, if_pos (nI_le hl (by omega))]
      · rw [List.length_take]; omega
      · intro b hb
        exact h2 b (List.mem_of_mem_take hb)
      · rw [wr_ne _ (by decide), wr_ne _ (by decide), wr_eq, List.length_take, Nat.min_eq_left hl]
      · intro i b hb
        rw [wr_ne _ (by decide), wr_ne _ (by decide), wr_ne _ (by decide)]
        rw [List.getElem?_take] at hb
        split at hb
        · exact h3.2 i b hb
        · cases hb
      · rw [wr_eq, List.length_take, Nat.min_eq_left hl]
      · intro i b hb
        rw [wr_ne _ (by decide), wr_ne _ (by decide), wr_ne _ (by decide)]
        rw [List.getElem?_take] at hb
        split at hb
        · exact h4.2 i b hb
        · cases hb
      · exact (((Fr.rf _ u).w (by decide)).w (by decide)).w (by decide)
      · intro k h5 h6
        rw [wr_nek _ h5, wr_nek _ h6, wr_ne _ (by decide)]
    · rw [if_neg (nI_ge (by omega) hj)]
      refine ⟨0, u, wr u 50 0 0, rfl, ?_, no⟩
      rw [if_neg (nI_pos hj), wr_nek _ (by decide), h4.1, if_neg (nI_ge (by omega) hj)]
