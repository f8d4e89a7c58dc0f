/-! the state that the constructors leave, and each call from the invariant to the invariant -/
theorem c8 (q k : Nat) : u0_8.1 q k = if q = 52 ∧ k < 12 then -1 else if q = 0 ∧ k = 10 then nI 46 else if q = 27 ∧ k = 10 then -1 else if q = 30 ∧ k = 1 then 1 else if q = 29 ∧ k = 1 then 1 else if q = 28 ∧ k = 1 then 1 else if q = 5 ∧ k < 4096 then -1 else if q = 4 ∧ k = 2 then nI 7 else 0 := rfl
theorem c8z {q : Nat} (k : Nat) (h : q ∉ [0, 4, 5, 27, 28, 29, 30, 52]) : u0_8.1 q k = 0 := by
  simp only [List.mem_cons, List.not_mem_nil, or_false, not_or] at h
  obtain ⟨h1, h2, h3, h4, h5, h6, h7, h8⟩ := h
  rw [c8, if_neg (fun z => h8 z.1), if_neg (fun z => h1 z.1), if_neg (fun z => h4 z.1), if_neg (fun z => h7 z.1), if_neg (fun z => h6 z.1), if_neg (fun z => h5 z.1), if_neg (fun z => h3 z.1), if_neg (fun z => h2 z.1)]
theorem c8txt : txt u0_8 = 7 := by
  unfold txt
  rw [c8]
  decide
theorem c8_52 {x : Nat} (hx : x < 12) : u0_8.1 52 x = -1 := by rw [c8, if_pos ⟨rfl, hx⟩]
theorem c8_4 {k : Nat} (hk : k ≠ 2) : u0_8.1 4 k = 0 := by
  rw [c8]
  simp [hk]
theorem c8_27 {k : Nat} (hk : k ≠ 10) : u0_8.1 27 k = 0 := by
  rw [c8]
  simp [hk]
theorem c8_sm : ∀ n, n ≤ 12 → sm (tmF u0_8) n = 0
  | 0, _ => rfl
  | n + 1, h => by
    show sm (tmF u0_8) n + tmF u0_8 n = 0
    rw [c8_sm n (by omega)]
    show 0 + (if u0_8.1 52 n = -1 then 0 else (u0_8.1 52 n).toNatClampNeg) = 0
    rw [if_pos (c8_52 (by omega))]
theorem inv0 : Inv u0_8 := by
  refine ⟨⟨[], by decide, fun b hb => absurd hb List.not_mem_nil, ⟨c8z _ (by decide), fun i b h => by simp at h⟩, ⟨c8z _ (by decide), fun i b h => by simp at h⟩⟩, ⟨⟨?_, ?_, ?_, ?_, ?_, ?_⟩, ?_, ?_, ?_, ?_, ?_, ?_⟩, ?_, ?_, ?_⟩
  · rw [c8txt]; exact Or.inl rfl
  · exact fun x hx => Or.inl (c8_52 hx)
  · refine ⟨0, by decide, by rw [c8txt]; exact c8z _ (by decide), fun x hx => ⟨?_, fun h => absurd (c8_52 hx) h⟩⟩
    rw [c8txt, c8z _ (by decide), bt_zero, c8_52 hx]
    rfl
  · rw [c8txt, c8z _ (by decide)]
    exact fun j _ => bt_zero j
  · intro x hx
    rw [c8_4 (by decide), bt_zero, c8z _ (by decide)]
    rfl
  · exact fun n hn => Or.inl (by rw [c8]; simp [hn])
  · exact ⟨0, by decide, c8_4 (by decide), c8z _ (by decide)⟩
  · exact Or.inl (c8z _ (by decide))
  · exact Or.inl (c8z _ (by decide))
  · refine ⟨fun n _ => c8z _ (by decide), fun x hx => ⟨fun h => ?_, fun _ => ?_⟩⟩
    · rw [c8z _ (by decide), bt_zero] at h
      exact absurd h (by decide)
    · rw [c8z _ (by decide), bt_zero]
  · intro x y hx hy
    unfold pbF
    rw [c8z _ (by decide), c8z _ (by decide), c8z _ (by decide), bt_zero]
    exact ⟨rfl, rfl⟩
  · unfold DrK
    rw [c8txt]
    have : u0_8.1 0 10 = nI 46 := by rw [c8]; decide
    rw [this]
    exact ⟨Or.inr rfl, by decide⟩
  · exact ⟨fun x _ => Or.inl (c8z _ (by decide)), fun x _ => Or.inl (c8z _ (by decide))⟩
  · unfold CntI
    rw [c8txt, c8z _ (by decide), c8_sm 12 (by decide)]
    rfl
  · exact ⟨0, 0, ⟨⟨by decide, by decide, c8z _ (by decide), c8z _ (by decide), c8z _ (by decide), c8z _ (by decide), fun i hi => absurd hi (by omega), fun i hi => absurd hi (by omega)⟩, Or.inl ⟨c8_27 (by decide), c8_27 (by decide)⟩⟩, Or.inl (c8z _ (by decide))⟩
/-- a call of both sides with the same answer -/
def Both (f g : St → Option (Int32 × St)) (u : St) : Prop := ∃ r u1 u2, f u = some (r, u1) ∧ g u1 = some (r, u2) ∧ Inv u2
def BothL (f g : St → Option (Int64 × St)) (u : St) : Prop := ∃ r u1 u2, f u = some (r, u1) ∧ g u1 = some (r, u2) ∧ Inv u2
def BothV (f g : St → Option St) (u : St) : Prop := ∃ u1 u2, f u = some u1 ∧ g u1 = some u2 ∧ Inv u2
section
variable {F : Nat} {u : St}
theorem io_feed (hF : 200000 ≤ F) (h : Inv u) (a b c d e : Int32) : Both (f_X11_feed F a b c d e) (f_X12_feed F a b c d e) u := by
  obtain ⟨r, u1, u2, h1, h2, h3, h4, h5⟩ := op_feed F (by omega) h.1 a b c d e
  exact ⟨r, u1, u2, h1, h2, h.tape h3 h4 h5⟩
theorem io_end (h : Inv u) (a : Int32) : Both (f_X11_end F a) (f_X12_end F a) u := by
  obtain ⟨r, u1, u2, h1, h2, h3, h4, h5⟩ := op_end F h.1 a
  exact ⟨r, u1, u2, h1, h2, h.tape h3 h4 h5⟩
theorem io_circuit (hF : 200000 ≤ F) (h : Inv u) (a : Int32) : Both (f_X11_circuit F a) (f_X12_circuit F a) u := by
  obtain ⟨r, u1, u2, h1, h2, h3, h4, h5, h6, h7⟩ := op_circuit F (by omega) h.2.1 h.2.2.1 h.2.2.2.1 h.1 a
  exact ⟨r, u1, u2, h1, h2, h6, h3, h4, h5, h.2.2.2.2.nk h7⟩
theorem io_fault (hF : 200000 ≤ F) (h : Inv u) : Both (f_X11_fault F) (f_X12_fault F) u := by
  obtain ⟨r, u1, u2, h1, h2, h3, h4, h5, h6, h7⟩ := op_fault F (by omega) h.2.1 h.2.2.1 h.2.2.2.1 h.1
  exact ⟨r, u1, u2, h1, h2, h6, h3, h4, h5, h.2.2.2.2.nk h7⟩
theorem io_arbiter (h : Inv u) (a b : Int32) (c : Bool) : Both (f_X11_arbiter F a b (b2i c)) (f_X12_arbiter F a b (b2i c)) u := by
  obtain ⟨r, u1, u2, h1, h2, h3, h4, h5⟩ := op_arbiter F h.2.1 h.2.2.1 a b c
  exact ⟨r, u1, u2, h1, h2, h.kpn h3 h4 h5⟩
theorem io_stuck (h : Inv u) (a : Int32) (c : Bool) : Both (f_X11_stuck F a (b2i c)) (f_X12_stuck F a (b2i c)) u := by
  obtain ⟨r, u1, u2, h1, h2, h3, h4, h5⟩ := op_stuck F h.2.1 h.2.2.1 a c
  exact ⟨r, u1, u2, h1, h2, h.kpn h3 h4 h5⟩
theorem io_count (hF : 200000 ≤ F) (h : Inv u) (a : Int32) : Both (f_X11_count F a) (f_X12_count F a) u := by
  obtain ⟨n, m, hn, _⟩ := h.2.2.2.2
  obtain ⟨r, u1, u2, h1, h2, h3, h4⟩ := op_count F (by omega) h.2.1 h.2.2.2.1 h.1 hn.1 a
  exact ⟨r, u1, u2, h1, h2, h.kp h3 h4⟩
theorem io_run (hF : 200000 ≤ F) (h : Inv u) (a : Int32) (s : Int64) : Both (f_X11_run F a s) (f_X12_run F a s) u := by
  obtain ⟨r, u1, u2, h1, h2, h3, h4⟩ := op_run F (by omega) h.2.1 a s
  exact ⟨r, u1, u2, h1, h2, h.kp h3 h4⟩
theorem io_changed (hF : 200000 ≤ F) (h : Inv u) (a : Int32) (s : Int64) (b : Int32) : Both (f_X11_changed F a s b) (f_X12_changed F a s b) u := by
  obtain ⟨r, u1, u2, h1, h2, h3, h4⟩ := op_changed F (by omega) h.2.1 a s b
  exact ⟨r, u1, u2, h1, h2, h.kp h3 h4⟩
theorem io_hazard (hF : 200000 ≤ F) (h : Inv u) (a b : Int32) : Both (f_X11_hazard F a b) (f_X12_hazard F a b) u := by
  obtain ⟨r, u1, u2, h1, h2, h3, h4⟩ := op_hazard F (by omega) h.2.1 a b
  exact ⟨r, u1, u2, h1, h2, h.kp h3 h4⟩
theorem io_change (hF : 200000 ≤ F) (h : Inv u) (a b : Int32) : Both (f_X11_change F a b) (f_X12_change F a b) u := by
  obtain ⟨r, u1, u2, h1, h2, h3, h4⟩ := op_change F (by omega) h.2.1 a b
  exact ⟨r, u1, u2, h1, h2, h.kp h3 h4⟩
theorem io_states (hF : 200000 ≤ F) (h : Inv u) : Both (f_X11_states F) (f_X12_states F) u := by
  obtain ⟨r, u1, u2, h1, h2, h3, h4⟩ := op_states F (by omega) h.2.1
  exact ⟨r, u1, u2, h1, h2, h.kp h3 h4⟩
theorem io_asked (hF : 200000 ≤ F) (h : Inv u) (a : Int32) : Both (f_X11_asked F a) (f_X12_asked F a) u := by
  obtain ⟨r, u1, u2, h1, h2, h3, h4⟩ := op_asked F (by omega) h.2.1 a
  exact ⟨r, u1, u2, h1, h2, h.kp h3 h4⟩
theorem io_state (hF : 200000 ≤ F) (h : Inv u) (a : Int32) : Both (f_X11_state F a) (f_X12_state F a) u := by
  obtain ⟨r, u1, u2, h1, h2, h3, h4⟩ := op_state F (by omega) h.2.1 a
  exact ⟨r, u1, u2, h1, h2, h.kp h3 h4⟩
theorem io_place (hF : 200000 ≤ F) (h : Inv u) (a : Int32) : Both (f_X11_place F a) (f_X12_place F a) u := by
  obtain ⟨r, u1, u2, h1, h2, h3, h4⟩ := op_place F (by omega) h.2.1 a
  exact ⟨r, u1, u2, h1, h2, h.kp h3 h4⟩
theorem io_stop (hF : 200000 ≤ F) (h : Inv u) (a : Int32) : Both (f_X11_stop F a) (f_X12_stop F a) u := by
  obtain ⟨r, u1, u2, h1, h2, h3, h4⟩ := op_stop F (by omega) h.2.1 a
  exact ⟨r, u1, u2, h1, h2, h.kp h3 h4⟩
theorem io_way (hF : 200000 ≤ F) (h : Inv u) (a : Int32) : Both (f_X11_way F a) (f_X12_way F a) u := by
  obtain ⟨r, u1, u2, h1, h2, h3, h4⟩ := op_way F (by omega) h.2.1 a
  exact ⟨r, u1, u2, h1, h2, h.kp h3 h4⟩
theorem io_live (hF : 200000 ≤ F) (h : Inv u) (a : Int32) : Both (f_X11_live F a) (f_X12_live F a) u := by
  obtain ⟨r, u1, u2, h1, h2, h3, h4⟩ := op_live F (by omega) h.2.1 a
  exact ⟨r, u1, u2, h1, h2, h.kp h3 h4⟩
theorem io_both (hF : 200000 ≤ F) (h : Inv u) (a : Int32) : Both (f_X11_both F a) (f_X12_both F a) u := by
  obtain ⟨r, u1, u2, h1, h2, h3, h4⟩ := op_both F (by omega) h.2.1 a
  exact ⟨r, u1, u2, h1, h2, h.kp h3 h4⟩
theorem io_node (h : Inv u) (a : Int32) : Both (f_X11_node F a) (f_X12_node F a) u := by
  obtain ⟨n, m, hn, _⟩ := h.2.2.2.2
  obtain ⟨r, u1, u2, n', h1, h2, h3, h4⟩ := op_node F hn.1 a
  exact ⟨r, u1, u2, h1, h2, h.ntf h3 h4⟩
theorem io_arc (h : Inv u) (a b c : Int32) : Both (f_X11_arc F a b c) (f_X12_arc F a b c) u := by
  obtain ⟨n, m, hn, _⟩ := h.2.2.2.2
  obtain ⟨r, u1, u2, n', h1, h2, h3, h4⟩ := op_arc F hn.1 a b c
  exact ⟨r, u1, u2, h1, h2, h.ntf h3 h4⟩
theorem io_tokens (h : Inv u) (a b : Int32) : Both (f_X11_tokens F a b) (f_X12_tokens F a b) u := by
  obtain ⟨n, m, hn, _⟩ := h.2.2.2.2
  obtain ⟨r, u1, u2, h1, h2, h3, h4⟩ := op_tokens F hn.1 a b
  exact ⟨r, u1, u2, h1, h2, h.ntf h3 h4⟩
theorem io_clear (h : Inv u) : BothV (f_X11_clear F) (f_X12_clear F) u := by
  obtain ⟨n, m, hn, _⟩ := h.2.2.2.2
  obtain ⟨u1, u2, h1, h2, h3, h4⟩ := op_clear F hn.1
  exact ⟨u1, u2, h1, h2, h.ntf h3 h4⟩
theorem io_dead (hF : 200000 ≤ F) (h : Inv u) : Both (f_X11_dead F) (f_X12_dead F) u := by
  obtain ⟨n, m, hn, hm⟩ := h.2.2.2.2
  obtain ⟨r, u1, u2, h1, h2, h3, h4⟩ := op_dead2 F (by omega) hn
  exact ⟨r, u1, u2, h1, h2, h.rt h3 hm h4⟩
theorem io_turn (hF : 200000 ≤ F) (h : Inv u) (a : Int32) : BothL (f_X11_turn F a) (f_X12_turn F a) u := by
  obtain ⟨n, m, hn, hm⟩ := h.2.2.2.2
  obtain ⟨r, u1, u2, h1, h2, h3, h4⟩ := op_turn F hF hn a
  exact ⟨r, u1, u2, h1, h2, h.rt h3 hm h4⟩
theorem io_helps (hF : 200000 ≤ F) (h : Inv u) : Both (f_X11_helps F) (f_X12_helps F) u := by
  obtain ⟨n, m, hn, hm⟩ := h.2.2.2.2
  obtain ⟨r, u1, u2, h1, h2, h3, h4⟩ := op_helps F hF hn
  exact ⟨r, u1, u2, h1, h2, h.rt h3 hm h4⟩
end
