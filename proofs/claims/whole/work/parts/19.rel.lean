def cc_I (T : Nat → Nat → Nat) (N : Nat → Nat) (a : Nat) (f_running : Int32) (a_timerOn a_tokens a_lengths a_ends b_tokens : Nat → Int32) : Prop :=
  a < 2 ∧ cc_b01 a_timerOn ∧ cc_eb a_ends ∧
  (∀ p, p < 2 → N p ≤ 60 ∧ a_lengths p = nI (N p) ∧ cc_ok (T p) (N p) ∧ (∀ i, i < N p → a_tokens (p * 61 + i) = nI (T p i)) ∧ (∀ i, i < N p → b_tokens (60 * p + i) = nI (T p i))) ∧
  (¬ f_running = 0 → cc_h (T a) (N a) = 0 ∧ ∀ i, i < N a → a_ends i = nI (cc_en (T a) i))

def i_Rel (k : Nat) (u : SX) (v : SY) : Prop :=
  ∃ (T : Nat → Nat → Nat) (N : Nat → Nat) (a : Nat) (f_time f_running f_pending f_roundsBegun f_open f_depth f_tasks f_begun : Int32) (a_variables a_row a_inputs a_outputs a_timerOn a_timerBegin a_timerElapsed a_timerDone a_counterLast a_counterValue a_counterDone a_edgeLast a_edgeDone a_tokens a_lengths a_ends a_worths a_pendingPlaces a_pendingRounds a_pendingLimits b_tokens b_ends b_wants a_numbers a_taskKind a_taskAt a_taskRounds a_taskLimit : Nat → Int32), u = (f_time, nI a, f_running, f_pending, f_roundsBegun, a_variables, a_row, a_inputs, a_outputs, a_timerOn, a_timerBegin, a_timerElapsed, a_timerDone, a_counterLast, a_counterValue, a_counterDone, a_edgeLast, a_edgeDone, a_tokens, a_lengths, a_ends, a_worths, a_pendingPlaces, a_pendingRounds, a_pendingLimits) ∧ v = (f_time, nI a, f_running, f_open, f_depth, f_tasks, f_begun, a_variables, a_row, a_inputs, a_outputs, a_timerOn, a_timerBegin, a_timerElapsed, a_timerDone, a_counterLast, a_counterValue, a_counterDone, a_edgeLast, a_edgeDone, a_lengths, b_tokens, b_ends, b_wants, a_numbers, a_taskKind, a_taskAt, a_taskRounds, a_taskLimit) ∧ cc_I T N a f_running a_timerOn a_tokens a_lengths a_ends b_tokens

theorem i_up {k : Nat} {u : SX} {v : SY} (h : i_Rel k u v) : i_Rel (k + 3) u v := h

section
variable {f_time f_running f_pending f_roundsBegun f_open f_depth f_tasks f_begun : Int32} {a_variables a_row a_inputs a_outputs a_timerOn a_timerBegin a_timerElapsed a_timerDone a_counterLast a_counterValue a_counterDone a_edgeLast a_edgeDone a_tokens a_lengths a_ends a_worths a_pendingPlaces a_pendingRounds a_pendingLimits b_tokens b_ends b_wants a_numbers a_taskKind a_taskAt a_taskRounds a_taskLimit : Nat → Int32}
theorem cc_rel {T : Nat → Nat → Nat} {N : Nat → Nat} {a k : Nat} (h : cc_I T N a f_running a_timerOn a_tokens a_lengths a_ends b_tokens) :
    i_Rel k (f_time, nI a, f_running, f_pending, f_roundsBegun, a_variables, a_row, a_inputs, a_outputs, a_timerOn, a_timerBegin, a_timerElapsed, a_timerDone, a_counterLast, a_counterValue, a_counterDone, a_edgeLast, a_edgeDone, a_tokens, a_lengths, a_ends, a_worths, a_pendingPlaces, a_pendingRounds, a_pendingLimits) (f_time, nI a, f_running, f_open, f_depth, f_tasks, f_begun, a_variables, a_row, a_inputs, a_outputs, a_timerOn, a_timerBegin, a_timerElapsed, a_timerDone, a_counterLast, a_counterValue, a_counterDone, a_edgeLast, a_edgeDone, a_lengths, b_tokens, b_ends, b_wants, a_numbers, a_taskKind, a_taskAt, a_taskRounds, a_taskLimit) := ⟨_, _, _, _, _, _, _, _, _, _, _, _, _, _, _, _, _, _, _, _, _, _, _, _, _, _, _, _, _, _, _, _, _, _, _, _, _, _, _, rfl, rfl, h⟩
end

theorem i_vc0 : wpX_init (fun u => wpY_init (fun v => i_Rel 0 u v)) := by
  have h : cc_I (fun _ _ => 0) (fun _ => 0) 0 0 (fun _ => 0) (fun _ => 0) (fun _ => 0) (fun _ => 0) (fun _ => 0) := by
    exact ⟨by decide, fun _ => Or.inl rfl, fun j _ => ⟨0, Nat.zero_le _, rfl⟩, fun p _ => ⟨Nat.zero_le _, rfl, fun k hk => absurd hk (Nat.not_lt_zero _), fun i hi => absurd hi (Nat.not_lt_zero _), fun i hi => absurd hi (Nat.not_lt_zero _)⟩, fun z => absurd rfl z⟩
  exact cc_rel (a := 0) (k := 0) h

theorem cc_big {x : Int32} {N : Nat} (h : nI N ≤ x) (hN : N < 2147483648) : ¬ x < 0 ∧ ¬ x < nI N ∧ (∀ M, M < N → ¬ x ≤ nI M) := by
  have hT := cc_tI hN
  simp only [Int32.le_iff_toInt_le, hT] at h
  refine ⟨?_, ?_, fun M hM => ?_⟩
  · simp only [Int32.lt_iff_toInt_lt, Int32.reduceToInt]; omega
  · simp only [Int32.lt_iff_toInt_lt, hT]; omega
  · have hT2 := cc_tI (show M < 2147483648 by omega)
    simp only [Int32.le_iff_toInt_le, hT2]; omega

theorem i_vc_halt {k : Nat} {u : SX} {v : SY} (I : i_Rel k u v) (hk : k + 3 ≤ 1536) : wpX_halt (fun r u' => wpY_halt (fun r' v' => r' = r ∧ i_Rel (k + 3) u' v') v) u := by
  obtain ⟨T, N, a, f_time, f_running, f_pending, f_roundsBegun, f_open, f_depth, f_tasks, f_begun, a_variables, a_row, a_inputs, a_outputs, a_timerOn, a_timerBegin, a_timerElapsed, a_timerDone, a_counterLast, a_counterValue, a_counterDone, a_edgeLast, a_edgeDone, a_tokens, a_lengths, a_ends, a_worths, a_pendingPlaces, a_pendingRounds, a_pendingLimits, b_tokens, b_ends, b_wants, a_numbers, a_taskKind, a_taskAt, a_taskRounds, a_taskLimit, rfl, rfl, ⟨ha, hb01, heb, hpr, hrun⟩⟩ := I
  have hI : cc_I T N a 0 a_timerOn a_tokens a_lengths a_ends b_tokens := ⟨ha, hb01, heb, hpr, fun z => absurd rfl z⟩
  exact br_c (fun z => br_t z ⟨rfl, cc_rel hI⟩) (fun z => br_f z ⟨rfl, cc_rel hI⟩)

theorem i_vc_input {k : Nat} {u : SX} {v : SY} (I : i_Rel k u v) (hk : k + 3 ≤ 1536) (v1 : Int32) (v2 : Int32) : wpX_input (fun r u' => wpY_input (fun r' v' => r' = r ∧ i_Rel (k + 3) u' v') v v1 v2) u v1 v2 := by
  obtain ⟨T, N, a, f_time, f_running, f_pending, f_roundsBegun, f_open, f_depth, f_tasks, f_begun, a_variables, a_row, a_inputs, a_outputs, a_timerOn, a_timerBegin, a_timerElapsed, a_timerDone, a_counterLast, a_counterValue, a_counterDone, a_edgeLast, a_edgeDone, a_tokens, a_lengths, a_ends, a_worths, a_pendingPlaces, a_pendingRounds, a_pendingLimits, b_tokens, b_ends, b_wants, a_numbers, a_taskKind, a_taskAt, a_taskRounds, a_taskLimit, rfl, rfl, ⟨ha, hb01, heb, hpr, hrun⟩⟩ := I
  have hI : cc_I T N a f_running a_timerOn a_tokens a_lengths a_ends b_tokens := ⟨ha, hb01, heb, hpr, hrun⟩
  rcases pk_ix v1 (n := 4) (by omega) with h | h | ⟨j, hj, rfl⟩
  · exact br_t h (br_t h ⟨rfl, cc_rel hI⟩)
  · obtain ⟨b1, b2, b3⟩ := cc_big h (by omega)
    exact br_f b1 (br_f b2 (br_f b1 (br_f (b3 3 (by omega)) ⟨rfl, cc_rel hI⟩)))
  · have hv : vp_in (nI j) 4 := vp_in_nI hj (by omega)
    refine br_f (cc_nlt j 0 (by omega)) (br_t (cc_lt j 4 hj) ⟨hv, nm_e ?_⟩)
    exact br_f (cc_nlt j 0 (by omega)) (br_t (cc_le j 3 (by omega)) ⟨hv, nm_e ⟨rfl, cc_rel hI⟩⟩)

theorem i_vc_poke {k : Nat} {u : SX} {v : SY} (I : i_Rel k u v) (hk : k + 3 ≤ 1536) (v1 : Int32) (v2 : Int32) : wpX_poke (fun r u' => wpY_poke (fun r' v' => r' = r ∧ i_Rel (k + 3) u' v') v v1 v2) u v1 v2 := by
  obtain ⟨T, N, a, f_time, f_running, f_pending, f_roundsBegun, f_open, f_depth, f_tasks, f_begun, a_variables, a_row, a_inputs, a_outputs, a_timerOn, a_timerBegin, a_timerElapsed, a_timerDone, a_counterLast, a_counterValue, a_counterDone, a_edgeLast, a_edgeDone, a_tokens, a_lengths, a_ends, a_worths, a_pendingPlaces, a_pendingRounds, a_pendingLimits, b_tokens, b_ends, b_wants, a_numbers, a_taskKind, a_taskAt, a_taskRounds, a_taskLimit, rfl, rfl, ⟨ha, hb01, heb, hpr, hrun⟩⟩ := I
  have hI : cc_I T N a f_running a_timerOn a_tokens a_lengths a_ends b_tokens := ⟨ha, hb01, heb, hpr, hrun⟩
  rcases pk_ix v1 (n := 16) (by omega) with h | h | ⟨j, hj, rfl⟩
  · exact br_t h (br_t h ⟨rfl, cc_rel hI⟩)
  · obtain ⟨b1, b2, b3⟩ := cc_big h (by omega)
    exact br_f b1 (br_f b2 (br_f b1 (br_f (b3 15 (by omega)) ⟨rfl, cc_rel hI⟩)))
  · have hv : vp_in (nI j) 16 := vp_in_nI hj (by omega)
    refine br_f (cc_nlt j 0 (by omega)) (br_t (cc_lt j 16 hj) ⟨hv, nm_e ?_⟩)
    exact br_f (cc_nlt j 0 (by omega)) (br_t (cc_le j 15 (by omega)) ⟨hv, nm_e ⟨rfl, cc_rel hI⟩⟩)

theorem i_vc_variable {k : Nat} {u : SX} {v : SY} (I : i_Rel k u v) (hk : k + 3 ≤ 1536) (v1 : Int32) : wpX_variable (fun r => wpY_variable (fun r' => r' = r ∧ i_Rel (k + 3) u v) v v1) u v1 := by
  have I' : i_Rel (k + 3) u v := I
  obtain ⟨T, N, a, f_time, f_running, f_pending, f_roundsBegun, f_open, f_depth, f_tasks, f_begun, a_variables, a_row, a_inputs, a_outputs, a_timerOn, a_timerBegin, a_timerElapsed, a_timerDone, a_counterLast, a_counterValue, a_counterDone, a_edgeLast, a_edgeDone, a_tokens, a_lengths, a_ends, a_worths, a_pendingPlaces, a_pendingRounds, a_pendingLimits, b_tokens, b_ends, b_wants, a_numbers, a_taskKind, a_taskAt, a_taskRounds, a_taskLimit, rfl, rfl, ⟨ha, hb01, heb, hpr, hrun⟩⟩ := I
  rcases pk_ix v1 (n := 16) (by omega) with h | h | ⟨j, hj, rfl⟩
  · exact br_t h (br_t h ⟨rfl, I'⟩)
  · obtain ⟨b1, b2, b3⟩ := cc_big h (by omega)
    exact br_f b1 (br_t h (br_f b1 (br_f (b3 15 (by omega)) ⟨rfl, I'⟩)))
  · have hv : vp_in (nI j) 16 := vp_in_nI hj (by omega)
    exact br_f (cc_nlt j 0 (by omega)) (br_f (cc_nle 16 j hj) ⟨hv, br_f (cc_nlt j 0 (by omega)) (br_t (cc_le j 15 (by omega)) ⟨hv, rfl, I'⟩)⟩)

theorem i_vc_cell {k : Nat} {u : SX} {v : SY} (I : i_Rel k u v) (hk : k + 3 ≤ 1536) (v1 : Int32) : wpX_cell (fun r => wpY_cell (fun r' => r' = r ∧ i_Rel (k + 3) u v) v v1) u v1 := by
  have I' : i_Rel (k + 3) u v := I
  obtain ⟨T, N, a, f_time, f_running, f_pending, f_roundsBegun, f_open, f_depth, f_tasks, f_begun, a_variables, a_row, a_inputs, a_outputs, a_timerOn, a_timerBegin, a_timerElapsed, a_timerDone, a_counterLast, a_counterValue, a_counterDone, a_edgeLast, a_edgeDone, a_tokens, a_lengths, a_ends, a_worths, a_pendingPlaces, a_pendingRounds, a_pendingLimits, b_tokens, b_ends, b_wants, a_numbers, a_taskKind, a_taskAt, a_taskRounds, a_taskLimit, rfl, rfl, ⟨ha, hb01, heb, hpr, hrun⟩⟩ := I
  rcases pk_ix v1 (n := 8) (by omega) with h | h | ⟨j, hj, rfl⟩
  · exact br_t h (br_t h ⟨rfl, I'⟩)
  · obtain ⟨b1, b2, b3⟩ := cc_big h (by omega)
    exact br_f b1 (br_t h (br_f b1 (br_f (b3 7 (by omega)) ⟨rfl, I'⟩)))
  · have hv : vp_in (nI j) 8 := vp_in_nI hj (by omega)
    exact br_f (cc_nlt j 0 (by omega)) (br_f (cc_nle 8 j hj) ⟨hv, br_f (cc_nlt j 0 (by omega)) (br_t (cc_le j 7 (by omega)) ⟨hv, rfl, I'⟩)⟩)

theorem i_vc_output {k : Nat} {u : SX} {v : SY} (I : i_Rel k u v) (hk : k + 3 ≤ 1536) (v1 : Int32) : wpX_output (fun r => wpY_output (fun r' => r' = r ∧ i_Rel (k + 3) u v) v v1) u v1 := by
  have I' : i_Rel (k + 3) u v := I
  obtain ⟨T, N, a, f_time, f_running, f_pending, f_roundsBegun, f_open, f_depth, f_tasks, f_begun, a_variables, a_row, a_inputs, a_outputs, a_timerOn, a_timerBegin, a_timerElapsed, a_timerDone, a_counterLast, a_counterValue, a_counterDone, a_edgeLast, a_edgeDone, a_tokens, a_lengths, a_ends, a_worths, a_pendingPlaces, a_pendingRounds, a_pendingLimits, b_tokens, b_ends, b_wants, a_numbers, a_taskKind, a_taskAt, a_taskRounds, a_taskLimit, rfl, rfl, ⟨ha, hb01, heb, hpr, hrun⟩⟩ := I
  rcases pk_ix v1 (n := 4) (by omega) with h | h | ⟨j, hj, rfl⟩
  · exact br_t h (br_t h ⟨rfl, I'⟩)
  · obtain ⟨b1, b2, b3⟩ := cc_big h (by omega)
    exact br_f b1 (br_t h (br_f b1 (br_f (b3 3 (by omega)) ⟨rfl, I'⟩)))
  · have hv : vp_in (nI j) 4 := vp_in_nI hj (by omega)
    exact br_f (cc_nlt j 0 (by omega)) (br_f (cc_nle 4 j hj) ⟨hv, br_f (cc_nlt j 0 (by omega)) (br_t (cc_le j 3 (by omega)) ⟨hv, rfl, I'⟩)⟩)

def cc_bk (el td cv cd ed : Nat → Int32) (j : Nat) (y : Int32) : Int32 :=
  if y = 0 then el j else if y = 1 then td j else if y = 2 then cv j else if y = 3 then cd j else if y = 4 then ed j else 0

theorem cc_bk0 {el td cv cd ed : Nat → Int32} {j : Nat} {y : Int32} (h : y < 0 ∨ 4 < y) : cc_bk el td cv cd ed j y = 0 := by
  unfold cc_bk
  have n : ∀ c : Int32, ¬ (c < 0 ∨ 4 < c) → ¬ y = c := fun c hc e => hc (e ▸ h)
  rw [if_neg (n 0 (by decide)), if_neg (n 1 (by decide)), if_neg (n 2 (by decide)), if_neg (n 3 (by decide)), if_neg (n 4 (by decide))]

section
variable {f_time f_active f_running f_pending f_roundsBegun : Int32} {a_variables a_row a_inputs a_outputs a_timerOn a_timerBegin a_timerElapsed a_timerDone a_counterLast a_counterValue a_counterDone a_edgeLast a_edgeDone a_tokens a_lengths a_ends a_worths a_pendingPlaces a_pendingRounds a_pendingLimits : Nat → Int32}
theorem cc_xbk {post : Int32 → Prop} {j : Nat} {y : Int32} (hj : j < 3) (h : post (cc_bk a_timerElapsed a_timerDone a_counterValue a_counterDone a_edgeDone j y)) : wpX_block post (f_time, f_active, f_running, f_pending, f_roundsBegun, a_variables, a_row, a_inputs, a_outputs, a_timerOn, a_timerBegin, a_timerElapsed, a_timerDone, a_counterLast, a_counterValue, a_counterDone, a_edgeLast, a_edgeDone, a_tokens, a_lengths, a_ends, a_worths, a_pendingPlaces, a_pendingRounds, a_pendingLimits) (nI j) y := by
  have hv : vp_in (nI j) 3 := vp_in_nI hj (by omega)
  have hc : (nI j).toNatClampNeg = j := nI_clamp (by omega)
  refine br_f (cc_nlt j 0 (by omega)) (br_t (cc_lt j 3 hj) ?_)
  rw [hc]
  refine br_c (fun z => by rw [cc_bk0 (Or.inl z)] at h; exact h) (fun z => ?_)
  refine br_c (fun z1 => by rw [cc_bk0 (Or.inr z1)] at h; exact h) (fun z1 => ?_)
  unfold cc_bk at h
  refine br_c (fun y0 => ⟨hv, by rw [if_pos y0] at h; exact h⟩) (fun y0 => ?_)
  rw [if_neg y0] at h
  refine br_c (fun y0 => ⟨hv, by rw [if_pos y0] at h; exact h⟩) (fun y0 => ?_)
  rw [if_neg y0] at h
  refine br_c (fun y0 => ⟨hv, by rw [if_pos y0] at h; exact h⟩) (fun y0 => ?_)
  rw [if_neg y0] at h
  refine br_c (fun y0 => ⟨hv, by rw [if_pos y0] at h; exact h⟩) (fun y0 => ?_)
  rw [if_neg y0] at h
  exact br_c (fun y0 => ⟨hv, by rw [if_pos y0] at h; exact h⟩) (fun y0 => trivial)
end
section
variable {f_time f_active f_running f_open f_depth f_tasks f_begun : Int32} {a_variables a_cells a_inputs a_outputs a_timerOn a_timerBegin a_timerElapsed a_timerDone a_counterLast a_counterValue a_counterDone a_edgeLast a_edgeDone a_sizes a_tokens a_ends a_wants a_numbers a_taskKind a_taskAt a_taskRounds a_taskLimit : Nat → Int32}
theorem cc_ybk {post : Int32 → Prop} {j : Nat} {y : Int32} (hj : j < 3) (h : post (cc_bk a_timerElapsed a_timerDone a_counterValue a_counterDone a_edgeDone j y)) : wpY_block post (f_time, f_active, f_running, f_open, f_depth, f_tasks, f_begun, a_variables, a_cells, a_inputs, a_outputs, a_timerOn, a_timerBegin, a_timerElapsed, a_timerDone, a_counterLast, a_counterValue, a_counterDone, a_edgeLast, a_edgeDone, a_sizes, a_tokens, a_ends, a_wants, a_numbers, a_taskKind, a_taskAt, a_taskRounds, a_taskLimit) (nI j) y := by
  have hv : vp_in (nI j) 3 := vp_in_nI hj (by omega)
  have hc : (nI j).toNatClampNeg = j := nI_clamp (by omega)
  refine br_f (cc_nlt j 0 (by omega)) (br_t (cc_le j 2 (by omega)) ?_)
  rw [hc]
  unfold cc_bk at h
  refine br_c (fun y0 => ⟨hv, by rw [if_pos y0] at h; exact h⟩) (fun y0 => ?_)
  rw [if_neg y0] at h
  refine br_c (fun y0 => ⟨hv, by rw [if_pos y0] at h; exact h⟩) (fun y0 => ?_)
  rw [if_neg y0] at h
  refine br_c (fun y0 => ⟨hv, by rw [if_pos y0] at h; exact h⟩) (fun y0 => ?_)
  rw [if_neg y0] at h
  refine br_c (fun y0 => ⟨hv, by rw [if_pos y0] at h; exact h⟩) (fun y0 => ?_)
  rw [if_neg y0] at h
  exact br_c (fun y0 => ⟨hv, by rw [if_pos y0] at h; exact h⟩) (fun y0 => by rw [if_neg y0] at h; exact h)
end

theorem i_vc_block {k : Nat} {u : SX} {v : SY} (I : i_Rel k u v) (hk : k + 3 ≤ 1536) (v1 : Int32) (v2 : Int32) : wpX_block (fun r => wpY_block (fun r' => r' = r ∧ i_Rel (k + 3) u v) v v1 v2) u v1 v2 := by
  have I' : i_Rel (k + 3) u v := I
  obtain ⟨T, N, a, f_time, f_running, f_pending, f_roundsBegun, f_open, f_depth, f_tasks, f_begun, a_variables, a_row, a_inputs, a_outputs, a_timerOn, a_timerBegin, a_timerElapsed, a_timerDone, a_counterLast, a_counterValue, a_counterDone, a_edgeLast, a_edgeDone, a_tokens, a_lengths, a_ends, a_worths, a_pendingPlaces, a_pendingRounds, a_pendingLimits, b_tokens, b_ends, b_wants, a_numbers, a_taskKind, a_taskAt, a_taskRounds, a_taskLimit, rfl, rfl, ⟨ha, hb01, heb, hpr, hrun⟩⟩ := I
  rcases pk_ix v1 (n := 3) (by omega) with h | h | ⟨j, hj, rfl⟩
  · exact br_t h (br_t h ⟨rfl, I'⟩)
  · obtain ⟨b1, b2, b3⟩ := cc_big h (by omega)
    exact br_f b1 (br_f b2 (br_f b1 (br_f (b3 2 (by omega)) ⟨rfl, I'⟩)))
  · exact cc_xbk hj (cc_ybk hj ⟨rfl, I'⟩)

theorem i_vc_cycle {k : Nat} {u : SX} {v : SY} (I : i_Rel k u v) (hk : k + 3 ≤ 1536) (v1 : Int32) : wpX_cycle (fun r u' => wpY_cycle (fun r' v' => r' = r ∧ i_Rel (k + 3) u' v') v v1) u v1 := by
  obtain ⟨T, N, a, f_time, f_running, f_pending, f_roundsBegun, f_open, f_depth, f_tasks, f_begun, a_variables, a_row, a_inputs, a_outputs, a_timerOn, a_timerBegin, a_timerElapsed, a_timerDone, a_counterLast, a_counterValue, a_counterDone, a_edgeLast, a_edgeDone, a_tokens, a_lengths, a_ends, a_worths, a_pendingPlaces, a_pendingRounds, a_pendingLimits, b_tokens, b_ends, b_wants, a_numbers, a_taskKind, a_taskAt, a_taskRounds, a_taskLimit, rfl, rfl, ⟨ha, hb01, heb, hpr, hrun⟩⟩ := I
  have hI : cc_I T N a f_running a_timerOn a_tokens a_lengths a_ends b_tokens := ⟨ha, hb01, heb, hpr, hrun⟩
  by_cases h0 : v1 < 0
  · exact br_t h0 (br_t h0 ⟨rfl, cc_rel hI⟩)
  · refine br_f h0 ?_
    by_cases h1 : v1 ≤ 100
    · refine br_t h1 ?_
      by_cases h2 : f_running = 0
      · exact br_t h2 (br_f h0 (br_t h1 (br_t h2 ⟨rfl, cc_rel hI⟩)))
      · refine br_f h2 (nm_e ?_)
        obtain ⟨p1, p2, p3, p4, p5⟩ := hpr a ha
        obtain ⟨r1, r2⟩ := hrun h2
        have CX : cc_XC (T a) (N a) a a_tokens a_ends := ⟨⟨p3, r1, p1⟩, ha, p4, heb, r2⟩
        obtain ⟨a_variables_2, a_row_2, a_outputs_2, a_timerOn_2, a_timerBegin_2, a_timerElapsed_2, a_timerDone_2, a_counterLast_2, a_counterValue_2, a_counterDone_2, a_edgeLast_2, a_edgeDone_2, hb2, hX, hY⟩ := cc_carry (f_time := f_time + v1) (f_running := f_running) (f_pending := f_pending) (f_roundsBegun := f_roundsBegun) (f_open := f_open) (f_depth := f_depth) (f_tasks := f_tasks) (f_begun := f_begun) (a_variables := a_variables) (a_row := a_row) (a_inputs := a_inputs) (a_outputs := a_outputs) (a_timerBegin := a_timerBegin) (a_timerElapsed := a_timerElapsed) (a_timerDone := a_timerDone) (a_counterLast := a_counterLast) (a_counterValue := a_counterValue) (a_counterDone := a_counterDone) (a_edgeLast := a_edgeLast) (a_edgeDone := a_edgeDone) (a_lengths := a_lengths) (a_worths := a_worths) (a_pendingPlaces := a_pendingPlaces) (a_pendingRounds := a_pendingRounds) (a_pendingLimits := a_pendingLimits) (b_ends := b_ends) (b_wants := b_wants) (a_numbers := a_numbers) (a_taskKind := a_taskKind) (a_taskAt := a_taskAt) (a_taskRounds := a_taskRounds) (a_taskLimit := a_taskLimit) CX hb01 p2 p5
        have hI2 : cc_I T N a f_running a_timerOn_2 a_tokens a_lengths a_ends b_tokens := ⟨ha, hb2, heb, hpr, hrun⟩
        refine hX _ (fun fp fr w pp pr pl => ?_)
        refine br_f h0 (br_t h1 (br_f h2 (nm_e ?_)))
        refine hY _ (fun ft fb e num tk ta tr tl => ?_)
        exact ⟨rfl, cc_rel hI2⟩
    · exact br_f h1 (br_f h0 (br_f h1 ⟨rfl, cc_rel hI⟩))
