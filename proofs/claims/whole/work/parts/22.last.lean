theorem i_vc_restart {k : Nat} {u : SX} {v : SY} (I : i_Rel k u v) (hk : k + 3 ≤ 1536) : wpX_restart (fun u' => wpY_restart (fun v' => i_Rel (k + 3) u' v') v) u := by
  obtain ⟨T, N, a, f_time, f_running, f_pending, f_roundsBegun, f_open, f_depth, f_tasks, f_begun, a_variables, a_row, a_inputs, a_outputs, a_timerOn, a_timerBegin, a_timerElapsed, a_timerDone, a_counterLast, a_counterValue, a_counterDone, a_edgeLast, a_edgeDone, a_tokens, a_lengths, a_ends, a_worths, a_pendingPlaces, a_pendingRounds, a_pendingLimits, b_tokens, b_ends, b_wants, a_numbers, a_taskKind, a_taskAt, a_taskRounds, a_taskLimit, rfl, rfl, ⟨ha, hb01, heb, hpr, hrun⟩⟩ := I
  exact cc_xres (cc_yres (cc_rel ⟨ha, cc_zr_b01 hb01 3 0, heb, hpr, hrun⟩))

theorem i_vc_digest {k : Nat} {u : SX} {v : SY} (I : i_Rel k u v) (hk : k + 3 ≤ 1536) : wpX_digest (fun r => wpY_digest (fun r' => r' = r ∧ i_Rel (k + 3) u v) v) u := by
  have I' : i_Rel (k + 3) u v := I
  obtain ⟨T, N, a, f_time, f_running, f_pending, f_roundsBegun, f_open, f_depth, f_tasks, f_begun, a_variables, a_row, a_inputs, a_outputs, a_timerOn, a_timerBegin, a_timerElapsed, a_timerDone, a_counterLast, a_counterValue, a_counterDone, a_edgeLast, a_edgeDone, a_tokens, a_lengths, a_ends, a_worths, a_pendingPlaces, a_pendingRounds, a_pendingLimits, b_tokens, b_ends, b_wants, a_numbers, a_taskKind, a_taskAt, a_taskRounds, a_taskLimit, rfl, rfl, ⟨ha, hb01, heb, hpr, hrun⟩⟩ := I
  exact cc_xdig (cc_ydig ⟨rfl, I'⟩)
