theorem cc_wh_pos {T : Nat → Nat} {n : Nat} (w : cc_wh T n) : 0 < n := by
  by_cases h : n = 0
  · have := w.2.1
    rw [h] at this
    simp [cc_h, cc_sk] at this
  · omega

section
variable {f_time f_active f_running f_pending f_roundsBegun : Int32} {a_variables a_row a_inputs a_outputs a_timerOn a_timerBegin a_timerElapsed a_timerDone a_counterLast a_counterValue a_counterDone a_edgeLast a_edgeDone a_tokens a_lengths a_ends a_worths a_pendingPlaces a_pendingRounds a_pendingLimits : Nat → Int32}
variable {f_open f_depth f_tasks f_begun : Int32} {b_sizes b_tokens b_ends b_wants a_numbers a_taskKind a_taskAt a_taskRounds a_taskLimit : Nat → Int32}

theorem cc_carry {T : Nat → Nat} {n a : Nat} (C : cc_XC T n a a_tokens a_ends) (hb01 : cc_b01 a_timerOn)
    (hlen : b_sizes a = nI n) (htok : ∀ i, i < n → b_tokens (60 * a + i) = nI (T i)) :
    ∃ a_variables_2 a_row_2 a_outputs_2 a_timerOn_2 a_timerBegin_2 a_timerElapsed_2 a_timerDone_2 a_counterLast_2 a_counterValue_2 a_counterDone_2 a_edgeLast_2 a_edgeDone_2 : Nat → Int32, cc_b01 a_timerOn_2 ∧
    (∀ (post : SX → Prop), (∀ (fp fr : Int32) (w pp pr pl : Nat → Int32), post (f_time, nI a, f_running, fp, fr, a_variables_2, a_row_2, a_inputs, a_outputs_2, a_timerOn_2, a_timerBegin_2, a_timerElapsed_2, a_timerDone_2, a_counterLast_2, a_counterValue_2, a_counterDone_2, a_edgeLast_2, a_edgeDone_2, a_tokens, a_lengths, a_ends, w, pp, pr, pl)) → wpX_carryOut post (f_time, nI a, f_running, f_pending, f_roundsBegun, a_variables, a_row, a_inputs, a_outputs, a_timerOn, a_timerBegin, a_timerElapsed, a_timerDone, a_counterLast, a_counterValue, a_counterDone, a_edgeLast, a_edgeDone, a_tokens, a_lengths, a_ends, a_worths, a_pendingPlaces, a_pendingRounds, a_pendingLimits)) ∧
    (∀ (post : SY → Prop), (∀ (ft fb : Int32) (e num tk ta tr tl : Nat → Int32), post (f_time, nI a, f_running, f_open, 0, ft, fb, a_variables_2, a_row_2, a_inputs, a_outputs_2, a_timerOn_2, a_timerBegin_2, a_timerElapsed_2, a_timerDone_2, a_counterLast_2, a_counterValue_2, a_counterDone_2, a_edgeLast_2, a_edgeDone_2, b_sizes, b_tokens, e, b_wants, num, tk, ta, tr, tl)) → wpY_carryOut post (f_time, nI a, f_running, f_open, f_depth, f_tasks, f_begun, a_variables, a_row, a_inputs, a_outputs, a_timerOn, a_timerBegin, a_timerElapsed, a_timerDone, a_counterLast, a_counterValue, a_counterDone, a_edgeLast, a_edgeDone, b_sizes, b_tokens, b_ends, b_wants, a_numbers, a_taskKind, a_taskAt, a_taskRounds, a_taskLimit) (nI a)) := by
  have w := C.1
  have hn := w.2.2
  have h0 := cc_wh_pos w
  have ha := C.2.1
  have CY : cc_YC T n a b_tokens (cc_me T n a b_ends) := ⟨w, ha, htok, fun i hi => cc_me_in hi⟩
  have hst : cc_st (T 0) = true := (Option.some.inj (w.1 0 h0).1).symm
  have hle := cc_en_le w h0
  have hso : cc_so T n [(0, 0, 0)] 0 0 := ⟨0, n, ⟨rfl, rfl⟩, Nat.le_refl _, h0, hle, hst, by show (0 : Nat) ≤ 21; omega, Or.inl ⟨rfl, rfl, rfl⟩⟩
  obtain ⟨a_variables_2, a_row_2, a_outputs_2, a_timerOn_2, a_timerBegin_2, a_timerElapsed_2, a_timerDone_2, a_counterLast_2, a_counterValue_2, a_counterDone_2, a_edgeLast_2, a_edgeDone_2, hb, hX, hY⟩ := cc_main (f_time := f_time) (f_running := f_running) (f_open := f_open) (a_inputs := a_inputs) (a_lengths := a_lengths) (b_sizes := b_sizes) (b_wants := b_wants) C CY 40000 [(0, 0, 0)] 0 a_variables a_row a_outputs a_timerOn a_timerBegin a_timerElapsed a_timerDone a_counterLast a_counterValue a_counterDone a_edgeLast a_edgeDone ⟨_, _, hso⟩ (fun x hx => by cases hx) (by omega) hb01 (by
      have e : cc_wt T [(0, 0, (0 : Int32))] = 2 * (cc_en T 0 - 0) + 0 := rfl
      rw [e]
      omega)
  refine ⟨a_variables_2, a_row_2, a_outputs_2, a_timerOn_2, a_timerBegin_2, a_timerElapsed_2, a_timerDone_2, a_counterLast_2, a_counterValue_2, a_counterDone_2, a_edgeLast_2, a_edgeDone_2, hb, fun post hp => ?_, fun post hp => ?_⟩
  · unfold wpX_carryOut
    dsimp only
    refine cc_xpu (m := 0) (by omega) ?_
    exact ⟨40001, hX post 40001 0 (by omega) (by omega) hp _ _ _ _ (cc_xs_push0 (L := []) 0 0 trivial)⟩
  · unfold wpY_carryOut
    dsimp only
    refine cc_yma w ha hlen htok ?_
    dsimp only
    rw [cc_b60]
    refine cc_ytd (m := 0) (by omega) ?_
    exact ⟨80001, hY post 80001 (by omega) (fun ft fb num tk ta tr tl => hp ft fb _ num tk ta tr tl) _ _ _ _ _ (cc_ys_push0 (a := a) (L := []) 0 0 trivial)⟩
end
