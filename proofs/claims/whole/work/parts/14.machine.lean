def cc_KX (post : SX → Prop) (a : Nat) (f_time f_running : Int32) (a_inputs a_tokens a_lengths a_ends : Nat → Int32) (m s : Nat) (L : List (Nat × Nat × Int32)) (R : Nat) (a_variables a_row a_outputs a_timerOn a_timerBegin a_timerElapsed a_timerDone a_counterLast a_counterValue a_counterDone a_edgeLast a_edgeDone : Nat → Int32) : Prop :=
  ∀ a_worths a_pendingPlaces a_pendingRounds a_pendingLimits : Nat → Int32, cc_xs a_pendingPlaces a_pendingRounds a_pendingLimits L →
    wX_carryOut_19 post m (nI s) f_time (nI a) f_running (nI L.length) (nI R) a_variables a_row a_inputs a_outputs a_timerOn a_timerBegin a_timerElapsed a_timerDone a_counterLast a_counterValue a_counterDone a_edgeLast a_edgeDone a_tokens a_lengths a_ends a_worths a_pendingPlaces a_pendingRounds a_pendingLimits

def cc_KY (post : SY → Prop) (a : Nat) (f_time f_running f_open : Int32) (a_inputs b_sizes b_tokens b_ends b_wants : Nat → Int32) (m : Nat) (L : List (Nat × Nat × Int32)) (R : Nat) (a_variables a_row a_outputs a_timerOn a_timerBegin a_timerElapsed a_timerDone a_counterLast a_counterValue a_counterDone a_edgeLast a_edgeDone : Nat → Int32) : Prop :=
  ∀ a_numbers a_taskKind a_taskAt a_taskRounds a_taskLimit : Nat → Int32, cc_ys a a_taskKind a_taskAt a_taskRounds a_taskLimit L →
    wY_carryOut_31 post m f_time (nI a) f_running f_open 0 (nI L.length) (nI R) a_variables a_row a_inputs a_outputs a_timerOn a_timerBegin a_timerElapsed a_timerDone a_counterLast a_counterValue a_counterDone a_edgeLast a_edgeDone b_sizes b_tokens b_ends b_wants a_numbers a_taskKind a_taskAt a_taskRounds a_taskLimit

section
variable {f_time f_active f_running f_pending f_roundsBegun : Int32} {a_variables a_row a_inputs a_outputs a_timerOn a_timerBegin a_timerElapsed a_timerDone a_counterLast a_counterValue a_counterDone a_edgeLast a_edgeDone a_tokens a_lengths a_ends a_worths a_pendingPlaces a_pendingRounds a_pendingLimits : Nat → Int32}
variable {a_variables_2 a_row_2 a_outputs_2 a_timerOn_2 a_timerBegin_2 a_timerElapsed_2 a_timerDone_2 a_counterLast_2 a_counterValue_2 a_counterDone_2 a_edgeLast_2 a_edgeDone_2 : Nat → Int32}
theorem cc_kx_w {post : SX → Prop} {T : Nat → Nat} {n a q m s R : Nat} {l : Int32} {L L' : List (Nat × Nat × Int32)} (C : cc_XC T n a a_tokens a_ends) (hq : q < n) (hlen : L.length ≤ 59) (hs : s < 1000000)
    (hstep : ∀ (P : SX → Prop) (w0 pp pr pl : Nat → Int32), cc_xs pp pr pl L →
      (∀ w' pp' pr' pl' : Nat → Int32, cc_xs pp' pr' pl' L' → P (f_time, nI a, f_running, nI L'.length, nI R, a_variables_2, a_row_2, a_inputs, a_outputs_2, a_timerOn_2, a_timerBegin_2, a_timerElapsed_2, a_timerDone_2, a_counterLast_2, a_counterValue_2, a_counterDone_2, a_edgeLast_2, a_edgeDone_2, a_tokens, a_lengths, a_ends, w', pp', pr', pl')) →
      (cc_sp (T q) = 0 → wpX_carryOutSimple P (f_time, nI a, f_running, nI L.length, nI R, a_variables, a_row, a_inputs, a_outputs, a_timerOn, a_timerBegin, a_timerElapsed, a_timerDone, a_counterLast, a_counterValue, a_counterDone, a_edgeLast, a_edgeDone, a_tokens, a_lengths, a_ends, w0, pp, pr, pl) (nI q) (nI (T q))) ∧
      (cc_sp (T q) ≠ 0 → wpX_openCompound P (f_time, nI a, f_running, nI L.length, nI R, a_variables, a_row, a_inputs, a_outputs, a_timerOn, a_timerBegin, a_timerElapsed, a_timerDone, a_counterLast, a_counterValue, a_counterDone, a_edgeLast, a_edgeDone, a_tokens, a_lengths, a_ends, w0, pp, pr, pl) (nI q) (nI (T q))))
    (hK : cc_KX post a f_time f_running a_inputs a_tokens a_lengths a_ends m (s + 1) L' R a_variables_2 a_row_2 a_outputs_2 a_timerOn_2 a_timerBegin_2 a_timerElapsed_2 a_timerDone_2 a_counterLast_2 a_counterValue_2 a_counterDone_2 a_edgeLast_2 a_edgeDone_2) : cc_KX post a f_time f_running a_inputs a_tokens a_lengths a_ends (m + 1) s ((q, 0, l) :: L) R a_variables a_row a_outputs a_timerOn a_timerBegin a_timerElapsed a_timerDone a_counterLast a_counterValue a_counterDone a_edgeLast a_edgeDone := by
  intro a_worths a_pendingPlaces a_pendingRounds a_pendingLimits hxs
  have hn := C.1.2.2
  have ht := cc_va_lt (C.1.1 q hq).2
  have hst := hstep (fun u => match u with | (f_time_9, f_active_9, f_running_9, f_pending_9, f_roundsBegun_9, a_variables_9, a_row_9, a_inputs_9, a_outputs_9, a_timerOn_9, a_timerBegin_9, a_timerElapsed_9, a_timerDone_9, a_counterLast_9, a_counterValue_9, a_counterDone_9, a_edgeLast_9, a_edgeDone_9, a_tokens_9, a_lengths_9, a_ends_9, a_worths_9, a_pendingPlaces_9, a_pendingRounds_9, a_pendingLimits_9) => ∀ x, x = nI s + 1 → wX_carryOut_19 post m x f_time_9 f_active_9 f_running_9 f_pending_9 f_roundsBegun_9 a_variables_9 a_row_9 a_inputs_9 a_outputs_9 a_timerOn_9 a_timerBegin_9 a_timerElapsed_9 a_timerDone_9 a_counterLast_9 a_counterValue_9 a_counterDone_9 a_edgeLast_9 a_edgeDone_9 a_tokens_9 a_lengths_9 a_ends_9 a_worths_9 a_pendingPlaces_9 a_pendingRounds_9 a_pendingLimits_9) a_worths a_pendingPlaces a_pendingRounds a_pendingLimits hxs.2.2.2
    (fun w' pp' pr' pl' hx' => nm_r (nI_1 s) (hK w' pp' pr' pl' hx'))
  refine br_f (cc_nle 1000000 s (by omega)) ?_
  refine br_f (cc_nle (L.length + 1) 0 (by omega)) ?_
  rw [show nI (((q, 0, l) :: L).length) - 1 = nI L.length from nI_pred L.length]
  refine ⟨vp_in_nI (by omega) (by omega), ?_⟩
  refine nm_r (e' := nI q) (by rw [nI_clamp (by omega)]; exact hxs.1) ?_
  refine cc_xat (T := T) (n := n) C.2.1 hn hq C.2.2.1 ?_
  refine ⟨vp_in_nI (by omega) (by omega), ?_⟩
  refine br_t (by rw [nI_clamp (by omega), hxs.2.1]; exact (show nI 0 - 1 = (-1 : Int32) by decide)) ?_
  refine nm_e ?_
  refine cc_xsp (by omega) (fun k hk => ?_)
  have hk3 : k < 2 ^ 31 := by
    have : cc_sp (T q) ≤ 3 := by
      unfold cc_sp
      repeat' split
      all_goals omega
    omega
  refine pk_eq k 0 (fun z => ?_) (fun z => ?_) rfl rfl hk3 (by omega)
  · exact hst.1 (by omega)
  · exact hst.2 (by omega)

theorem cc_kx_l {post : SX → Prop} {T : Nat → Nat} {n a q c m s R R' : Nat} {l : Int32} {L L' : List (Nat × Nat × Int32)} (C : cc_XC T n a a_tokens a_ends) (hq : q < n) (hlen : L.length ≤ 59) (hs : s < 1000000) (hc1 : 1 ≤ c) (hc : c ≤ 21)
    (hstep : ∀ (P : SX → Prop) (w0 pp pr pl : Nat → Int32), cc_xs pp pr pl ((q, c, l) :: L) →
      (∀ w' pp' pr' pl' : Nat → Int32, cc_xs pp' pr' pl' L' → P (f_time, nI a, f_running, nI L'.length, nI R', a_variables_2, a_row_2, a_inputs, a_outputs_2, a_timerOn_2, a_timerBegin_2, a_timerElapsed_2, a_timerDone_2, a_counterLast_2, a_counterValue_2, a_counterDone_2, a_edgeLast_2, a_edgeDone_2, a_tokens, a_lengths, a_ends, w', pp', pr', pl')) →
      wpX_goOnWithLoop P (f_time, nI a, f_running, nI (L.length + 1), nI R, a_variables, a_row, a_inputs, a_outputs, a_timerOn, a_timerBegin, a_timerElapsed, a_timerDone, a_counterLast, a_counterValue, a_counterDone, a_edgeLast, a_edgeDone, a_tokens, a_lengths, a_ends, w0, pp, pr, pl) (nI q) (nI (T q)))
    (hK : cc_KX post a f_time f_running a_inputs a_tokens a_lengths a_ends m (s + 1) L' R' a_variables_2 a_row_2 a_outputs_2 a_timerOn_2 a_timerBegin_2 a_timerElapsed_2 a_timerDone_2 a_counterLast_2 a_counterValue_2 a_counterDone_2 a_edgeLast_2 a_edgeDone_2) : cc_KX post a f_time f_running a_inputs a_tokens a_lengths a_ends (m + 1) s ((q, c, l) :: L) R a_variables a_row a_outputs a_timerOn a_timerBegin a_timerElapsed a_timerDone a_counterLast a_counterValue a_counterDone a_edgeLast a_edgeDone := by
  intro a_worths a_pendingPlaces a_pendingRounds a_pendingLimits hxs
  have hn := C.1.2.2
  have ht := cc_va_lt (C.1.1 q hq).2
  have hst := hstep (fun u => match u with | (f_time_9, f_active_9, f_running_9, f_pending_9, f_roundsBegun_9, a_variables_9, a_row_9, a_inputs_9, a_outputs_9, a_timerOn_9, a_timerBegin_9, a_timerElapsed_9, a_timerDone_9, a_counterLast_9, a_counterValue_9, a_counterDone_9, a_edgeLast_9, a_edgeDone_9, a_tokens_9, a_lengths_9, a_ends_9, a_worths_9, a_pendingPlaces_9, a_pendingRounds_9, a_pendingLimits_9) => ∀ x, x = nI s + 1 → wX_carryOut_19 post m x f_time_9 f_active_9 f_running_9 f_pending_9 f_roundsBegun_9 a_variables_9 a_row_9 a_inputs_9 a_outputs_9 a_timerOn_9 a_timerBegin_9 a_timerElapsed_9 a_timerDone_9 a_counterLast_9 a_counterValue_9 a_counterDone_9 a_edgeLast_9 a_edgeDone_9 a_tokens_9 a_lengths_9 a_ends_9 a_worths_9 a_pendingPlaces_9 a_pendingRounds_9 a_pendingLimits_9) a_worths a_pendingPlaces a_pendingRounds a_pendingLimits hxs
    (fun w' pp' pr' pl' hx' => nm_r (nI_1 s) (hK w' pp' pr' pl' hx'))
  refine br_f (cc_nle 1000000 s (by omega)) ?_
  refine br_f (cc_nle (L.length + 1) 0 (by omega)) ?_
  rw [show nI (((q, c, l) :: L).length) - 1 = nI L.length from nI_pred L.length]
  refine ⟨vp_in_nI (by omega) (by omega), ?_⟩
  refine nm_r (e' := nI q) (by rw [nI_clamp (by omega)]; exact hxs.1) ?_
  refine cc_xat (T := T) (n := n) C.2.1 hn hq C.2.2.1 ?_
  refine ⟨vp_in_nI (by omega) (by omega), ?_⟩
  refine br_f (by rw [nI_clamp (by omega), hxs.2.1]; exact fun z => cc_m1n (m := c - 1) (by omega) ((cc_s1 (a := c) (by omega)).symm.trans z)) ?_
  exact hst

theorem cc_xgo1 {P : SX → Prop} {T : Nat → Nat} {n a q R : Nat} {lim : Int32} {L : List (Nat × Nat × Int32)} (C : cc_XC T n a a_tokens a_ends) (hq : q < n) (hl : cc_lp (T q))
    (hxs : cc_xs a_pendingPlaces a_pendingRounds a_pendingLimits ((q, 1, lim) :: L)) (hR : R ≤ 300) (hlen : L.length ≤ 59)
    (h2 : R = 300 → P (f_time, nI a, f_running, 0, nI R, a_variables, a_row, a_inputs, a_outputs, a_timerOn, a_timerBegin, a_timerElapsed, a_timerDone, a_counterLast, a_counterValue, a_counterDone, a_edgeLast, a_edgeDone, a_tokens, a_lengths, a_ends, a_worths, a_pendingPlaces, a_pendingRounds, a_pendingLimits))
    (h3 : R < 300 → cc_gob (T q) lim a_variables ((cc_vl T n (cc_lf a_variables a_inputs a_outputs a_timerDone a_timerElapsed a_counterValue a_counterDone a_edgeDone) a_row) (q + 1)) = false → ∀ w', P (f_time, nI a, f_running, nI L.length, nI (R + 1), a_variables, a_row, a_inputs, a_outputs, a_timerOn, a_timerBegin, a_timerElapsed, a_timerDone, a_counterLast, a_counterValue, a_counterDone, a_edgeLast, a_edgeDone, a_tokens, a_lengths, a_ends, w', a_pendingPlaces, a_pendingRounds, a_pendingLimits))
    (h4 : R < 300 → cc_gob (T q) lim a_variables ((cc_vl T n (cc_lf a_variables a_inputs a_outputs a_timerDone a_timerElapsed a_counterValue a_counterDone a_edgeDone) a_row) (q + 1)) = true → ∀ w' pp pr pl, cc_xs pp pr pl ((cc_bd T q, 0, 0) :: (q, 2, lim) :: L) → P (f_time, nI a, f_running, nI (L.length + 1 + 1), nI (R + 1), a_variables, a_row, a_inputs, a_outputs, a_timerOn, a_timerBegin, a_timerElapsed, a_timerDone, a_counterLast, a_counterValue, a_counterDone, a_edgeLast, a_edgeDone, a_tokens, a_lengths, a_ends, w', pp, pr, pl)) :
    wpX_goOnWithLoop P (f_time, nI a, f_running, nI (L.length + 1), nI R, a_variables, a_row, a_inputs, a_outputs, a_timerOn, a_timerBegin, a_timerElapsed, a_timerDone, a_counterLast, a_counterValue, a_counterDone, a_edgeLast, a_edgeDone, a_tokens, a_lengths, a_ends, a_worths, a_pendingPlaces, a_pendingRounds, a_pendingLimits) (nI q) (nI (T q)) := by
  have e0 : a_pendingRounds L.length = nI (1 - 1) := hxs.2.1.trans (show nI 1 - 1 = nI 0 from nI_pred 0)
  refine nm_r (e' := nI L.length) (nI_pred L.length) ?_
  refine ⟨vp_in_nI (by omega) (by omega), ?_⟩
  rw [nI_clamp (by omega), e0]
  refine br_t (cc_le 0 0 (by omega)) ?_
  refine cc_xg30 (c := 1) (b := false) (lim := lim) C hq hl e0 hxs.2.2.1 (by omega) (by omega) hR hlen (fun z => ?_) (fun _ z => h2 z) (fun _ z y w' => h3 z y w') (fun _ z y w' => ?_)
  · rcases z with z | z
    · cases z
    · omega
  · refine h4 z y w' _ _ _ (cc_xs_push0 (L := (q, 2, lim) :: L) _ _ ⟨hxs.1, ?_, hxs.2.2.1, cc_xs_updr (Nat.le_refl _) hxs.2.2.2⟩)
    rw [cc_u_s]
    exact (nI_pred 1).symm

theorem cc_xgo2 {P : SX → Prop} {T : Nat → Nat} {n a q c R : Nat} {lim : Int32} {L : List (Nat × Nat × Int32)} (C : cc_XC T n a a_tokens a_ends) (hq : q < n) (hl : cc_lp (T q))
    (hxs : cc_xs a_pendingPlaces a_pendingRounds a_pendingLimits ((q, c, lim) :: L)) (hc2 : 2 ≤ c) (hc : c ≤ 21) (hR : R ≤ 300) (hlen : L.length ≤ 59)
    (h1 : (cc_ovb (T q) ((cc_vl T n (cc_lf a_variables a_inputs a_outputs a_timerDone a_timerElapsed a_counterValue a_counterDone a_edgeDone) a_row) (cc_en T (q + 1))) = true ∨ c = 21) → ∀ w', P (f_time, nI a, f_running, nI L.length, nI R, cc_cl (T q) a_variables, a_row, a_inputs, a_outputs, a_timerOn, a_timerBegin, a_timerElapsed, a_timerDone, a_counterLast, a_counterValue, a_counterDone, a_edgeLast, a_edgeDone, a_tokens, a_lengths, a_ends, w', a_pendingPlaces, a_pendingRounds, a_pendingLimits))
    (h2 : ¬ (cc_ovb (T q) ((cc_vl T n (cc_lf a_variables a_inputs a_outputs a_timerDone a_timerElapsed a_counterValue a_counterDone a_edgeDone) a_row) (cc_en T (q + 1))) = true ∨ c = 21) → R = 300 → ∀ w', P (f_time, nI a, f_running, 0, nI R, cc_cl (T q) a_variables, a_row, a_inputs, a_outputs, a_timerOn, a_timerBegin, a_timerElapsed, a_timerDone, a_counterLast, a_counterValue, a_counterDone, a_edgeLast, a_edgeDone, a_tokens, a_lengths, a_ends, w', a_pendingPlaces, a_pendingRounds, a_pendingLimits))
    (h3 : ¬ (cc_ovb (T q) ((cc_vl T n (cc_lf a_variables a_inputs a_outputs a_timerDone a_timerElapsed a_counterValue a_counterDone a_edgeDone) a_row) (cc_en T (q + 1))) = true ∨ c = 21) → R < 300 → cc_gob (T q) lim (cc_cl (T q) a_variables) ((cc_vl T n (cc_lf (cc_cl (T q) a_variables) a_inputs a_outputs a_timerDone a_timerElapsed a_counterValue a_counterDone a_edgeDone) a_row) (q + 1)) = false → ∀ w', P (f_time, nI a, f_running, nI L.length, nI (R + 1), cc_cl (T q) a_variables, a_row, a_inputs, a_outputs, a_timerOn, a_timerBegin, a_timerElapsed, a_timerDone, a_counterLast, a_counterValue, a_counterDone, a_edgeLast, a_edgeDone, a_tokens, a_lengths, a_ends, w', a_pendingPlaces, a_pendingRounds, a_pendingLimits))
    (h4 : ¬ (cc_ovb (T q) ((cc_vl T n (cc_lf a_variables a_inputs a_outputs a_timerDone a_timerElapsed a_counterValue a_counterDone a_edgeDone) a_row) (cc_en T (q + 1))) = true ∨ c = 21) → R < 300 → cc_gob (T q) lim (cc_cl (T q) a_variables) ((cc_vl T n (cc_lf (cc_cl (T q) a_variables) a_inputs a_outputs a_timerDone a_timerElapsed a_counterValue a_counterDone a_edgeDone) a_row) (q + 1)) = true → ∀ w' pp pr pl, cc_xs pp pr pl ((cc_bd T q, 0, 0) :: (q, c + 1, lim) :: L) → P (f_time, nI a, f_running, nI (L.length + 1 + 1), nI (R + 1), cc_cl (T q) a_variables, a_row, a_inputs, a_outputs, a_timerOn, a_timerBegin, a_timerElapsed, a_timerDone, a_counterLast, a_counterValue, a_counterDone, a_edgeLast, a_edgeDone, a_tokens, a_lengths, a_ends, w', pp, pr, pl)) :
    wpX_goOnWithLoop P (f_time, nI a, f_running, nI (L.length + 1), nI R, a_variables, a_row, a_inputs, a_outputs, a_timerOn, a_timerBegin, a_timerElapsed, a_timerDone, a_counterLast, a_counterValue, a_counterDone, a_edgeLast, a_edgeDone, a_tokens, a_lengths, a_ends, a_worths, a_pendingPlaces, a_pendingRounds, a_pendingLimits) (nI q) (nI (T q)) := by
  have e0 : a_pendingRounds L.length = nI (c - 1) := hxs.2.1.trans (cc_s1 (a := c) (by omega))
  refine nm_r (e' := nI L.length) (nI_pred L.length) ?_
  refine ⟨vp_in_nI (by omega) (by omega), ?_⟩
  rw [nI_clamp (by omega), e0]
  refine br_f (cc_nle (c - 1) 0 (by omega)) ?_
  refine cc_xcr C hq hl (fun w1 => ?_)
  have g := fun (b : Bool) (hb : cc_ovb (T q) ((cc_vl T n (cc_lf a_variables a_inputs a_outputs a_timerDone a_timerElapsed a_counterValue a_counterDone a_edgeDone) a_row) (cc_en T (q + 1))) = b) => cc_xg30 (post := P) (a_variables := cc_cl (T q) a_variables) (a_worths := w1) (f_time := f_time) (f_running := f_running) (a_row := a_row) (a_inputs := a_inputs) (a_outputs := a_outputs) (a_timerOn := a_timerOn) (a_timerBegin := a_timerBegin) (a_timerElapsed := a_timerElapsed) (a_timerDone := a_timerDone) (a_counterLast := a_counterLast) (a_counterValue := a_counterValue) (a_counterDone := a_counterDone) (a_edgeLast := a_edgeLast) (a_edgeDone := a_edgeDone) (a_lengths := a_lengths) (a_pendingPlaces := a_pendingPlaces)
    (c := c) (b := b) (lim := lim) (M := L.length) (R := R) C hq hl e0 hxs.2.2.1 (by omega) hc hR hlen (fun z => h1 (by rw [hb]; exact z) w1) (fun y z => h2 (by rw [hb]; exact y) z w1) (fun x z y w' => h3 (by rw [hb]; exact x) z y w') (fun x z y w' => h4 (by rw [hb]; exact x) z y w' _ _ _ (cc_xs_push0 (L := (q, c + 1, lim) :: L) _ _ ⟨hxs.1, by rw [cc_u_s]; exact (nI_pred c).symm, hxs.2.2.1, cc_xs_updr (Nat.le_refl _) hxs.2.2.2⟩))
  cases hb : cc_ovb (T q) ((cc_vl T n (cc_lf a_variables a_inputs a_outputs a_timerDone a_timerElapsed a_counterValue a_counterDone a_edgeDone) a_row) (cc_en T (q + 1))) with
  | false => exact br_t cc_bf (g false hb)
  | true => exact br_f cc_n10 (g true hb)
end
