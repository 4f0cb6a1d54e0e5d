theorem cc_xs_push0 {pp pr pl : Nat → Int32} {L : List (Nat × Nat × Int32)} (q : Nat) (l : Int32) (h : cc_xs pp pr pl L) :
    cc_xs (upd pp L.length (nI q)) (upd pr L.length (-1)) (upd pl L.length l) ((q, 0, l) :: L) := cc_xs_push q 0 l h
theorem cc_xs_push1 {pp pr pl : Nat → Int32} {L : List (Nat × Nat × Int32)} (q : Nat) (l : Int32) (h : cc_xs pp pr pl L) :
    cc_xs (upd pp L.length (nI q)) (upd pr L.length 0) (upd pl L.length l) ((q, 1, l) :: L) := cc_xs_push q 1 l h

def cc_cl (t : Nat) (va : Nat → Int32) : Nat → Int32 := if 40 ≤ t then upd va (t - 40) (va (t - 40) + 1) else va
def cc_bd (T : Nat → Nat) (q : Nat) : Nat := if T q = 37 then q + 1 else if T q = 36 then cc_en T (q + 1) else cc_en T (cc_en T (q + 1))
def cc_gob (t : Nat) (lim : Int32) (va : Nat → Int32) (e : Int32) : Bool := if t = 36 then cc_tr e else if 40 ≤ t then decide (va (t - 40) ≤ lim) else true
def cc_ovb (t : Nat) (e : Int32) : Bool := if t = 37 then cc_tr e else false

theorem cc_lp_ar {t : Nat} (h : cc_lp t) : 2 ≤ cc_ar t := by
  unfold cc_lp at h
  unfold cc_ar
  repeat' split
  all_goals omega
theorem cc_lp_lt {t : Nat} (h : cc_lp t) : t < 56 := by
  unfold cc_lp at h
  omega
theorem cc_lp3 {t : Nat} (h1 : 40 ≤ t) (h2 : t ≤ 55) : cc_ar t = 3 := by
  unfold cc_ar
  repeat' split
  all_goals omega

section
variable {f_time f_active f_running f_pending f_roundsBegun : Int32} {a_variables a_row a_inputs a_outputs a_timerOn a_timerBegin a_timerElapsed a_timerDone a_counterLast a_counterValue a_counterDone a_edgeLast a_edgeDone a_tokens a_lengths a_ends a_worths a_pendingPlaces a_pendingRounds a_pendingLimits : Nat → Int32}
theorem cc_xpre {T : Nat → Nat} {n a q : Nat} (C : cc_XC T n a a_tokens a_ends) (hq : q < n) (h2 : 2 ≤ cc_ar (T q)) :
    q + 1 < n ∧ cc_en T (q + 1) < n ∧ cc_en T (cc_en T (q + 1)) ≤ n ∧ a_ends (q + 1) = nI (cc_en T (q + 1)) ∧ a_ends (cc_en T (q + 1)) = nI (cc_en T (cc_en T (q + 1))) := by
  obtain ⟨w, ha, htok, hb, hends⟩ := C
  have l0 := cc_nx_lt w hq (show 0 < cc_ar (T q) by omega)
  have l1 := cc_nx_lt w hq (show 1 < cc_ar (T q) by omega)
  exact ⟨l0, l1, cc_en_le w l1, hends _ l0, hends _ l1⟩

theorem cc_xo1 {post : SX → Prop} {T : Nat → Nat} {n a q : Nat} {L : List (Nat × Nat × Int32)} (C : cc_XC T n a a_tokens a_ends) (hq : q < n) (ht : T q = 1) (hlen : L.length ≤ 59)
    (hxs : cc_xs a_pendingPlaces a_pendingRounds a_pendingLimits L)
    (h : ∀ w' pp pr pl, cc_xs pp pr pl ((cc_nx T 0 (q + 1), 0, 0) :: (cc_nx T 1 (q + 1), 0, 0) :: L) → post (f_time, nI a, f_running, nI (L.length + 1 + 1), f_roundsBegun, a_variables, a_row, a_inputs, a_outputs, a_timerOn, a_timerBegin, a_timerElapsed, a_timerDone, a_counterLast, a_counterValue, a_counterDone, a_edgeLast, a_edgeDone, a_tokens, a_lengths, a_ends, w', pp, pr, pl)) :
    wpX_openCompound post (f_time, nI a, f_running, nI L.length, f_roundsBegun, a_variables, a_row, a_inputs, a_outputs, a_timerOn, a_timerBegin, a_timerElapsed, a_timerDone, a_counterLast, a_counterValue, a_counterDone, a_edgeLast, a_edgeDone, a_tokens, a_lengths, a_ends, a_worths, a_pendingPlaces, a_pendingRounds, a_pendingLimits) (nI q) (nI (T q)) := by
  have hn := C.1.2.2
  obtain ⟨p1, p2, p3, p4, p5⟩ := cc_xpre C hq (by rw [ht]; decide)
  rw [ht]
  unfold wpX_openCompound
  dsimp only
  rw [nI_1]
  refine ⟨vp_in_nI (by omega) (by omega), ?_⟩
  refine nm_r (e' := nI (cc_en T (q + 1))) (by rw [nI_clamp (by omega), p4]) ?_
  refine ⟨vp_in_nI (by omega) (by omega), ?_⟩
  refine nm_r (e' := nI (cc_en T (cc_en T (q + 1)))) (by rw [nI_clamp (by omega), p5]) ?_
  refine br_t (by decide) ?_
  refine cc_xpu (by omega) ?_
  refine cc_xpu (by omega) ?_
  exact h _ _ _ _ (cc_xs_push0 (q + 1) 0 (cc_xs_push0 (cc_en T (q + 1)) 0 hxs))

theorem cc_xo35 {post : SX → Prop} {T : Nat → Nat} {n a q : Nat} {L : List (Nat × Nat × Int32)} (C : cc_XC T n a a_tokens a_ends) (hq : q < n) (ht : T q = 35) (hlen : L.length ≤ 59)
    (hxs : cc_xs a_pendingPlaces a_pendingRounds a_pendingLimits L)
    (h : ∀ w' pp pr pl, cc_xs pp pr pl ((cc_nx T (if (cc_vl T n (cc_lf a_variables a_inputs a_outputs a_timerDone a_timerElapsed a_counterValue a_counterDone a_edgeDone) a_row) (q + 1) = 0 then 2 else 1) (q + 1), 0, 0) :: L) → post (f_time, nI a, f_running, nI (L.length + 1), f_roundsBegun, a_variables, a_row, a_inputs, a_outputs, a_timerOn, a_timerBegin, a_timerElapsed, a_timerDone, a_counterLast, a_counterValue, a_counterDone, a_edgeLast, a_edgeDone, a_tokens, a_lengths, a_ends, w', pp, pr, pl)) :
    wpX_openCompound post (f_time, nI a, f_running, nI L.length, f_roundsBegun, a_variables, a_row, a_inputs, a_outputs, a_timerOn, a_timerBegin, a_timerElapsed, a_timerDone, a_counterLast, a_counterValue, a_counterDone, a_edgeLast, a_edgeDone, a_tokens, a_lengths, a_ends, a_worths, a_pendingPlaces, a_pendingRounds, a_pendingLimits) (nI q) (nI (T q)) := by
  have hn := C.1.2.2
  obtain ⟨p1, p2, p3, p4, p5⟩ := cc_xpre C hq (by rw [ht]; decide)
  have hex : cc_ex (T (q + 1)) = true := cc_exk (k := 0) C.1 hq (by rw [ht]; decide) (by rw [ht]; decide)
  rw [ht]
  unfold wpX_openCompound
  dsimp only
  rw [nI_1]
  refine ⟨vp_in_nI (by omega) (by omega), ?_⟩
  refine nm_r (e' := nI (cc_en T (q + 1))) (by rw [nI_clamp (by omega), p4]) ?_
  refine ⟨vp_in_nI (by omega) (by omega), ?_⟩
  refine nm_r (e' := nI (cc_en T (cc_en T (q + 1)))) (by rw [nI_clamp (by omega), p5]) ?_
  refine br_f (by decide) (br_t (by decide) ?_)
  refine cc_xv C.1 C.2.1 p1 hex C.2.2.1 C.2.2.2.1 C.2.2.2.2 (fun w1 => ?_)
  refine br_c (fun z => ?_) (fun z => ?_)
  · rw [if_pos z] at h
    refine cc_xpu (by omega) ?_
    exact h _ _ _ _ (cc_xs_push0 _ 0 hxs)
  · rw [if_neg z] at h
    refine cc_xpu (by omega) ?_
    exact h _ _ _ _ (cc_xs_push0 _ 0 hxs)

theorem cc_xo56 {post : SX → Prop} {T : Nat → Nat} {n a q : Nat} {L : List (Nat × Nat × Int32)} (C : cc_XC T n a a_tokens a_ends) (hq : q < n) (ht : T q = 56) (hlen : L.length ≤ 59)
    (hxs : cc_xs a_pendingPlaces a_pendingRounds a_pendingLimits L)
    (h : ∀ w' pp pr pl, cc_xs pp pr pl ((cc_nx T (if (cc_vl T n (cc_lf a_variables a_inputs a_outputs a_timerDone a_timerElapsed a_counterValue a_counterDone a_edgeDone) a_row) (q + 1) = 0 then 1 else if (cc_vl T n (cc_lf a_variables a_inputs a_outputs a_timerDone a_timerElapsed a_counterValue a_counterDone a_edgeDone) a_row) (q + 1) = 1 then 2 else 3) (q + 1), 0, 0) :: L) → post (f_time, nI a, f_running, nI (L.length + 1), f_roundsBegun, a_variables, a_row, a_inputs, a_outputs, a_timerOn, a_timerBegin, a_timerElapsed, a_timerDone, a_counterLast, a_counterValue, a_counterDone, a_edgeLast, a_edgeDone, a_tokens, a_lengths, a_ends, w', pp, pr, pl)) :
    wpX_openCompound post (f_time, nI a, f_running, nI L.length, f_roundsBegun, a_variables, a_row, a_inputs, a_outputs, a_timerOn, a_timerBegin, a_timerElapsed, a_timerDone, a_counterLast, a_counterValue, a_counterDone, a_edgeLast, a_edgeDone, a_tokens, a_lengths, a_ends, a_worths, a_pendingPlaces, a_pendingRounds, a_pendingLimits) (nI q) (nI (T q)) := by
  have hn := C.1.2.2
  obtain ⟨p1, p2, p3, p4, p5⟩ := cc_xpre C hq (by rw [ht]; decide)
  have hex : cc_ex (T (q + 1)) = true := cc_exk (k := 0) C.1 hq (by rw [ht]; decide) (by rw [ht]; decide)
  have l2 : cc_en T (cc_en T (q + 1)) < n := cc_nx_lt (k := 2) C.1 hq (by rw [ht]; decide)
  have e2 := C.2.2.2.2 _ l2
  rw [ht]
  unfold wpX_openCompound
  dsimp only
  rw [nI_1]
  refine ⟨vp_in_nI (by omega) (by omega), ?_⟩
  refine nm_r (e' := nI (cc_en T (q + 1))) (by rw [nI_clamp (by omega), p4]) ?_
  refine ⟨vp_in_nI (by omega) (by omega), ?_⟩
  refine nm_r (e' := nI (cc_en T (cc_en T (q + 1)))) (by rw [nI_clamp (by omega), p5]) ?_
  refine br_f (by decide) (br_f (by decide) (br_t (by decide) ?_))
  refine cc_xv C.1 C.2.1 p1 hex C.2.2.1 C.2.2.2.1 C.2.2.2.2 (fun w1 => ?_)
  refine br_c (fun z => ?_) (fun z => ⟨vp_in_nI (by omega) (by omega), ?_⟩)
  · rw [if_neg (by rw [z]; decide), if_pos z] at h
    refine br_f (by rw [z]; decide) ?_
    refine cc_xpu (by omega) ?_
    exact h _ _ _ _ (cc_xs_push0 _ 0 hxs)
  · dsimp only
    rw [nI_clamp (by omega), e2]
    refine br_c (fun y => ?_) (fun y => ?_)
    · rw [if_pos y] at h
      refine cc_xpu (by omega) ?_
      exact h _ _ _ _ (cc_xs_push0 _ 0 hxs)
    · rw [if_neg y, if_neg z] at h
      refine cc_xpu (by omega) ?_
      exact h _ _ _ _ (cc_xs_push0 _ 0 hxs)

theorem cc_xo40 {post : SX → Prop} {T : Nat → Nat} {n a q : Nat} {L : List (Nat × Nat × Int32)} (C : cc_XC T n a a_tokens a_ends) (hq : q < n) (ht1 : 40 ≤ T q) (ht2 : T q ≤ 55) (hlen : L.length ≤ 59)
    (hxs : cc_xs a_pendingPlaces a_pendingRounds a_pendingLimits L)
    (h : ∀ w' pp pr pl, cc_xs pp pr pl ((q, 1, (cc_vl T n (cc_lf a_variables a_inputs a_outputs a_timerDone a_timerElapsed a_counterValue a_counterDone a_edgeDone) a_row) (cc_en T (q + 1))) :: L) → post (f_time, nI a, f_running, nI (L.length + 1), f_roundsBegun, upd a_variables (T q - 40) ((cc_vl T n (cc_lf a_variables a_inputs a_outputs a_timerDone a_timerElapsed a_counterValue a_counterDone a_edgeDone) a_row) (q + 1)), a_row, a_inputs, a_outputs, a_timerOn, a_timerBegin, a_timerElapsed, a_timerDone, a_counterLast, a_counterValue, a_counterDone, a_edgeLast, a_edgeDone, a_tokens, a_lengths, a_ends, w', pp, pr, pl)) :
    wpX_openCompound post (f_time, nI a, f_running, nI L.length, f_roundsBegun, a_variables, a_row, a_inputs, a_outputs, a_timerOn, a_timerBegin, a_timerElapsed, a_timerDone, a_counterLast, a_counterValue, a_counterDone, a_edgeLast, a_edgeDone, a_tokens, a_lengths, a_ends, a_worths, a_pendingPlaces, a_pendingRounds, a_pendingLimits) (nI q) (nI (T q)) := by
  have hn := C.1.2.2
  have ha3 := cc_lp3 ht1 ht2
  obtain ⟨p1, p2, p3, p4, p5⟩ := cc_xpre C hq (by omega)
  have ts0 : ∀ k, k < 2 → cc_ts (T q) k = false := by
    intro k hk
    unfold cc_ts
    rw [if_neg (by omega), if_neg (by omega), if_neg (by omega)]
    simp only [decide_eq_false_iff_not]
    omega
  have hex : cc_ex (T (q + 1)) = true := cc_exk (k := 0) C.1 hq (by omega) (ts0 0 (by omega))
  have hex1 : cc_ex (T (cc_en T (q + 1))) = true := cc_exk (k := 1) C.1 hq (by omega) (ts0 1 (by omega))
  unfold wpX_openCompound
  dsimp only
  rw [nI_1]
  refine ⟨vp_in_nI (by omega) (by omega), ?_⟩
  refine nm_r (e' := nI (cc_en T (q + 1))) (by rw [nI_clamp (by omega), p4]) ?_
  refine ⟨vp_in_nI (by omega) (by omega), ?_⟩
  refine nm_r (e' := nI (cc_en T (cc_en T (q + 1)))) (by rw [nI_clamp (by omega), p5]) ?_
  refine br_f (cc_ne (T q) 1 (by omega)) (br_f (cc_ne (T q) 35 (by omega)) (br_f (cc_ne (T q) 56 (by omega)) ?_))
  refine br_f (cc_nlt (T q) 40 (by omega)) (br_f (cc_nle 56 (T q) (by omega)) ?_)
  refine cc_xv C.1 C.2.1 p1 hex C.2.2.1 C.2.2.2.1 C.2.2.2.2 (fun w1 => ?_)
  refine cc_xv C.1 C.2.1 p2 hex1 C.2.2.1 C.2.2.2.1 C.2.2.2.2 (fun w2 => ?_)
  refine ⟨cc_sV 40 16 (by omega) (by omega) (by omega), ?_⟩
  refine nm_r (e' := upd a_variables (T q - 40) ((cc_vl T n (cc_lf a_variables a_inputs a_outputs a_timerDone a_timerElapsed a_counterValue a_counterDone a_edgeDone) a_row) (q + 1))) (congrArg (fun k => upd a_variables k ((cc_vl T n (cc_lf a_variables a_inputs a_outputs a_timerDone a_timerElapsed a_counterValue a_counterDone a_edgeDone) a_row) (q + 1))) (cc_sI 40 (by omega) (by omega))) ?_
  refine cc_xpu (by omega) ?_
  exact h _ _ _ _ (cc_xs_push1 _ _ hxs)

theorem cc_xoL {post : SX → Prop} {T : Nat → Nat} {n a q : Nat} {L : List (Nat × Nat × Int32)} (C : cc_XC T n a a_tokens a_ends) (hq : q < n) (ht : T q = 36 ∨ T q = 37) (hlen : L.length ≤ 59)
    (hxs : cc_xs a_pendingPlaces a_pendingRounds a_pendingLimits L)
    (h : ∀ w' pp pr pl, cc_xs pp pr pl ((q, 1, 0) :: L) → post (f_time, nI a, f_running, nI (L.length + 1), f_roundsBegun, a_variables, a_row, a_inputs, a_outputs, a_timerOn, a_timerBegin, a_timerElapsed, a_timerDone, a_counterLast, a_counterValue, a_counterDone, a_edgeLast, a_edgeDone, a_tokens, a_lengths, a_ends, w', pp, pr, pl)) :
    wpX_openCompound post (f_time, nI a, f_running, nI L.length, f_roundsBegun, a_variables, a_row, a_inputs, a_outputs, a_timerOn, a_timerBegin, a_timerElapsed, a_timerDone, a_counterLast, a_counterValue, a_counterDone, a_edgeLast, a_edgeDone, a_tokens, a_lengths, a_ends, a_worths, a_pendingPlaces, a_pendingRounds, a_pendingLimits) (nI q) (nI (T q)) := by
  have hn := C.1.2.2
  have ha2 : 2 ≤ cc_ar (T q) := cc_lp_ar (by unfold cc_lp; omega)
  obtain ⟨p1, p2, p3, p4, p5⟩ := cc_xpre C hq ha2
  unfold wpX_openCompound
  dsimp only
  rw [nI_1]
  refine ⟨vp_in_nI (by omega) (by omega), ?_⟩
  refine nm_r (e' := nI (cc_en T (q + 1))) (by rw [nI_clamp (by omega), p4]) ?_
  refine ⟨vp_in_nI (by omega) (by omega), ?_⟩
  refine nm_r (e' := nI (cc_en T (cc_en T (q + 1)))) (by rw [nI_clamp (by omega), p5]) ?_
  refine br_f (cc_ne (T q) 1 (by omega)) (br_f (cc_ne (T q) 35 (by omega)) (br_f (cc_ne (T q) 56 (by omega)) ?_))
  refine br_t (cc_lt (T q) 40 (by omega)) ?_
  refine cc_xpu (by omega) ?_
  exact h _ _ _ _ (cc_xs_push1 _ _ hxs)

theorem cc_xcr {post : Int32 → SX → Prop} {T : Nat → Nat} {n a q : Nat} (C : cc_XC T n a a_tokens a_ends) (hq : q < n) (hl : cc_lp (T q))
    (h : ∀ w', post (cc_bI (cc_ovb (T q) ((cc_vl T n (cc_lf a_variables a_inputs a_outputs a_timerDone a_timerElapsed a_counterValue a_counterDone a_edgeDone) a_row) (cc_en T (q + 1))))) (f_time, nI a, f_running, f_pending, f_roundsBegun, cc_cl (T q) a_variables, a_row, a_inputs, a_outputs, a_timerOn, a_timerBegin, a_timerElapsed, a_timerDone, a_counterLast, a_counterValue, a_counterDone, a_edgeLast, a_edgeDone, a_tokens, a_lengths, a_ends, w', a_pendingPlaces, a_pendingRounds, a_pendingLimits)) :
    wpX_closeRound post (f_time, nI a, f_running, f_pending, f_roundsBegun, a_variables, a_row, a_inputs, a_outputs, a_timerOn, a_timerBegin, a_timerElapsed, a_timerDone, a_counterLast, a_counterValue, a_counterDone, a_edgeLast, a_edgeDone, a_tokens, a_lengths, a_ends, a_worths, a_pendingPlaces, a_pendingRounds, a_pendingLimits) (nI q) (nI (T q)) := by
  have hn := C.1.2.2
  obtain ⟨p1, p2, p3, p4, p5⟩ := cc_xpre C hq (cc_lp_ar hl)
  have hlt := cc_lp_lt hl
  by_cases h40 : 40 ≤ T q
  · have e1 : cc_ovb (T q) ((cc_vl T n (cc_lf a_variables a_inputs a_outputs a_timerDone a_timerElapsed a_counterValue a_counterDone a_edgeDone) a_row) (cc_en T (q + 1))) = false := if_neg (by omega)
    have e2 : cc_cl (T q) a_variables = upd a_variables (T q - 40) (a_variables (T q - 40) + 1) := if_pos h40
    rw [e1, e2] at h
    refine br_f (cc_nlt (T q) 40 (by omega)) (br_f (cc_nle 56 (T q) (by omega)) ?_)
    refine ⟨cc_sV 40 16 (by omega) (by omega) (by omega), cc_sV 40 16 (by omega) (by omega) (by omega), ?_⟩
    refine nm_r (e' := upd a_variables (T q - 40) (a_variables (T q - 40) + 1)) (congrArg (fun k => upd a_variables k (a_variables k + 1)) (cc_sI 40 (by omega) (by omega))) ?_
    exact h a_worths
  · have e2 : cc_cl (T q) a_variables = a_variables := if_neg h40
    rw [e2] at h
    refine br_t (cc_lt (T q) 40 (by omega)) ?_
    unfold wX_closeRound_27
    rw [nI_1]
    refine ⟨vp_in_nI (by omega) (by omega), ?_⟩
    refine nm_r (e' := nI (cc_en T (q + 1))) (by rw [nI_clamp (by omega), p4]) ?_
    by_cases h37 : T q = 37
    · have hex1 : cc_ex (T (cc_en T (q + 1))) = true := cc_exk (k := 1) C.1 hq (by rw [h37]; decide) (by rw [h37]; decide)
      refine br_t (cc_eq (T q) 37 h37) ?_
      refine cc_xv C.1 C.2.1 p2 hex1 C.2.2.1 C.2.2.2.1 C.2.2.2.2 (fun w1 => ?_)
      have e1 : cc_ovb (T q) ((cc_vl T n (cc_lf a_variables a_inputs a_outputs a_timerDone a_timerElapsed a_counterValue a_counterDone a_edgeDone) a_row) (cc_en T (q + 1))) = cc_tr ((cc_vl T n (cc_lf a_variables a_inputs a_outputs a_timerDone a_timerElapsed a_counterValue a_counterDone a_edgeDone) a_row) (cc_en T (q + 1))) := if_pos h37
      rw [e1] at h
      refine br_c (fun z => ?_) (fun z => ?_)
      · rw [cc_tr0 z] at h; exact h w1
      · rw [cc_tr1 z] at h; exact h w1
    · have e1 : cc_ovb (T q) ((cc_vl T n (cc_lf a_variables a_inputs a_outputs a_timerDone a_timerElapsed a_counterValue a_counterDone a_edgeDone) a_row) (cc_en T (q + 1))) = false := if_neg h37
      rw [e1] at h
      exact br_f (cc_ne (T q) 37 h37) (h a_worths)

theorem cc_xob {post : Int32 → SX → Prop} {T : Nat → Nat} {n a q : Nat} {lim : Int32} (C : cc_XC T n a a_tokens a_ends) (hq : q < n) (hl : cc_lp (T q))
    (h : ∀ w', post (cc_bI (!cc_gob (T q) lim a_variables ((cc_vl T n (cc_lf a_variables a_inputs a_outputs a_timerDone a_timerElapsed a_counterValue a_counterDone a_edgeDone) a_row) (q + 1)))) (f_time, nI a, f_running, f_pending, f_roundsBegun, a_variables, a_row, a_inputs, a_outputs, a_timerOn, a_timerBegin, a_timerElapsed, a_timerDone, a_counterLast, a_counterValue, a_counterDone, a_edgeLast, a_edgeDone, a_tokens, a_lengths, a_ends, w', a_pendingPlaces, a_pendingRounds, a_pendingLimits)) :
    wpX_isOverBeforeBody post (f_time, nI a, f_running, f_pending, f_roundsBegun, a_variables, a_row, a_inputs, a_outputs, a_timerOn, a_timerBegin, a_timerElapsed, a_timerDone, a_counterLast, a_counterValue, a_counterDone, a_edgeLast, a_edgeDone, a_tokens, a_lengths, a_ends, a_worths, a_pendingPlaces, a_pendingRounds, a_pendingLimits) (nI q) (nI (T q)) lim := by
  have hn := C.1.2.2
  obtain ⟨p1, p2, p3, p4, p5⟩ := cc_xpre C hq (cc_lp_ar hl)
  have hlt := cc_lp_lt hl
  by_cases h40 : 40 ≤ T q
  · have e1 : cc_gob (T q) lim a_variables ((cc_vl T n (cc_lf a_variables a_inputs a_outputs a_timerDone a_timerElapsed a_counterValue a_counterDone a_edgeDone) a_row) (q + 1)) = decide (a_variables (T q - 40) ≤ lim) := by
      unfold cc_gob; rw [if_neg (by omega), if_pos h40]
    rw [e1] at h
    refine br_f (cc_nlt (T q) 40 (by omega)) (br_f (cc_nle 56 (T q) (by omega)) ?_)
    refine ⟨cc_sV 40 16 (by omega) (by omega) (by omega), ?_⟩
    rw [show (nI (T q) - 40).toNatClampNeg = T q - 40 from cc_sI 40 h40 (by omega)]
    refine br_c (fun z => ?_) (fun z => ?_)
    · rw [decide_eq_true z] at h; exact h a_worths
    · rw [decide_eq_false z] at h; exact h a_worths
  · refine br_t (cc_lt (T q) 40 (by omega)) ?_
    unfold wX_isOverBeforeBody_31
    rw [nI_1]
    by_cases h36 : T q = 36
    · have hex : cc_ex (T (q + 1)) = true := cc_exk (k := 0) C.1 hq (by rw [h36]; decide) (by rw [h36]; decide)
      refine br_t (cc_eq (T q) 36 h36) ?_
      refine cc_xv C.1 C.2.1 p1 hex C.2.2.1 C.2.2.2.1 C.2.2.2.2 (fun w1 => ?_)
      have e1 : cc_gob (T q) lim a_variables ((cc_vl T n (cc_lf a_variables a_inputs a_outputs a_timerDone a_timerElapsed a_counterValue a_counterDone a_edgeDone) a_row) (q + 1)) = cc_tr ((cc_vl T n (cc_lf a_variables a_inputs a_outputs a_timerDone a_timerElapsed a_counterValue a_counterDone a_edgeDone) a_row) (q + 1)) := if_pos h36
      rw [e1] at h
      refine br_c (fun z => ?_) (fun z => ?_)
      · rw [cc_tr0 z] at h; exact h w1
      · rw [cc_tr1 z] at h; exact h w1
    · have e1 : cc_gob (T q) lim a_variables ((cc_vl T n (cc_lf a_variables a_inputs a_outputs a_timerDone a_timerElapsed a_counterValue a_counterDone a_edgeDone) a_row) (q + 1)) = true := by
        unfold cc_gob; rw [if_neg h36, if_neg h40]
      rw [e1] at h
      exact br_f (cc_ne (T q) 36 h36) (h a_worths)

theorem cc_xlb {post : Int32 → Prop} {T : Nat → Nat} {n a q : Nat} (C : cc_XC T n a a_tokens a_ends) (hq : q < n) (hl : cc_lp (T q))
    (h : post (nI (cc_bd T q))) : wpX_loopBody post (f_time, f_active, f_running, f_pending, f_roundsBegun, a_variables, a_row, a_inputs, a_outputs, a_timerOn, a_timerBegin, a_timerElapsed, a_timerDone, a_counterLast, a_counterValue, a_counterDone, a_edgeLast, a_edgeDone, a_tokens, a_lengths, a_ends, a_worths, a_pendingPlaces, a_pendingRounds, a_pendingLimits) (nI q) (nI (T q)) := by
  have hn := C.1.2.2
  obtain ⟨p1, p2, p3, p4, p5⟩ := cc_xpre C hq (cc_lp_ar hl)
  have hlt := cc_lp_lt hl
  unfold wpX_loopBody
  dsimp only
  rw [nI_1]
  unfold cc_bd at h
  by_cases h37 : T q = 37
  · rw [if_pos h37] at h
    exact br_t (cc_eq (T q) 37 h37) h
  · rw [if_neg h37] at h
    refine br_f (cc_ne (T q) 37 h37) ⟨vp_in_nI (by omega) (by omega), ?_⟩
    refine nm_r (e' := nI (cc_en T (q + 1))) (by rw [nI_clamp (by omega), p4]) ?_
    by_cases h36 : T q = 36
    · rw [if_pos h36] at h
      exact br_t (cc_eq (T q) 36 h36) h
    · rw [if_neg h36] at h
      refine br_f (cc_ne (T q) 36 h36) ⟨vp_in_nI (by omega) (by omega), ?_⟩
      rw [nI_clamp (by omega), p5]
      exact h

theorem cc_xg30 {post : SX → Prop} {T : Nat → Nat} {n a q c M R : Nat} {lim : Int32} {b : Bool} (C : cc_XC T n a a_tokens a_ends) (hq : q < n) (hl : cc_lp (T q))
    (hpr : a_pendingRounds M = nI (c - 1)) (hpl : a_pendingLimits M = lim) (hc1 : 1 ≤ c) (hc : c ≤ 21) (hR : R ≤ 300) (hM : M ≤ 59)
    (h1 : (b = true ∨ c = 21) → post (f_time, nI a, f_running, nI M, nI R, a_variables, a_row, a_inputs, a_outputs, a_timerOn, a_timerBegin, a_timerElapsed, a_timerDone, a_counterLast, a_counterValue, a_counterDone, a_edgeLast, a_edgeDone, a_tokens, a_lengths, a_ends, a_worths, a_pendingPlaces, a_pendingRounds, a_pendingLimits))
    (h2 : ¬ (b = true ∨ c = 21) → R = 300 → post (f_time, nI a, f_running, 0, nI R, a_variables, a_row, a_inputs, a_outputs, a_timerOn, a_timerBegin, a_timerElapsed, a_timerDone, a_counterLast, a_counterValue, a_counterDone, a_edgeLast, a_edgeDone, a_tokens, a_lengths, a_ends, a_worths, a_pendingPlaces, a_pendingRounds, a_pendingLimits))
    (h3 : ¬ (b = true ∨ c = 21) → R < 300 → cc_gob (T q) lim a_variables ((cc_vl T n (cc_lf a_variables a_inputs a_outputs a_timerDone a_timerElapsed a_counterValue a_counterDone a_edgeDone) a_row) (q + 1)) = false → ∀ w', post (f_time, nI a, f_running, nI M, nI (R + 1), a_variables, a_row, a_inputs, a_outputs, a_timerOn, a_timerBegin, a_timerElapsed, a_timerDone, a_counterLast, a_counterValue, a_counterDone, a_edgeLast, a_edgeDone, a_tokens, a_lengths, a_ends, w', a_pendingPlaces, a_pendingRounds, a_pendingLimits))
    (h4 : ¬ (b = true ∨ c = 21) → R < 300 → cc_gob (T q) lim a_variables ((cc_vl T n (cc_lf a_variables a_inputs a_outputs a_timerDone a_timerElapsed a_counterValue a_counterDone a_edgeDone) a_row) (q + 1)) = true → ∀ w', post (f_time, nI a, f_running, nI (M + 1 + 1), nI (R + 1), a_variables, a_row, a_inputs, a_outputs, a_timerOn, a_timerBegin, a_timerElapsed, a_timerDone, a_counterLast, a_counterValue, a_counterDone, a_edgeLast, a_edgeDone, a_tokens, a_lengths, a_ends, w', upd a_pendingPlaces (M + 1) (nI (cc_bd T q)), upd (upd a_pendingRounds M (nI c)) (M + 1) (-1), upd a_pendingLimits (M + 1) 0)) :
    wX_goOnWithLoop_30 post (nI q) (nI (T q)) (nI M) (cc_bI b) f_time (nI a) f_running (nI (M + 1)) (nI R) a_variables a_row a_inputs a_outputs a_timerOn a_timerBegin a_timerElapsed a_timerDone a_counterLast a_counterValue a_counterDone a_edgeLast a_edgeDone a_tokens a_lengths a_ends a_worths a_pendingPlaces a_pendingRounds a_pendingLimits := by
  have hv : vp_in (nI M) 61 := vp_in_nI (by omega) (by omega)
  have hcl : (nI M).toNatClampNeg = M := nI_clamp (by omega)
  cases b with
  | true => exact br_f cc_n10 (h1 (Or.inl rfl))
  | false =>
    refine br_t cc_bf ⟨hv, ?_⟩
    rw [hcl, hpr]
    refine pk_lt (c - 1) 20 (fun z => ?_) (fun z => h1 (Or.inr (by omega)))
    have hno : ¬ (false = true ∨ c = 21) := by
      intro y
      rcases y with y | y
      · cases y
      · omega
    refine pk_lt R 300 (fun y => ?_) (fun y => h2 hno (by omega))
    refine nm_r (e' := nI (R + 1)) (nI_1 R) ⟨hv, ?_⟩
    rw [hpl]
    refine cc_xob C hq hl (fun w1 => ?_)
    cases hg : cc_gob (T q) lim a_variables ((cc_vl T n (cc_lf a_variables a_inputs a_outputs a_timerDone a_timerElapsed a_counterValue a_counterDone a_edgeDone) a_row) (q + 1)) with
    | false => exact br_f cc_n10 (h3 hno y hg w1)
    | true =>
      refine br_t cc_bf ⟨hv, hv, ?_⟩
      refine nm_r (e' := upd a_pendingRounds M (nI c)) (by rw [hpr, nI_1]; congr 2; omega) ?_
      refine cc_xlb C hq hl ?_
      refine cc_xpu (by omega) ?_
      exact h4 hno y hg w1
end
