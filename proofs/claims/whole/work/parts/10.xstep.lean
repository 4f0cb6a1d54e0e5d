def cc_XC (T : Nat → Nat) (n a : Nat) (tk en : Nat → Int32) : Prop :=
  cc_wh T n ∧ a < 2 ∧ (∀ i, i < n → tk (a * 61 + i) = nI (T i)) ∧ cc_eb en ∧ (∀ i, i < n → en i = nI (cc_en T i))

def cc_tr (e : Int32) : Bool := decide (e ≠ 0)
theorem cc_tr0 {e : Int32} (h : e = 0) : cc_tr e = false := by unfold cc_tr; simp [h]
theorem cc_tr1 {e : Int32} (h : ¬ e = 0) : cc_tr e = true := by unfold cc_tr; simp [h]

theorem cc_spst {t : Nat} (h : cc_st t = true) (h0 : cc_sp t = 0) (k : Nat) : cc_ts t k = false := by
  have a := cc_st_r h
  have b : ¬ (t = 1 ∨ t = 35) ∧ ¬ t = 56 ∧ ¬ (t = 36 ∨ t = 37 ∨ (40 ≤ t ∧ t < 56)) := by
    unfold cc_sp at h0
    repeat' (split at h0)
    all_goals omega
  unfold cc_ts
  rw [if_neg (by omega), if_neg (by omega), if_neg (by omega)]
  simp only [decide_eq_false_iff_not]
  omega

theorem cc_exk {T : Nat → Nat} {n q k : Nat} (w : cc_wh T n) (hq : q < n) (hk : k < cc_ar (T q)) (hs : cc_ts (T q) k = false) : cc_ex (T (cc_nx T k (q + 1))) = true :=
  cc_kind w (cc_nx_lt w hq hk) ((cc_part w hq hk).trans hs)

section
variable {f_time f_active f_running f_pending f_roundsBegun : Int32} {a_variables a_row a_inputs a_outputs a_timerOn a_timerBegin a_timerElapsed a_timerDone a_counterLast a_counterValue a_counterDone a_edgeLast a_edgeDone a_tokens a_lengths a_ends a_worths a_pendingPlaces a_pendingRounds a_pendingLimits : Nat → Int32}
theorem cc_xsim {post : SX → Prop} {T : Nat → Nat} {n a q : Nat} (C : cc_XC T n a a_tokens a_ends) (hq : q < n) (hst : cc_st (T q) = true) (hsp : cc_sp (T q) = 0)
    (h : ∀ w', wX_carryOutSimple_73 post (nI (T q)) (if 0 < cc_ep (T q) then (cc_vl T n (cc_lf a_variables a_inputs a_outputs a_timerDone a_timerElapsed a_counterValue a_counterDone a_edgeDone) a_row) (q + 1) else 0) (if 1 < cc_ep (T q) then (cc_vl T n (cc_lf a_variables a_inputs a_outputs a_timerDone a_timerElapsed a_counterValue a_counterDone a_edgeDone) a_row) (cc_en T (q + 1)) else 0) (if 2 < cc_ep (T q) then (cc_vl T n (cc_lf a_variables a_inputs a_outputs a_timerDone a_timerElapsed a_counterValue a_counterDone a_edgeDone) a_row) (cc_en T (cc_en T (q + 1))) else 0) f_time (nI a) f_running f_pending f_roundsBegun a_variables a_row a_inputs a_outputs a_timerOn a_timerBegin a_timerElapsed a_timerDone a_counterLast a_counterValue a_counterDone a_edgeLast a_edgeDone a_tokens a_lengths a_ends w' a_pendingPlaces a_pendingRounds a_pendingLimits) :
    wpX_carryOutSimple post (f_time, nI a, f_running, f_pending, f_roundsBegun, a_variables, a_row, a_inputs, a_outputs, a_timerOn, a_timerBegin, a_timerElapsed, a_timerDone, a_counterLast, a_counterValue, a_counterDone, a_edgeLast, a_edgeDone, a_tokens, a_lengths, a_ends, a_worths, a_pendingPlaces, a_pendingRounds, a_pendingLimits) (nI q) (nI (T q)) := by
  obtain ⟨w, ha, htok, hb, hends⟩ := C
  have hn := w.2.2
  have hva : cc_va (T q) := Or.inl hst
  have ht := cc_va_lt hva
  have h5 := cc_epsp hva
  have h4 := cc_ar_le (T q)
  have hex : ∀ k, k < cc_ar (T q) → cc_ex (T (cc_nx T k (q + 1))) = true := fun k hk => cc_exk w hq hk (cc_spst hst hsp k)
  obtain ⟨s, hs, es⟩ := hb (q + 1) (by omega)
  obtain ⟨r, hr, er⟩ := hb s (by omega)
  have S1 : 0 < cc_ep (T q) → s = cc_en T (q + 1) := fun z => by
    have l := cc_nx_lt w hq (show 0 < cc_ar (T q) by omega)
    have l2 := cc_en_le w l
    have e := hends (q + 1) l
    rw [es, nI_eq (by omega) (by simp only [cc_nx] at l2; omega)] at e
    exact e
  have S2 : 1 < cc_ep (T q) → r = cc_en T (cc_en T (q + 1)) := fun z => by
    have l := cc_nx_lt w hq (show 1 < cc_ar (T q) by omega)
    have l2 := cc_en_le w l
    have e := hends (cc_en T (q + 1)) l
    rw [← S1 (by omega), er, nI_eq (by omega) (by simp only [cc_nx] at l2; rw [S1 (by omega)]; omega)] at e
    rw [e, S1 (by omega)]
  unfold wpX_carryOutSimple
  dsimp only
  refine cc_xep (t := T q) (by omega) (fun k hk => ?_)
  rw [hk] at h
  rw [nI_1]
  refine ⟨vp_in_nI (by omega) (by omega), ?_⟩
  refine nm_r (e' := nI s) (by rw [nI_clamp (by omega), es]) ?_
  refine ⟨vp_in_nI (by omega) (by omega), ?_⟩
  refine nm_r (e' := nI r) (by rw [nI_clamp (by omega), er]) ?_
  refine pk_le k 0 (fun z => ?_) (fun z => ?_)
  · refine br_t (cc_le k 1 (by omega)) ?_
    refine br_t (cc_le k 2 (by omega)) ?_
    have := h a_worths
    rw [if_neg (by omega), if_neg (by omega), if_neg (by omega)] at this
    exact this
  · refine cc_xv w ha (cc_nx_lt w hq (show 0 < cc_ar (T q) by omega)) (hex 0 (by omega)) htok hb hends (fun w1 => ?_)
    refine pk_le k 1 (fun z1 => ?_) (fun z1 => ?_)
    · refine br_t (cc_le k 2 (by omega)) ?_
      have := h w1
      rw [if_pos (by omega), if_neg (by omega), if_neg (by omega)] at this
      exact this
    · rw [S1 (by omega)]
      refine cc_xv w ha (cc_nx_lt w hq (show 1 < cc_ar (T q) by omega)) (hex 1 (by omega)) htok hb hends (fun w2 => ?_)
      refine pk_le k 2 (fun z2 => ?_) (fun z2 => ?_)
      · have := h w2
        rw [if_pos (by omega), if_pos (by omega), if_neg (by omega)] at this
        exact this
      · rw [S2 (by omega)]
        refine cc_xv w ha (cc_nx_lt w hq (show 2 < cc_ar (T q) by omega)) (hex 2 (by omega)) htok hb hends (fun w3 => ?_)
        have := h w3
        rw [if_pos (by omega), if_pos (by omega), if_pos (by omega)] at this
        exact this

theorem cc_x73_set {post : SX → Prop} {t : Nat} {e f g : Int32} (h1 : 10 ≤ t) (h2 : t ≤ 25) (h : post (f_time, f_active, f_running, f_pending, f_roundsBegun, upd a_variables (t - 10) e, a_row, a_inputs, a_outputs, a_timerOn, a_timerBegin, a_timerElapsed, a_timerDone, a_counterLast, a_counterValue, a_counterDone, a_edgeLast, a_edgeDone, a_tokens, a_lengths, a_ends, a_worths, a_pendingPlaces, a_pendingRounds, a_pendingLimits)) : wX_carryOutSimple_73 post (nI t) e f g f_time f_active f_running f_pending f_roundsBegun a_variables a_row a_inputs a_outputs a_timerOn a_timerBegin a_timerElapsed a_timerDone a_counterLast a_counterValue a_counterDone a_edgeLast a_edgeDone a_tokens a_lengths a_ends a_worths a_pendingPlaces a_pendingRounds a_pendingLimits := by
  have hT := cc_tI (show t < 2147483648 by omega)
  repeat (first | refine br_t (by simp only [Int32.lt_iff_toInt_lt, Int32.le_iff_toInt_le, ← Int32.toInt_inj, hT, Int32.reduceToInt]; omega) ?_ | refine br_f (by simp only [Int32.lt_iff_toInt_lt, Int32.le_iff_toInt_le, ← Int32.toInt_inj, hT, Int32.reduceToInt]; omega) ?_)
  refine ⟨cc_sV 10 16 (by omega) (by omega) (by omega), ?_⟩
  exact nm_r (e' := upd a_variables (t - 10) e) (congrArg (fun k => upd a_variables k e) (cc_sI 10 (by omega) (by omega))) h

theorem cc_x73_out {post : SX → Prop} {t : Nat} {e f g : Int32} (h1 : 30 ≤ t) (h2 : t ≤ 33) (h : post (f_time, f_active, f_running, f_pending, f_roundsBegun, a_variables, a_row, a_inputs, upd a_outputs (t - 30) e, a_timerOn, a_timerBegin, a_timerElapsed, a_timerDone, a_counterLast, a_counterValue, a_counterDone, a_edgeLast, a_edgeDone, a_tokens, a_lengths, a_ends, a_worths, a_pendingPlaces, a_pendingRounds, a_pendingLimits)) : wX_carryOutSimple_73 post (nI t) e f g f_time f_active f_running f_pending f_roundsBegun a_variables a_row a_inputs a_outputs a_timerOn a_timerBegin a_timerElapsed a_timerDone a_counterLast a_counterValue a_counterDone a_edgeLast a_edgeDone a_tokens a_lengths a_ends a_worths a_pendingPlaces a_pendingRounds a_pendingLimits := by
  have hT := cc_tI (show t < 2147483648 by omega)
  repeat (first | refine br_t (by simp only [Int32.lt_iff_toInt_lt, Int32.le_iff_toInt_le, ← Int32.toInt_inj, hT, Int32.reduceToInt]; omega) ?_ | refine br_f (by simp only [Int32.lt_iff_toInt_lt, Int32.le_iff_toInt_le, ← Int32.toInt_inj, hT, Int32.reduceToInt]; omega) ?_)
  refine ⟨cc_sV 30 4 (by omega) (by omega) (by omega), ?_⟩
  exact nm_r (e' := upd a_outputs (t - 30) e) (congrArg (fun k => upd a_outputs k e) (cc_sI 30 (by omega) (by omega))) h

theorem cc_x73_cel {post : SX → Prop} {e f g : Int32} (h : post (f_time, f_active, f_running, f_pending, f_roundsBegun, a_variables, upd a_row (e &&& 7).toNatClampNeg f, a_inputs, a_outputs, a_timerOn, a_timerBegin, a_timerElapsed, a_timerDone, a_counterLast, a_counterValue, a_counterDone, a_edgeLast, a_edgeDone, a_tokens, a_lengths, a_ends, a_worths, a_pendingPlaces, a_pendingRounds, a_pendingLimits)) : wX_carryOutSimple_73 post (nI 34) e f g f_time f_active f_running f_pending f_roundsBegun a_variables a_row a_inputs a_outputs a_timerOn a_timerBegin a_timerElapsed a_timerDone a_counterLast a_counterValue a_counterDone a_edgeLast a_edgeDone a_tokens a_lengths a_ends a_worths a_pendingPlaces a_pendingRounds a_pendingLimits := by
  refine br_f (by decide) (br_f (by decide) (br_t (by decide) ?_))
  refine br_f (by decide) (br_t (by decide) ?_)
  refine br_t (by decide) ⟨cc_and7 _, ?_⟩
  exact nm_e h

theorem cc_x73_two {post : SX → Prop} {e f g : Int32} (h : post (f_time, f_active, f_running, f_pending, f_roundsBegun, a_variables, a_row, a_inputs, a_outputs, a_timerOn, a_timerBegin, a_timerElapsed, a_timerDone, a_counterLast, a_counterValue, a_counterDone, a_edgeLast, a_edgeDone, a_tokens, a_lengths, a_ends, a_worths, a_pendingPlaces, a_pendingRounds, a_pendingLimits)) : wX_carryOutSimple_73 post (nI 2) e f g f_time f_active f_running f_pending f_roundsBegun a_variables a_row a_inputs a_outputs a_timerOn a_timerBegin a_timerElapsed a_timerDone a_counterLast a_counterValue a_counterDone a_edgeLast a_edgeDone a_tokens a_lengths a_ends a_worths a_pendingPlaces a_pendingRounds a_pendingLimits := by
  repeat (first | refine br_t (by decide) ?_ | refine br_f (by decide) ?_)
  exact h

theorem cc_x73_tim {post : SX → Prop} {t : Nat} {e f g : Int32} (h1 : 60 ≤ t) (h2 : t ≤ 62)
    (h : post (f_time, f_active, f_running, f_pending, f_roundsBegun, a_variables, a_row, a_inputs, a_outputs, cc_tOn a_timerOn (t - 60) (cc_tr e), cc_tBe a_timerOn a_timerBegin (t - 60) (cc_tr e) f_time, cc_tEl a_timerElapsed (t - 60) (cc_tr e) (f_time - cc_tBe a_timerOn a_timerBegin (t - 60) (cc_tr e) f_time (t - 60)) f, cc_tDo a_timerDone (t - 60) (cc_tr e) (f_time - cc_tBe a_timerOn a_timerBegin (t - 60) (cc_tr e) f_time (t - 60)) f, a_counterLast, a_counterValue, a_counterDone, a_edgeLast, a_edgeDone, a_tokens, a_lengths, a_ends, a_worths, a_pendingPlaces, a_pendingRounds, a_pendingLimits)) :
    wX_carryOutSimple_73 post (nI t) e f g f_time f_active f_running f_pending f_roundsBegun a_variables a_row a_inputs a_outputs a_timerOn a_timerBegin a_timerElapsed a_timerDone a_counterLast a_counterValue a_counterDone a_edgeLast a_edgeDone a_tokens a_lengths a_ends a_worths a_pendingPlaces a_pendingRounds a_pendingLimits := by
  have hT := cc_tI (show t < 2147483648 by omega)
  repeat (first | refine br_t (by simp only [Int32.lt_iff_toInt_lt, Int32.le_iff_toInt_le, ← Int32.toInt_inj, hT, Int32.reduceToInt]; omega) ?_ | refine br_f (by simp only [Int32.lt_iff_toInt_lt, Int32.le_iff_toInt_le, ← Int32.toInt_inj, hT, Int32.reduceToInt]; omega) ?_)
  rw [show nI t - 60 = nI (t - 60) from pk_sub (b := 60) h1]
  refine br_c (fun z => ?_) (fun z => ?_)
  · rw [cc_tr0 z] at h; exact cc_xti (e := false) (by omega) h
  · rw [cc_tr1 z] at h; exact cc_xti (e := true) (by omega) h

theorem cc_x73_cnt {post : SX → Prop} {t : Nat} {e f g : Int32} (h1 : 63 ≤ t) (h2 : t ≤ 65)
    (h : post (f_time, f_active, f_running, f_pending, f_roundsBegun, a_variables, a_row, a_inputs, a_outputs, a_timerOn, a_timerBegin, a_timerElapsed, a_timerDone, upd a_counterLast (t - 63) (cc_bI (cc_tr e)), cc_cVa a_counterLast a_counterValue (t - 63) (cc_tr e) (cc_tr f), cc_cDo (cc_cVa a_counterLast a_counterValue (t - 63) (cc_tr e) (cc_tr f)) a_counterDone (t - 63) g, a_edgeLast, a_edgeDone, a_tokens, a_lengths, a_ends, a_worths, a_pendingPlaces, a_pendingRounds, a_pendingLimits)) :
    wX_carryOutSimple_73 post (nI t) e f g f_time f_active f_running f_pending f_roundsBegun a_variables a_row a_inputs a_outputs a_timerOn a_timerBegin a_timerElapsed a_timerDone a_counterLast a_counterValue a_counterDone a_edgeLast a_edgeDone a_tokens a_lengths a_ends a_worths a_pendingPlaces a_pendingRounds a_pendingLimits := by
  have hT := cc_tI (show t < 2147483648 by omega)
  repeat (first | refine br_t (by simp only [Int32.lt_iff_toInt_lt, Int32.le_iff_toInt_le, ← Int32.toInt_inj, hT, Int32.reduceToInt]; omega) ?_ | refine br_f (by simp only [Int32.lt_iff_toInt_lt, Int32.le_iff_toInt_le, ← Int32.toInt_inj, hT, Int32.reduceToInt]; omega) ?_)
  rw [show nI t - 63 = nI (t - 63) from pk_sub (b := 63) h1]
  refine br_c (fun z => br_c (fun y => ?_) (fun y => ?_)) (fun z => br_c (fun y => ?_) (fun y => ?_))
  · rw [cc_tr0 z, cc_tr0 y] at h; exact cc_xcn (e := false) (f := false) (by omega) h
  · rw [cc_tr0 z, cc_tr1 y] at h; exact cc_xcn (e := false) (f := true) (by omega) h
  · rw [cc_tr1 z, cc_tr0 y] at h; exact cc_xcn (e := true) (f := false) (by omega) h
  · rw [cc_tr1 z, cc_tr1 y] at h; exact cc_xcn (e := true) (f := true) (by omega) h

theorem cc_x73_edg {post : SX → Prop} {t : Nat} {e f g : Int32} (h1 : 66 ≤ t) (h2 : t ≤ 68)
    (h : post (f_time, f_active, f_running, f_pending, f_roundsBegun, a_variables, a_row, a_inputs, a_outputs, a_timerOn, a_timerBegin, a_timerElapsed, a_timerDone, a_counterLast, a_counterValue, a_counterDone, upd a_edgeLast (t - 66) (cc_bI (cc_tr e)), cc_eDo a_edgeLast a_edgeDone (t - 66) (cc_tr e), a_tokens, a_lengths, a_ends, a_worths, a_pendingPlaces, a_pendingRounds, a_pendingLimits)) :
    wX_carryOutSimple_73 post (nI t) e f g f_time f_active f_running f_pending f_roundsBegun a_variables a_row a_inputs a_outputs a_timerOn a_timerBegin a_timerElapsed a_timerDone a_counterLast a_counterValue a_counterDone a_edgeLast a_edgeDone a_tokens a_lengths a_ends a_worths a_pendingPlaces a_pendingRounds a_pendingLimits := by
  have hT := cc_tI (show t < 2147483648 by omega)
  repeat (first | refine br_t (by simp only [Int32.lt_iff_toInt_lt, Int32.le_iff_toInt_le, ← Int32.toInt_inj, hT, Int32.reduceToInt]; omega) ?_ | refine br_f (by simp only [Int32.lt_iff_toInt_lt, Int32.le_iff_toInt_le, ← Int32.toInt_inj, hT, Int32.reduceToInt]; omega) ?_)
  rw [show nI t - 66 = nI (t - 66) from pk_sub (b := 66) h1]
  refine br_c (fun z => ?_) (fun z => ?_)
  · rw [cc_tr0 z] at h; exact cc_xed (e := false) (by omega) h
  · rw [cc_tr1 z] at h; exact cc_xed (e := true) (by omega) h

theorem cc_x73_lea {post : SX → Prop} {L : List (Nat × Nat × Int32)} {e f g : Int32} (hlen : L.length ≤ 60) (hcode : ∀ e, e ∈ L → e.2.1 ≤ 21)
    (hxs : cc_xs a_pendingPlaces a_pendingRounds a_pendingLimits L) (h : post (f_time, f_active, f_running, nI (cc_lv L).length, f_roundsBegun, a_variables, a_row, a_inputs, a_outputs, a_timerOn, a_timerBegin, a_timerElapsed, a_timerDone, a_counterLast, a_counterValue, a_counterDone, a_edgeLast, a_edgeDone, a_tokens, a_lengths, a_ends, a_worths, a_pendingPlaces, a_pendingRounds, a_pendingLimits)) : wX_carryOutSimple_73 post (nI 39) e f g f_time f_active f_running (nI L.length) f_roundsBegun a_variables a_row a_inputs a_outputs a_timerOn a_timerBegin a_timerElapsed a_timerDone a_counterLast a_counterValue a_counterDone a_edgeLast a_edgeDone a_tokens a_lengths a_ends a_worths a_pendingPlaces a_pendingRounds a_pendingLimits :=
  br_t (by decide) (cc_xle hlen hcode hxs h)
end
