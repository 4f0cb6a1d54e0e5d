section
variable {f_time f_active f_running f_open f_depth f_tasks f_begun : Int32} {a_variables a_cells a_inputs a_outputs a_timerOn a_timerBegin a_timerElapsed a_timerDone a_counterLast a_counterValue a_counterDone a_edgeLast a_edgeDone a_sizes a_tokens a_ends a_wants a_numbers a_taskKind a_taskAt a_taskRounds a_taskLimit : Nat → Int32}
theorem cc_ypre {T : Nat → Nat} {n a q : Nat} (C : cc_YC T n a a_tokens a_ends) (hq : q < n) (h2 : 2 ≤ cc_ar (T q)) :
    q + 1 < n ∧ cc_en T (q + 1) < n ∧ cc_en T (cc_en T (q + 1)) ≤ n ∧ a_ends (60 * a + (q + 1)) = nI (60 * a + cc_en T (q + 1)) ∧ a_ends (60 * a + cc_en T (q + 1)) = nI (60 * a + cc_en T (cc_en T (q + 1))) := by
  obtain ⟨w, ha, htok, hends⟩ := C
  have l0 := cc_nx_lt w hq (show 0 < cc_ar (T q) by omega)
  have l1 := cc_nx_lt w hq (show 1 < cc_ar (T q) by omega)
  exact ⟨l0, l1, cc_en_le w l1, hends _ l0, hends _ l1⟩

theorem cc_ybr {post : SY → Prop} {T : Nat → Nat} {n a q r M R : Nat} {lim : Int32} (C : cc_YC T n a a_tokens a_ends) (hq : q < n) (hl : cc_lp (T q)) (hM : M ≤ 59) (hR : R ≤ 300)
    (h2 : R = 300 → post (f_time, f_active, f_running, f_open, 0, 0, nI R, a_variables, a_cells, a_inputs, a_outputs, a_timerOn, a_timerBegin, a_timerElapsed, a_timerDone, a_counterLast, a_counterValue, a_counterDone, a_edgeLast, a_edgeDone, a_sizes, a_tokens, a_ends, a_wants, a_numbers, a_taskKind, a_taskAt, a_taskRounds, a_taskLimit))
    (h3 : R < 300 → cc_gob (T q) lim a_variables ((cc_vl T n (cc_lf a_variables a_inputs a_outputs a_timerDone a_timerElapsed a_counterValue a_counterDone a_edgeDone) a_cells) (q + 1)) = false → ∀ num, post (f_time, f_active, f_running, f_open, 0, nI M, nI (R + 1), a_variables, a_cells, a_inputs, a_outputs, a_timerOn, a_timerBegin, a_timerElapsed, a_timerDone, a_counterLast, a_counterValue, a_counterDone, a_edgeLast, a_edgeDone, a_sizes, a_tokens, a_ends, a_wants, num, a_taskKind, a_taskAt, a_taskRounds, a_taskLimit))
    (h4 : R < 300 → cc_gob (T q) lim a_variables ((cc_vl T n (cc_lf a_variables a_inputs a_outputs a_timerDone a_timerElapsed a_counterValue a_counterDone a_edgeDone) a_cells) (q + 1)) = true → ∀ num, post (f_time, f_active, f_running, f_open, 0, nI (M + 1 + 1), nI (R + 1), a_variables, a_cells, a_inputs, a_outputs, a_timerOn, a_timerBegin, a_timerElapsed, a_timerDone, a_counterLast, a_counterValue, a_counterDone, a_edgeLast, a_edgeDone, a_sizes, a_tokens, a_ends, a_wants, num, upd (upd a_taskKind M 2) (M + 1) 0, upd (upd a_taskAt M (nI (60 * a + q))) (M + 1) (nI (60 * a + cc_bd T q)), upd (upd a_taskRounds M (nI r)) (M + 1) 0, upd (upd a_taskLimit M lim) (M + 1) 0)) :
    wpY_beginRound post (f_time, f_active, f_running, f_open, 0, nI M, nI R, a_variables, a_cells, a_inputs, a_outputs, a_timerOn, a_timerBegin, a_timerElapsed, a_timerDone, a_counterLast, a_counterValue, a_counterDone, a_edgeLast, a_edgeDone, a_sizes, a_tokens, a_ends, a_wants, a_numbers, a_taskKind, a_taskAt, a_taskRounds, a_taskLimit) (nI (60 * a + q)) (nI r) lim := by
  have hn := C.1.2.2
  have ha := C.2.1
  have hlt := cc_lp_lt hl
  obtain ⟨p1, p2, p3, p4, p5⟩ := cc_ypre C hq (cc_lp_ar hl)
  refine pk_eq R 300 (fun z => h2 z) (fun z => ?_)
  have hR2 : R < 300 := by omega
  refine nm_r (e' := nI (R + 1)) (nI_1 R) ?_
  refine ⟨vp_in_nI (by omega) (by omega), ?_⟩
  refine nm_r (e' := nI (T q)) (by rw [nI_clamp (by omega)]; exact C.2.2.1 q hq) ?_
  rw [show nI (60 * a + q) + 1 = nI (60 * a + (q + 1)) from nI_1 _]
  have c152 : ∀ (b : Bool) num, cc_gob (T q) lim a_variables ((cc_vl T n (cc_lf a_variables a_inputs a_outputs a_timerDone a_timerElapsed a_counterValue a_counterDone a_edgeDone) a_cells) (q + 1)) = b → wY_beginRound_152 post (nI (60 * a + q)) (nI r) lim (nI (60 * a + cc_bd T q)) (cc_bI b) f_time f_active f_running f_open 0 (nI M) (nI (R + 1)) a_variables a_cells a_inputs a_outputs a_timerOn a_timerBegin a_timerElapsed a_timerDone a_counterLast a_counterValue a_counterDone a_edgeLast a_edgeDone a_sizes a_tokens a_ends a_wants num a_taskKind a_taskAt a_taskRounds a_taskLimit := by
    intro b num hb
    cases b with
    | false => exact br_t cc_bf (h3 hR2 hb num)
    | true =>
      refine br_f cc_n10 ?_
      refine cc_ytd (by omega) ?_
      refine cc_ytd (by omega) ?_
      exact h4 hR2 hb num
  have c78 : wY_beginRound_78 post (nI (60 * a + q)) (nI r) lim (nI (T q)) (nI (60 * a + cc_bd T q)) f_time f_active f_running f_open 0 (nI M) (nI (R + 1)) a_variables a_cells a_inputs a_outputs a_timerOn a_timerBegin a_timerElapsed a_timerDone a_counterLast a_counterValue a_counterDone a_edgeLast a_edgeDone a_sizes a_tokens a_ends a_wants a_numbers a_taskKind a_taskAt a_taskRounds a_taskLimit := by
    by_cases h37 : T q = 37
    · refine br_t (cc_eq (T q) 37 h37) ?_
      refine br_f (cc_ne (T q) 36 (by omega)) ?_
      refine cc_yinF 40 55 (by omega) ?_
      refine br_t rfl ?_
      refine c152 true a_numbers ?_
      unfold cc_gob
      rw [if_neg (by omega), if_neg (by omega)]
    · refine br_f (cc_ne (T q) 37 h37) ?_
      by_cases h36 : T q = 36
      · have hex : cc_ex (T (q + 1)) = true := cc_exk (k := 0) C.1 hq (by rw [h36]; decide) (by rw [h36]; decide)
        have e1 : cc_gob (T q) lim a_variables ((cc_vl T n (cc_lf a_variables a_inputs a_outputs a_timerDone a_timerElapsed a_counterValue a_counterDone a_edgeDone) a_cells) (q + 1)) = cc_tr ((cc_vl T n (cc_lf a_variables a_inputs a_outputs a_timerDone a_timerElapsed a_counterValue a_counterDone a_edgeDone) a_cells) (q + 1)) := if_pos h36
        refine br_t (cc_eq (T q) 36 h36) ?_
        rw [show nI (60 * a + q) + 1 = nI (60 * a + (q + 1)) from nI_1 _]
        refine cc_yw C.1 C.2.1 p1 hex C.2.2.1 C.2.2.2 (fun w1 => ?_)
        refine br_c (fun y => ?_) (fun y => ?_)
        · unfold wY_beginRound_116 wY_beginRound_118
          refine cc_yinF (t := T q) 40 55 (by omega) ?_
          refine br_t rfl ?_
          exact c152 false w1 (by rw [e1, cc_tr0 y])
        · unfold wY_beginRound_116 wY_beginRound_118
          refine cc_yinF (t := T q) 40 55 (by omega) ?_
          refine br_t rfl ?_
          exact c152 true w1 (by rw [e1, cc_tr1 y])
      · have h40 : 40 ≤ T q := by unfold cc_lp at hl; omega
        have e1 : cc_gob (T q) lim a_variables ((cc_vl T n (cc_lf a_variables a_inputs a_outputs a_timerDone a_timerElapsed a_counterValue a_counterDone a_edgeDone) a_cells) (q + 1)) = decide (a_variables (T q - 40) ≤ lim) := by
          unfold cc_gob; rw [if_neg h36, if_pos h40]
        refine br_f (cc_ne (T q) 36 h36) ?_
        refine cc_yinT 40 55 (by omega) (by omega) ?_
        refine br_f cc_n10 ?_
        refine ⟨cc_sV 40 16 (by omega) (by omega) (by omega), ?_⟩
        rw [show (nI (T q) - 40).toNatClampNeg = T q - 40 from cc_sI 40 h40 (by omega)]
        refine br_c (fun y => ?_) (fun y => ?_)
        · exact c152 false a_numbers (by rw [e1]; exact decide_eq_false (Int32.not_le.mpr y))
        · exact c152 true a_numbers (by rw [e1]; exact decide_eq_true (Int32.not_lt.mp y))
  unfold cc_bd at c78
  by_cases h37 : T q = 37
  · rw [if_pos h37] at c78
    exact br_t (cc_eq (T q) 37 h37) c78
  · rw [if_neg h37] at c78
    refine br_f (cc_ne (T q) 37 h37) ?_
    by_cases h36 : T q = 36
    · rw [if_pos h36] at c78
      refine br_t (cc_eq (T q) 36 h36) ⟨vp_in_nI (by omega) (by omega), ?_⟩
      rw [nI_clamp (by omega), p4]
      exact c78
    · rw [if_neg h36] at c78
      refine br_f (cc_ne (T q) 36 h36) ⟨vp_in_nI (by omega) (by omega), ?_⟩
      rw [nI_clamp (show 60 * a + (q + 1) < 2 ^ 31 by omega), p4]
      refine ⟨vp_in_nI (by omega) (by omega), ?_⟩
      rw [nI_clamp (show 60 * a + cc_en T (q + 1) < 2 ^ 31 by omega), p5]
      exact c78

theorem cc_yer {post : SY → Prop} {T : Nat → Nat} {n a q r M : Nat} {lim : Int32} (C : cc_YC T n a a_tokens a_ends) (hq : q < n) (hl : cc_lp (T q)) (hM : M ≤ 59) (hr : r ≤ 19)
    (h1 : (cc_ovb (T q) ((cc_vl T n (cc_lf a_variables a_inputs a_outputs a_timerDone a_timerElapsed a_counterValue a_counterDone a_edgeDone) a_cells) (cc_en T (q + 1))) = true ∨ r = 19) → ∀ num, post (f_time, f_active, f_running, f_open, 0, nI M, f_begun, cc_cl (T q) a_variables, a_cells, a_inputs, a_outputs, a_timerOn, a_timerBegin, a_timerElapsed, a_timerDone, a_counterLast, a_counterValue, a_counterDone, a_edgeLast, a_edgeDone, a_sizes, a_tokens, a_ends, a_wants, num, a_taskKind, a_taskAt, a_taskRounds, a_taskLimit))
    (h2 : ¬ (cc_ovb (T q) ((cc_vl T n (cc_lf a_variables a_inputs a_outputs a_timerDone a_timerElapsed a_counterValue a_counterDone a_edgeDone) a_cells) (cc_en T (q + 1))) = true ∨ r = 19) → ∀ num, post (f_time, f_active, f_running, f_open, 0, nI (M + 1), f_begun, cc_cl (T q) a_variables, a_cells, a_inputs, a_outputs, a_timerOn, a_timerBegin, a_timerElapsed, a_timerDone, a_counterLast, a_counterValue, a_counterDone, a_edgeLast, a_edgeDone, a_sizes, a_tokens, a_ends, a_wants, num, upd a_taskKind M 1, upd a_taskAt M (nI (60 * a + q)), upd a_taskRounds M (nI (r + 1)), upd a_taskLimit M lim)) :
    wpY_endRound post (f_time, f_active, f_running, f_open, 0, nI M, f_begun, a_variables, a_cells, a_inputs, a_outputs, a_timerOn, a_timerBegin, a_timerElapsed, a_timerDone, a_counterLast, a_counterValue, a_counterDone, a_edgeLast, a_edgeDone, a_sizes, a_tokens, a_ends, a_wants, a_numbers, a_taskKind, a_taskAt, a_taskRounds, a_taskLimit) (nI (60 * a + q)) (nI r) lim := by
  have hn := C.1.2.2
  have ha := C.2.1
  have hlt := cc_lp_lt hl
  obtain ⟨p1, p2, p3, p4, p5⟩ := cc_ypre C hq (cc_lp_ar hl)
  have c82 : ∀ (b : Bool) num, ((cc_ovb (T q) ((cc_vl T n (cc_lf a_variables a_inputs a_outputs a_timerDone a_timerElapsed a_counterValue a_counterDone a_edgeDone) a_cells) (cc_en T (q + 1))) = true ∨ r = 19) ↔ b = true) →
      wY_endRound_82 post (nI (60 * a + q)) (nI r) lim (cc_bI b) f_time f_active f_running f_open 0 (nI M) f_begun (cc_cl (T q) a_variables) a_cells a_inputs a_outputs a_timerOn a_timerBegin a_timerElapsed a_timerDone a_counterLast a_counterValue a_counterDone a_edgeLast a_edgeDone a_sizes a_tokens a_ends a_wants num a_taskKind a_taskAt a_taskRounds a_taskLimit := by
    intro b num hb
    cases b with
    | true => exact br_f cc_n10 (h1 (hb.mpr rfl) num)
    | false =>
      refine br_t cc_bf ?_
      rw [nI_1]
      refine cc_ytd (by omega) ?_
      exact h2 (fun z => by cases hb.mp z) num
  have c55 : ∀ (b : Bool) num, ((cc_ovb (T q) ((cc_vl T n (cc_lf a_variables a_inputs a_outputs a_timerDone a_timerElapsed a_counterValue a_counterDone a_edgeDone) a_cells) (cc_en T (q + 1))) = true ∨ r = 19) ↔ b = true) →
      wY_endRound_55 post (nI (60 * a + q)) (nI r) lim (nI (T q)) (cc_bI b) f_time f_active f_running f_open 0 (nI M) f_begun a_variables a_cells a_inputs a_outputs a_timerOn a_timerBegin a_timerElapsed a_timerDone a_counterLast a_counterValue a_counterDone a_edgeLast a_edgeDone a_sizes a_tokens a_ends a_wants num a_taskKind a_taskAt a_taskRounds a_taskLimit := by
    intro b num hb
    have g := c82 b num hb
    by_cases h40 : 40 ≤ T q
    · have e2 : cc_cl (T q) a_variables = upd a_variables (T q - 40) (a_variables (T q - 40) + 1) := if_pos h40
      rw [e2] at g
      refine cc_yinT 40 55 (by omega) (by omega) ?_
      refine br_f cc_n10 ?_
      refine ⟨cc_sV 40 16 (by omega) (by omega) (by omega), cc_sV 40 16 (by omega) (by omega) (by omega), ?_⟩
      refine nm_r (e' := upd a_variables (T q - 40) (a_variables (T q - 40) + 1)) (congrArg (fun k => upd a_variables k (a_variables k + 1)) (cc_sI 40 (by omega) (by omega))) ?_
      exact g
    · have e2 : cc_cl (T q) a_variables = a_variables := if_neg h40
      rw [e2] at g
      refine cc_yinF 40 55 (by omega) ?_
      exact br_t rfl g
  have c19 : ∀ b : Bool, (r = 19 ↔ b = true) → wY_endRound_19 post (nI (60 * a + q)) (nI r) lim (nI (T q)) (cc_bI b) f_time f_active f_running f_open 0 (nI M) f_begun a_variables a_cells a_inputs a_outputs a_timerOn a_timerBegin a_timerElapsed a_timerDone a_counterLast a_counterValue a_counterDone a_edgeLast a_edgeDone a_sizes a_tokens a_ends a_wants a_numbers a_taskKind a_taskAt a_taskRounds a_taskLimit := by
    intro b hb
    by_cases h37 : T q = 37
    · have e1 : cc_ovb (T q) ((cc_vl T n (cc_lf a_variables a_inputs a_outputs a_timerDone a_timerElapsed a_counterValue a_counterDone a_edgeDone) a_cells) (cc_en T (q + 1))) = cc_tr ((cc_vl T n (cc_lf a_variables a_inputs a_outputs a_timerDone a_timerElapsed a_counterValue a_counterDone a_edgeDone) a_cells) (cc_en T (q + 1))) := if_pos h37
      have hex1 : cc_ex (T (cc_en T (q + 1))) = true := cc_exk (k := 1) C.1 hq (by rw [h37]; decide) (by rw [h37]; decide)
      rw [e1] at c55
      refine br_t (cc_eq (T q) 37 h37) ?_
      rw [show nI (60 * a + q) + 1 = nI (60 * a + (q + 1)) from nI_1 _]
      refine ⟨vp_in_nI (by omega) (by omega), ?_⟩
      rw [nI_clamp (by omega), p4]
      refine cc_yw C.1 C.2.1 p2 hex1 C.2.2.1 C.2.2.2 (fun w1 => ?_)
      refine br_c (fun y => ?_) (fun y => ?_)
      · rw [cc_tr0 y] at c55
        cases b with
        | false => exact br_t cc_bf (c55 false w1 (by simp [hb]))
        | true => exact br_f cc_n10 (c55 true w1 (by simp [hb]))
      · rw [cc_tr1 y] at c55
        exact c55 true w1 (by simp)
    · have e1 : cc_ovb (T q) ((cc_vl T n (cc_lf a_variables a_inputs a_outputs a_timerDone a_timerElapsed a_counterValue a_counterDone a_edgeDone) a_cells) (cc_en T (q + 1))) = false := if_neg h37
      rw [e1] at c55
      exact br_f (cc_ne (T q) 37 h37) (c55 b a_numbers (by simp [hb]))
  refine ⟨vp_in_nI (by omega) (by omega), ?_⟩
  refine nm_r (e' := nI (T q)) (by rw [nI_clamp (by omega)]; exact C.2.2.1 q hq) ?_
  refine pk_eq r 19 (fun z => ?_) (fun z => ?_)
  · exact c19 true (by simp [z])
  · exact c19 false (by simp [z])
end
