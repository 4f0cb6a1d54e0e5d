def cc_YC (T : Nat → Nat) (n a : Nat) (tk en : Nat → Int32) : Prop :=
  cc_wh T n ∧ a < 2 ∧ (∀ i, i < n → tk (60 * a + i) = nI (T i)) ∧ (∀ i, i < n → en (60 * a + i) = nI (60 * a + cc_en T i))

theorem cc_arr {t : Nat} (h : cc_st t = true) (h2 : t ≠ 2) (h39 : t ≠ 39) : 1 ≤ cc_ar t := by
  have := cc_st_r h
  unfold cc_ar
  repeat' split
  all_goals omega

theorem cc_ys_push0 {a : Nat} {tk ta tr tl : Nat → Int32} {L : List (Nat × Nat × Int32)} (q : Nat) (l : Int32) (h : cc_ys a tk ta tr tl L) :
    cc_ys a (upd tk L.length 0) (upd ta L.length (nI (60 * a + q))) (upd tr L.length 0) (upd tl L.length l) ((q, 0, l) :: L) := cc_ys_push q 0 l h
theorem cc_ys_push1 {a : Nat} {tk ta tr tl : Nat → Int32} {L : List (Nat × Nat × Int32)} (q : Nat) (l : Int32) (h : cc_ys a tk ta tr tl L) :
    cc_ys a (upd tk L.length 1) (upd ta L.length (nI (60 * a + q))) (upd tr L.length 0) (upd tl L.length l) ((q, 1, l) :: L) := cc_ys_push q 1 l h

section
variable {f_time f_active f_running f_open f_depth f_tasks f_begun : Int32} {a_variables a_cells a_inputs a_outputs a_timerOn a_timerBegin a_timerElapsed a_timerDone a_counterLast a_counterValue a_counterDone a_edgeLast a_edgeDone a_sizes a_tokens a_ends a_wants a_numbers a_taskKind a_taskAt a_taskRounds a_taskLimit : Nat → Int32}
theorem cc_yinT {post : Int32 → Prop} {t : Nat} {x y : Int32} (l m : Nat) (h1 : l ≤ t) (h2 : t ≤ m) (h : post 1) (hx : x = nI l := by rfl) (hy : y = nI m := by rfl) (hm : m < 2 ^ 31 := by omega) : wpY_in post (f_time, f_active, f_running, f_open, f_depth, f_tasks, f_begun, a_variables, a_cells, a_inputs, a_outputs, a_timerOn, a_timerBegin, a_timerElapsed, a_timerDone, a_counterLast, a_counterValue, a_counterDone, a_edgeLast, a_edgeDone, a_sizes, a_tokens, a_ends, a_wants, a_numbers, a_taskKind, a_taskAt, a_taskRounds, a_taskLimit) (nI t) x y := by
  subst hx hy
  exact br_f (nI_nlt h1 (by omega)) (br_f (nI_nlt h2 hm) h)
theorem cc_yinF {post : Int32 → Prop} {t : Nat} {x y : Int32} (l m : Nat) (h1 : t < l ∨ m < t) (h : post 0) (hx : x = nI l := by rfl) (hy : y = nI m := by rfl) (hm : m < 2 ^ 30 := by omega) (hl : l < 2 ^ 30 := by omega) (ht : t < 2 ^ 31 := by omega) : wpY_in post (f_time, f_active, f_running, f_open, f_depth, f_tasks, f_begun, a_variables, a_cells, a_inputs, a_outputs, a_timerOn, a_timerBegin, a_timerElapsed, a_timerDone, a_counterLast, a_counterValue, a_counterDone, a_edgeLast, a_edgeDone, a_sizes, a_tokens, a_ends, a_wants, a_numbers, a_taskKind, a_taskAt, a_taskRounds, a_taskLimit) (nI t) x y := by
  subst hx hy
  by_cases z : t < l
  · exact br_t (nI_lt z (by omega)) h
  · exact br_f (nI_nlt (by omega) (by omega)) (br_t (nI_lt (by omega) (by omega)) h)

theorem cc_ys_two {post : SY → Prop} {T : Nat → Nat} {n a q : Nat} {L : List (Nat × Nat × Int32)} (C : cc_YC T n a a_tokens a_ends) (hq : q < n) (ht : T q = 2) (hlen : L.length ≤ 59)
    (hys : cc_ys a a_taskKind a_taskAt a_taskRounds a_taskLimit L)
    (h : ∀ num tk ta tr tl, cc_ys a tk ta tr tl L → post (f_time, f_active, f_running, f_open, 0, nI L.length, f_begun, a_variables, a_cells, a_inputs, a_outputs, a_timerOn, a_timerBegin, a_timerElapsed, a_timerDone, a_counterLast, a_counterValue, a_counterDone, a_edgeLast, a_edgeDone, a_sizes, a_tokens, a_ends, a_wants, num, tk, ta, tr, tl)) :
    wpY_statement post (f_time, f_active, f_running, f_open, 0, nI L.length, f_begun, a_variables, a_cells, a_inputs, a_outputs, a_timerOn, a_timerBegin, a_timerElapsed, a_timerDone, a_counterLast, a_counterValue, a_counterDone, a_edgeLast, a_edgeDone, a_sizes, a_tokens, a_ends, a_wants, a_numbers, a_taskKind, a_taskAt, a_taskRounds, a_taskLimit) (nI (60 * a + q)) := by
  have hn := C.1.2.2
  have ha := C.2.1
  have htq : T q < 291 := cc_va_lt (C.1.1 q hq).2
  have hT := cc_tI (show T q < 2147483648 by omega)
  refine ⟨vp_in_nI (by omega) (by omega), ?_⟩
  refine nm_r (e' := nI (T q)) (by rw [nI_clamp (by omega)]; exact C.2.2.1 q hq) ?_
  refine br_t (cc_eq (T q) 2 ht) ?_
  refine br_f (cc_ne (T q) 1 (by omega)) ?_
  refine cc_yinF 10 25 (by omega) ?_
  refine br_t rfl ?_
  refine cc_yinF 30 33 (by omega) ?_
  refine br_t rfl ?_
  refine br_f (cc_ne (T q) 34 (by omega)) ?_
  refine br_f (cc_ne (T q) 35 (by omega)) ?_
  refine br_f (cc_ne (T q) 36 (by omega)) ?_
  refine br_f (cc_ne (T q) 37 (by omega)) ?_
  refine br_f (cc_ne (T q) 39 (by omega)) ?_
  refine cc_yinF 40 55 (by omega) ?_
  refine br_t rfl ?_
  refine br_f (cc_ne (T q) 56 (by omega)) ?_
  refine cc_yinF 60 62 (by omega) ?_
  refine br_t rfl ?_
  refine cc_yinF 63 65 (by omega) ?_
  refine br_t rfl ?_
  refine cc_yinF 66 68 (by omega) ?_
  refine br_t rfl ?_
  exact h _ _ _ _ _ hys


theorem cc_ys_lea {post : SY → Prop} {T : Nat → Nat} {n a q : Nat} {L : List (Nat × Nat × Int32)} (C : cc_YC T n a a_tokens a_ends) (hq : q < n) (ht : T q = 39) (hlen : L.length ≤ 59)
    (hys : cc_ys a a_taskKind a_taskAt a_taskRounds a_taskLimit L) (hn1 : cc_n1 L)
    (h : ∀ num tk ta tr tl, cc_ys a tk ta tr tl (cc_lv L) → post (f_time, f_active, f_running, f_open, 0, nI (cc_lv L).length, f_begun, a_variables, a_cells, a_inputs, a_outputs, a_timerOn, a_timerBegin, a_timerElapsed, a_timerDone, a_counterLast, a_counterValue, a_counterDone, a_edgeLast, a_edgeDone, a_sizes, a_tokens, a_ends, a_wants, num, tk, ta, tr, tl)) :
    wpY_statement post (f_time, f_active, f_running, f_open, 0, nI L.length, f_begun, a_variables, a_cells, a_inputs, a_outputs, a_timerOn, a_timerBegin, a_timerElapsed, a_timerDone, a_counterLast, a_counterValue, a_counterDone, a_edgeLast, a_edgeDone, a_sizes, a_tokens, a_ends, a_wants, a_numbers, a_taskKind, a_taskAt, a_taskRounds, a_taskLimit) (nI (60 * a + q)) := by
  have hn := C.1.2.2
  have ha := C.2.1
  have htq : T q < 291 := cc_va_lt (C.1.1 q hq).2
  have hT := cc_tI (show T q < 2147483648 by omega)
  refine ⟨vp_in_nI (by omega) (by omega), ?_⟩
  refine nm_r (e' := nI (T q)) (by rw [nI_clamp (by omega)]; exact C.2.2.1 q hq) ?_
  refine br_f (cc_ne (T q) 2 (by omega)) (br_t (cc_eq (T q) 39 ht) ?_)
  refine br_f (cc_ne (T q) 1 (by omega)) ?_
  refine cc_yinF 10 25 (by omega) ?_
  refine br_t rfl ?_
  refine cc_yinF 30 33 (by omega) ?_
  refine br_t rfl ?_
  refine br_f (cc_ne (T q) 34 (by omega)) ?_
  refine br_f (cc_ne (T q) 35 (by omega)) ?_
  refine br_f (cc_ne (T q) 36 (by omega)) ?_
  refine br_f (cc_ne (T q) 37 (by omega)) ?_
  refine br_t (cc_eq (T q) 39 (by omega)) ?_
  refine cc_yle (a := a) (by omega) hn1 hys ?_
  exact h _ _ _ _ _ (cc_lv_ys hys)


theorem cc_ys_set {post : SY → Prop} {T : Nat → Nat} {n a q : Nat} {L : List (Nat × Nat × Int32)} (C : cc_YC T n a a_tokens a_ends) (hq : q < n) (h1 : 10 ≤ T q) (h2 : T q ≤ 25) (hlen : L.length ≤ 59)
    (hys : cc_ys a a_taskKind a_taskAt a_taskRounds a_taskLimit L)
    (h : ∀ num tk ta tr tl, cc_ys a tk ta tr tl L → post (f_time, f_active, f_running, f_open, 0, nI L.length, f_begun, upd a_variables (T q - 10) ((cc_vl T n (cc_lf a_variables a_inputs a_outputs a_timerDone a_timerElapsed a_counterValue a_counterDone a_edgeDone) a_cells) (q + 1)), a_cells, a_inputs, a_outputs, a_timerOn, a_timerBegin, a_timerElapsed, a_timerDone, a_counterLast, a_counterValue, a_counterDone, a_edgeLast, a_edgeDone, a_sizes, a_tokens, a_ends, a_wants, num, tk, ta, tr, tl)) :
    wpY_statement post (f_time, f_active, f_running, f_open, 0, nI L.length, f_begun, a_variables, a_cells, a_inputs, a_outputs, a_timerOn, a_timerBegin, a_timerElapsed, a_timerDone, a_counterLast, a_counterValue, a_counterDone, a_edgeLast, a_edgeDone, a_sizes, a_tokens, a_ends, a_wants, a_numbers, a_taskKind, a_taskAt, a_taskRounds, a_taskLimit) (nI (60 * a + q)) := by
  have hn := C.1.2.2
  have ha := C.2.1
  have htq : T q < 291 := cc_va_lt (C.1.1 q hq).2
  have hT := cc_tI (show T q < 2147483648 by omega)
  have h2a : 2 ≤ cc_ar (T q) ∨ 1 ≤ cc_ar (T q) := by
    right
    have hh : cc_st (T q) = true := by unfold cc_st; simp only [decide_eq_true_eq]; omega
    exact cc_arr hh (by omega) (by omega)
  have l0 : q + 1 < n := cc_nx_lt C.1 hq (show 0 < cc_ar (T q) by omega)
  have e0 := C.2.2.2 (q + 1) l0
  have le0 := cc_en_le C.1 l0
  refine ⟨vp_in_nI (by omega) (by omega), ?_⟩
  refine nm_r (e' := nI (T q)) (by rw [nI_clamp (by omega)]; exact C.2.2.1 q hq) ?_
  refine br_f (cc_ne (T q) 2 (by omega)) (br_f (cc_ne (T q) 39 (by omega)) ?_)
  rw [show nI (60 * a + q) + 1 = nI (60 * a + (q + 1)) from nI_1 _]
  refine ⟨vp_in_nI (by omega) (by omega), ?_⟩
  rw [nI_clamp (show 60 * a + (q + 1) < 2 ^ 31 by omega), e0]
  have hst : cc_st (T q) = true := by unfold cc_st; simp only [decide_eq_true_eq]; omega
  have hsp : cc_sp (T q) = 0 := by
    unfold cc_sp
    repeat' split
    all_goals omega
  have har : cc_ar (T q) = 1 := by
    unfold cc_ar
    repeat' split
    all_goals omega
  refine br_f (cc_ne (T q) 1 (by omega)) ?_
  refine cc_yinT 10 25 (by omega) (by omega) ?_
  refine br_f cc_n10 ?_
  rw [show nI (60 * a + q) + 1 = nI (60 * a + (q + 1)) from nI_1 _]
  refine cc_yw C.1 C.2.1 l0 (cc_exk (k := 0) C.1 hq (by omega) (cc_spst hst hsp 0)) C.2.2.1 C.2.2.2 (fun w0 => ?_)
  refine ⟨cc_sV 10 16 (by omega) (by omega) (by omega), ?_⟩
  refine nm_r (e' := upd a_variables (T q - 10) ((cc_vl T n (cc_lf a_variables a_inputs a_outputs a_timerDone a_timerElapsed a_counterValue a_counterDone a_edgeDone) a_cells) (q + 1))) (congrArg (fun k => upd a_variables k ((cc_vl T n (cc_lf a_variables a_inputs a_outputs a_timerDone a_timerElapsed a_counterValue a_counterDone a_edgeDone) a_cells) (q + 1))) (cc_sI 10 (by omega) (by omega))) ?_
  exact h _ _ _ _ _ hys


theorem cc_ys_out {post : SY → Prop} {T : Nat → Nat} {n a q : Nat} {L : List (Nat × Nat × Int32)} (C : cc_YC T n a a_tokens a_ends) (hq : q < n) (h1 : 30 ≤ T q) (h2 : T q ≤ 33) (hlen : L.length ≤ 59)
    (hys : cc_ys a a_taskKind a_taskAt a_taskRounds a_taskLimit L)
    (h : ∀ num tk ta tr tl, cc_ys a tk ta tr tl L → post (f_time, f_active, f_running, f_open, 0, nI L.length, f_begun, a_variables, a_cells, a_inputs, upd a_outputs (T q - 30) ((cc_vl T n (cc_lf a_variables a_inputs a_outputs a_timerDone a_timerElapsed a_counterValue a_counterDone a_edgeDone) a_cells) (q + 1)), a_timerOn, a_timerBegin, a_timerElapsed, a_timerDone, a_counterLast, a_counterValue, a_counterDone, a_edgeLast, a_edgeDone, a_sizes, a_tokens, a_ends, a_wants, num, tk, ta, tr, tl)) :
    wpY_statement post (f_time, f_active, f_running, f_open, 0, nI L.length, f_begun, a_variables, a_cells, a_inputs, a_outputs, a_timerOn, a_timerBegin, a_timerElapsed, a_timerDone, a_counterLast, a_counterValue, a_counterDone, a_edgeLast, a_edgeDone, a_sizes, a_tokens, a_ends, a_wants, a_numbers, a_taskKind, a_taskAt, a_taskRounds, a_taskLimit) (nI (60 * a + q)) := by
  have hn := C.1.2.2
  have ha := C.2.1
  have htq : T q < 291 := cc_va_lt (C.1.1 q hq).2
  have hT := cc_tI (show T q < 2147483648 by omega)
  have h2a : 2 ≤ cc_ar (T q) ∨ 1 ≤ cc_ar (T q) := by
    right
    have hh : cc_st (T q) = true := by unfold cc_st; simp only [decide_eq_true_eq]; omega
    exact cc_arr hh (by omega) (by omega)
  have l0 : q + 1 < n := cc_nx_lt C.1 hq (show 0 < cc_ar (T q) by omega)
  have e0 := C.2.2.2 (q + 1) l0
  have le0 := cc_en_le C.1 l0
  refine ⟨vp_in_nI (by omega) (by omega), ?_⟩
  refine nm_r (e' := nI (T q)) (by rw [nI_clamp (by omega)]; exact C.2.2.1 q hq) ?_
  refine br_f (cc_ne (T q) 2 (by omega)) (br_f (cc_ne (T q) 39 (by omega)) ?_)
  rw [show nI (60 * a + q) + 1 = nI (60 * a + (q + 1)) from nI_1 _]
  refine ⟨vp_in_nI (by omega) (by omega), ?_⟩
  rw [nI_clamp (show 60 * a + (q + 1) < 2 ^ 31 by omega), e0]
  have hst : cc_st (T q) = true := by unfold cc_st; simp only [decide_eq_true_eq]; omega
  have hsp : cc_sp (T q) = 0 := by
    unfold cc_sp
    repeat' split
    all_goals omega
  have har : cc_ar (T q) = 1 := by
    unfold cc_ar
    repeat' split
    all_goals omega
  refine br_f (cc_ne (T q) 1 (by omega)) ?_
  refine cc_yinF 10 25 (by omega) ?_
  refine br_t rfl ?_
  refine cc_yinT 30 33 (by omega) (by omega) ?_
  refine br_f cc_n10 ?_
  rw [show nI (60 * a + q) + 1 = nI (60 * a + (q + 1)) from nI_1 _]
  refine cc_yw C.1 C.2.1 l0 (cc_exk (k := 0) C.1 hq (by omega) (cc_spst hst hsp 0)) C.2.2.1 C.2.2.2 (fun w0 => ?_)
  refine ⟨cc_sV 30 4 (by omega) (by omega) (by omega), ?_⟩
  refine nm_r (e' := upd a_outputs (T q - 30) ((cc_vl T n (cc_lf a_variables a_inputs a_outputs a_timerDone a_timerElapsed a_counterValue a_counterDone a_edgeDone) a_cells) (q + 1))) (congrArg (fun k => upd a_outputs k ((cc_vl T n (cc_lf a_variables a_inputs a_outputs a_timerDone a_timerElapsed a_counterValue a_counterDone a_edgeDone) a_cells) (q + 1))) (cc_sI 30 (by omega) (by omega))) ?_
  exact h _ _ _ _ _ hys


theorem cc_ys_cel {post : SY → Prop} {T : Nat → Nat} {n a q : Nat} {L : List (Nat × Nat × Int32)} (C : cc_YC T n a a_tokens a_ends) (hq : q < n) (ht : T q = 34) (hlen : L.length ≤ 59)
    (hys : cc_ys a a_taskKind a_taskAt a_taskRounds a_taskLimit L)
    (h : ∀ num tk ta tr tl, cc_ys a tk ta tr tl L → post (f_time, f_active, f_running, f_open, 0, nI L.length, f_begun, a_variables, upd a_cells ((cc_vl T n (cc_lf a_variables a_inputs a_outputs a_timerDone a_timerElapsed a_counterValue a_counterDone a_edgeDone) a_cells) (q + 1) &&& 7).toNatClampNeg ((cc_vl T n (cc_lf a_variables a_inputs a_outputs a_timerDone a_timerElapsed a_counterValue a_counterDone a_edgeDone) a_cells) (cc_en T (q + 1))), a_inputs, a_outputs, a_timerOn, a_timerBegin, a_timerElapsed, a_timerDone, a_counterLast, a_counterValue, a_counterDone, a_edgeLast, a_edgeDone, a_sizes, a_tokens, a_ends, a_wants, num, tk, ta, tr, tl)) :
    wpY_statement post (f_time, f_active, f_running, f_open, 0, nI L.length, f_begun, a_variables, a_cells, a_inputs, a_outputs, a_timerOn, a_timerBegin, a_timerElapsed, a_timerDone, a_counterLast, a_counterValue, a_counterDone, a_edgeLast, a_edgeDone, a_sizes, a_tokens, a_ends, a_wants, a_numbers, a_taskKind, a_taskAt, a_taskRounds, a_taskLimit) (nI (60 * a + q)) := by
  have hn := C.1.2.2
  have ha := C.2.1
  have htq : T q < 291 := cc_va_lt (C.1.1 q hq).2
  have hT := cc_tI (show T q < 2147483648 by omega)
  have h2a : 2 ≤ cc_ar (T q) ∨ 1 ≤ cc_ar (T q) := by
    right
    have hh : cc_st (T q) = true := by unfold cc_st; simp only [decide_eq_true_eq]; omega
    exact cc_arr hh (by omega) (by omega)
  have l0 : q + 1 < n := cc_nx_lt C.1 hq (show 0 < cc_ar (T q) by omega)
  have e0 := C.2.2.2 (q + 1) l0
  have le0 := cc_en_le C.1 l0
  refine ⟨vp_in_nI (by omega) (by omega), ?_⟩
  refine nm_r (e' := nI (T q)) (by rw [nI_clamp (by omega)]; exact C.2.2.1 q hq) ?_
  refine br_f (cc_ne (T q) 2 (by omega)) (br_f (cc_ne (T q) 39 (by omega)) ?_)
  rw [show nI (60 * a + q) + 1 = nI (60 * a + (q + 1)) from nI_1 _]
  refine ⟨vp_in_nI (by omega) (by omega), ?_⟩
  rw [nI_clamp (show 60 * a + (q + 1) < 2 ^ 31 by omega), e0]
  have hst : cc_st (T q) = true := by unfold cc_st; simp only [decide_eq_true_eq]; omega
  have hsp : cc_sp (T q) = 0 := by
    unfold cc_sp
    repeat' split
    all_goals omega
  have har : cc_ar (T q) = 2 := by
    unfold cc_ar
    repeat' split
    all_goals omega
  have l1 : cc_en T (q + 1) < n := cc_nx_lt (k := 1) C.1 hq (by omega)
  refine br_f (cc_ne (T q) 1 (by omega)) ?_
  refine cc_yinF 10 25 (by omega) ?_
  refine br_t rfl ?_
  refine cc_yinF 30 33 (by omega) ?_
  refine br_t rfl ?_
  refine br_t (cc_eq (T q) 34 (by omega)) ?_
  rw [show nI (60 * a + q) + 1 = nI (60 * a + (q + 1)) from nI_1 _]
  refine cc_yw C.1 C.2.1 l0 (cc_exk (k := 0) C.1 hq (by omega) (cc_spst hst hsp 0)) C.2.2.1 C.2.2.2 (fun w0 => ?_)
  refine nm_e ?_
  refine cc_yw C.1 C.2.1 l1 (cc_exk (k := 1) C.1 hq (by omega) (cc_spst hst hsp 1)) C.2.2.1 C.2.2.2 (fun w1 => ?_)
  refine ⟨cc_and7 _, ?_⟩
  refine nm_e ?_
  exact h _ _ _ _ _ hys


theorem cc_ys_tim {post : SY → Prop} {T : Nat → Nat} {n a q : Nat} {L : List (Nat × Nat × Int32)} (C : cc_YC T n a a_tokens a_ends) (hq : q < n) (h1 : 60 ≤ T q) (h2 : T q ≤ 62) (hlen : L.length ≤ 59)
    (hys : cc_ys a a_taskKind a_taskAt a_taskRounds a_taskLimit L) (hb01 : cc_b01 a_timerOn)
    (h : ∀ num tk ta tr tl, cc_ys a tk ta tr tl L → post (f_time, f_active, f_running, f_open, 0, nI L.length, f_begun, a_variables, a_cells, a_inputs, a_outputs, cc_tOn a_timerOn (T q - 60) (cc_tr ((cc_vl T n (cc_lf a_variables a_inputs a_outputs a_timerDone a_timerElapsed a_counterValue a_counterDone a_edgeDone) a_cells) (q + 1))), cc_tBe a_timerOn a_timerBegin (T q - 60) (cc_tr ((cc_vl T n (cc_lf a_variables a_inputs a_outputs a_timerDone a_timerElapsed a_counterValue a_counterDone a_edgeDone) a_cells) (q + 1))) f_time, cc_tEl a_timerElapsed (T q - 60) (cc_tr ((cc_vl T n (cc_lf a_variables a_inputs a_outputs a_timerDone a_timerElapsed a_counterValue a_counterDone a_edgeDone) a_cells) (q + 1))) (f_time - cc_tBe a_timerOn a_timerBegin (T q - 60) (cc_tr ((cc_vl T n (cc_lf a_variables a_inputs a_outputs a_timerDone a_timerElapsed a_counterValue a_counterDone a_edgeDone) a_cells) (q + 1))) f_time (T q - 60)) ((cc_vl T n (cc_lf a_variables a_inputs a_outputs a_timerDone a_timerElapsed a_counterValue a_counterDone a_edgeDone) a_cells) (cc_en T (q + 1))), cc_tDo a_timerDone (T q - 60) (cc_tr ((cc_vl T n (cc_lf a_variables a_inputs a_outputs a_timerDone a_timerElapsed a_counterValue a_counterDone a_edgeDone) a_cells) (q + 1))) (f_time - cc_tBe a_timerOn a_timerBegin (T q - 60) (cc_tr ((cc_vl T n (cc_lf a_variables a_inputs a_outputs a_timerDone a_timerElapsed a_counterValue a_counterDone a_edgeDone) a_cells) (q + 1))) f_time (T q - 60)) ((cc_vl T n (cc_lf a_variables a_inputs a_outputs a_timerDone a_timerElapsed a_counterValue a_counterDone a_edgeDone) a_cells) (cc_en T (q + 1))), a_counterLast, a_counterValue, a_counterDone, a_edgeLast, a_edgeDone, a_sizes, a_tokens, a_ends, a_wants, num, tk, ta, tr, tl)) :
    wpY_statement post (f_time, f_active, f_running, f_open, 0, nI L.length, f_begun, a_variables, a_cells, a_inputs, a_outputs, a_timerOn, a_timerBegin, a_timerElapsed, a_timerDone, a_counterLast, a_counterValue, a_counterDone, a_edgeLast, a_edgeDone, a_sizes, a_tokens, a_ends, a_wants, a_numbers, a_taskKind, a_taskAt, a_taskRounds, a_taskLimit) (nI (60 * a + q)) := by
  have hn := C.1.2.2
  have ha := C.2.1
  have htq : T q < 291 := cc_va_lt (C.1.1 q hq).2
  have hT := cc_tI (show T q < 2147483648 by omega)
  have h2a : 2 ≤ cc_ar (T q) ∨ 1 ≤ cc_ar (T q) := by
    right
    have hh : cc_st (T q) = true := by unfold cc_st; simp only [decide_eq_true_eq]; omega
    exact cc_arr hh (by omega) (by omega)
  have l0 : q + 1 < n := cc_nx_lt C.1 hq (show 0 < cc_ar (T q) by omega)
  have e0 := C.2.2.2 (q + 1) l0
  have le0 := cc_en_le C.1 l0
  refine ⟨vp_in_nI (by omega) (by omega), ?_⟩
  refine nm_r (e' := nI (T q)) (by rw [nI_clamp (by omega)]; exact C.2.2.1 q hq) ?_
  refine br_f (cc_ne (T q) 2 (by omega)) (br_f (cc_ne (T q) 39 (by omega)) ?_)
  rw [show nI (60 * a + q) + 1 = nI (60 * a + (q + 1)) from nI_1 _]
  refine ⟨vp_in_nI (by omega) (by omega), ?_⟩
  rw [nI_clamp (show 60 * a + (q + 1) < 2 ^ 31 by omega), e0]
  have hst : cc_st (T q) = true := by unfold cc_st; simp only [decide_eq_true_eq]; omega
  have hsp : cc_sp (T q) = 0 := by
    unfold cc_sp
    repeat' split
    all_goals omega
  have har : cc_ar (T q) = 2 := by
    unfold cc_ar
    repeat' split
    all_goals omega
  have l1 : cc_en T (q + 1) < n := cc_nx_lt (k := 1) C.1 hq (by omega)
  refine br_f (cc_ne (T q) 1 (by omega)) ?_
  refine cc_yinF 10 25 (by omega) ?_
  refine br_t rfl ?_
  refine cc_yinF 30 33 (by omega) ?_
  refine br_t rfl ?_
  refine br_f (cc_ne (T q) 34 (by omega)) ?_
  refine br_f (cc_ne (T q) 35 (by omega)) ?_
  refine br_f (cc_ne (T q) 36 (by omega)) ?_
  refine br_f (cc_ne (T q) 37 (by omega)) ?_
  refine br_f (cc_ne (T q) 39 (by omega)) ?_
  refine cc_yinF 40 55 (by omega) ?_
  refine br_t rfl ?_
  refine br_f (cc_ne (T q) 56 (by omega)) ?_
  refine cc_yinT 60 62 (by omega) (by omega) ?_
  refine br_f cc_n10 ?_
  rw [show nI (60 * a + q) + 1 = nI (60 * a + (q + 1)) from nI_1 _]
  rw [show nI (T q) - 60 = nI (T q - 60) from pk_sub (b := 60) h1]
  refine cc_yw C.1 C.2.1 l0 (cc_exk (k := 0) C.1 hq (by omega) (cc_spst hst hsp 0)) C.2.2.1 C.2.2.2 (fun w0 => ?_)
  refine br_c (fun z => ?_) (fun z => ?_)
  · rw [cc_tr0 z] at h
    refine cc_yw C.1 C.2.1 l1 (cc_exk (k := 1) C.1 hq (by omega) (cc_spst hst hsp 1)) C.2.2.1 C.2.2.2 (fun w1 => ?_)
    exact cc_yti (e := false) (by omega) hb01 (h _ _ _ _ _ hys)
  · rw [cc_tr1 z] at h
    refine cc_yw C.1 C.2.1 l1 (cc_exk (k := 1) C.1 hq (by omega) (cc_spst hst hsp 1)) C.2.2.1 C.2.2.2 (fun w1 => ?_)
    exact cc_yti (e := true) (by omega) hb01 (h _ _ _ _ _ hys)


theorem cc_ys_cnt {post : SY → Prop} {T : Nat → Nat} {n a q : Nat} {L : List (Nat × Nat × Int32)} (C : cc_YC T n a a_tokens a_ends) (hq : q < n) (h1 : 63 ≤ T q) (h2 : T q ≤ 65) (hlen : L.length ≤ 59)
    (hys : cc_ys a a_taskKind a_taskAt a_taskRounds a_taskLimit L)
    (h : ∀ num tk ta tr tl, cc_ys a tk ta tr tl L → post (f_time, f_active, f_running, f_open, 0, nI L.length, f_begun, a_variables, a_cells, a_inputs, a_outputs, a_timerOn, a_timerBegin, a_timerElapsed, a_timerDone, upd a_counterLast (T q - 63) (cc_bI (cc_tr ((cc_vl T n (cc_lf a_variables a_inputs a_outputs a_timerDone a_timerElapsed a_counterValue a_counterDone a_edgeDone) a_cells) (q + 1)))), cc_cVa a_counterLast a_counterValue (T q - 63) (cc_tr ((cc_vl T n (cc_lf a_variables a_inputs a_outputs a_timerDone a_timerElapsed a_counterValue a_counterDone a_edgeDone) a_cells) (q + 1))) (cc_tr ((cc_vl T n (cc_lf a_variables a_inputs a_outputs a_timerDone a_timerElapsed a_counterValue a_counterDone a_edgeDone) a_cells) (cc_en T (q + 1)))), cc_cDo (cc_cVa a_counterLast a_counterValue (T q - 63) (cc_tr ((cc_vl T n (cc_lf a_variables a_inputs a_outputs a_timerDone a_timerElapsed a_counterValue a_counterDone a_edgeDone) a_cells) (q + 1))) (cc_tr ((cc_vl T n (cc_lf a_variables a_inputs a_outputs a_timerDone a_timerElapsed a_counterValue a_counterDone a_edgeDone) a_cells) (cc_en T (q + 1))))) a_counterDone (T q - 63) ((cc_vl T n (cc_lf a_variables a_inputs a_outputs a_timerDone a_timerElapsed a_counterValue a_counterDone a_edgeDone) a_cells) (cc_en T (cc_en T (q + 1)))), a_edgeLast, a_edgeDone, a_sizes, a_tokens, a_ends, a_wants, num, tk, ta, tr, tl)) :
    wpY_statement post (f_time, f_active, f_running, f_open, 0, nI L.length, f_begun, a_variables, a_cells, a_inputs, a_outputs, a_timerOn, a_timerBegin, a_timerElapsed, a_timerDone, a_counterLast, a_counterValue, a_counterDone, a_edgeLast, a_edgeDone, a_sizes, a_tokens, a_ends, a_wants, a_numbers, a_taskKind, a_taskAt, a_taskRounds, a_taskLimit) (nI (60 * a + q)) := by
  have hn := C.1.2.2
  have ha := C.2.1
  have htq : T q < 291 := cc_va_lt (C.1.1 q hq).2
  have hT := cc_tI (show T q < 2147483648 by omega)
  have h2a : 2 ≤ cc_ar (T q) ∨ 1 ≤ cc_ar (T q) := by
    right
    have hh : cc_st (T q) = true := by unfold cc_st; simp only [decide_eq_true_eq]; omega
    exact cc_arr hh (by omega) (by omega)
  have l0 : q + 1 < n := cc_nx_lt C.1 hq (show 0 < cc_ar (T q) by omega)
  have e0 := C.2.2.2 (q + 1) l0
  have le0 := cc_en_le C.1 l0
  refine ⟨vp_in_nI (by omega) (by omega), ?_⟩
  refine nm_r (e' := nI (T q)) (by rw [nI_clamp (by omega)]; exact C.2.2.1 q hq) ?_
  refine br_f (cc_ne (T q) 2 (by omega)) (br_f (cc_ne (T q) 39 (by omega)) ?_)
  rw [show nI (60 * a + q) + 1 = nI (60 * a + (q + 1)) from nI_1 _]
  refine ⟨vp_in_nI (by omega) (by omega), ?_⟩
  rw [nI_clamp (show 60 * a + (q + 1) < 2 ^ 31 by omega), e0]
  have hst : cc_st (T q) = true := by unfold cc_st; simp only [decide_eq_true_eq]; omega
  have hsp : cc_sp (T q) = 0 := by
    unfold cc_sp
    repeat' split
    all_goals omega
  have har : cc_ar (T q) = 3 := by
    unfold cc_ar
    repeat' split
    all_goals omega
  have l1 : cc_en T (q + 1) < n := cc_nx_lt (k := 1) C.1 hq (by omega)
  have l2 : cc_en T (cc_en T (q + 1)) < n := cc_nx_lt (k := 2) C.1 hq (by omega)
  have e1 := C.2.2.2 _ l1
  refine br_f (cc_ne (T q) 1 (by omega)) ?_
  refine cc_yinF 10 25 (by omega) ?_
  refine br_t rfl ?_
  refine cc_yinF 30 33 (by omega) ?_
  refine br_t rfl ?_
  refine br_f (cc_ne (T q) 34 (by omega)) ?_
  refine br_f (cc_ne (T q) 35 (by omega)) ?_
  refine br_f (cc_ne (T q) 36 (by omega)) ?_
  refine br_f (cc_ne (T q) 37 (by omega)) ?_
  refine br_f (cc_ne (T q) 39 (by omega)) ?_
  refine cc_yinF 40 55 (by omega) ?_
  refine br_t rfl ?_
  refine br_f (cc_ne (T q) 56 (by omega)) ?_
  refine cc_yinF 60 62 (by omega) ?_
  refine br_t rfl ?_
  refine cc_yinT 63 65 (by omega) (by omega) ?_
  refine br_f cc_n10 ?_
  rw [show nI (60 * a + q) + 1 = nI (60 * a + (q + 1)) from nI_1 _]
  rw [show nI (T q) - 63 = nI (T q - 63) from pk_sub (b := 63) h1]
  refine cc_yw C.1 C.2.1 l0 (cc_exk (k := 0) C.1 hq (by omega) (cc_spst hst hsp 0)) C.2.2.1 C.2.2.2 (fun w0 => ?_)
  refine br_c (fun z => ?_) (fun z => ?_)
  · rw [cc_tr0 z] at h
    refine cc_yw C.1 C.2.1 l1 (cc_exk (k := 1) C.1 hq (by omega) (cc_spst hst hsp 1)) C.2.2.1 C.2.2.2 (fun w1 => ?_)
    refine br_c (fun y => ?_) (fun y => ?_)
    · rw [cc_tr0 y] at h
      refine ⟨vp_in_nI (by omega) (by omega), ?_⟩
      try dsimp only
      rw [nI_clamp (by omega), e1]
      refine cc_yw C.1 C.2.1 l2 (cc_exk (k := 2) C.1 hq (by omega) (cc_spst hst hsp 2)) C.2.2.1 C.2.2.2 (fun w2 => ?_)
      exact cc_ycn (e := false) (f := false) (by omega) (h _ _ _ _ _ hys)
    · rw [cc_tr1 y] at h
      refine ⟨vp_in_nI (by omega) (by omega), ?_⟩
      try dsimp only
      rw [nI_clamp (by omega), e1]
      refine cc_yw C.1 C.2.1 l2 (cc_exk (k := 2) C.1 hq (by omega) (cc_spst hst hsp 2)) C.2.2.1 C.2.2.2 (fun w2 => ?_)
      exact cc_ycn (e := false) (f := true) (by omega) (h _ _ _ _ _ hys)
  · rw [cc_tr1 z] at h
    refine cc_yw C.1 C.2.1 l1 (cc_exk (k := 1) C.1 hq (by omega) (cc_spst hst hsp 1)) C.2.2.1 C.2.2.2 (fun w1 => ?_)
    refine br_c (fun y => ?_) (fun y => ?_)
    · rw [cc_tr0 y] at h
      refine ⟨vp_in_nI (by omega) (by omega), ?_⟩
      try dsimp only
      rw [nI_clamp (by omega), e1]
      refine cc_yw C.1 C.2.1 l2 (cc_exk (k := 2) C.1 hq (by omega) (cc_spst hst hsp 2)) C.2.2.1 C.2.2.2 (fun w2 => ?_)
      exact cc_ycn (e := true) (f := false) (by omega) (h _ _ _ _ _ hys)
    · rw [cc_tr1 y] at h
      refine ⟨vp_in_nI (by omega) (by omega), ?_⟩
      try dsimp only
      rw [nI_clamp (by omega), e1]
      refine cc_yw C.1 C.2.1 l2 (cc_exk (k := 2) C.1 hq (by omega) (cc_spst hst hsp 2)) C.2.2.1 C.2.2.2 (fun w2 => ?_)
      exact cc_ycn (e := true) (f := true) (by omega) (h _ _ _ _ _ hys)


theorem cc_ys_edg {post : SY → Prop} {T : Nat → Nat} {n a q : Nat} {L : List (Nat × Nat × Int32)} (C : cc_YC T n a a_tokens a_ends) (hq : q < n) (h1 : 66 ≤ T q) (h2 : T q ≤ 68) (hlen : L.length ≤ 59)
    (hys : cc_ys a a_taskKind a_taskAt a_taskRounds a_taskLimit L)
    (h : ∀ num tk ta tr tl, cc_ys a tk ta tr tl L → post (f_time, f_active, f_running, f_open, 0, nI L.length, f_begun, a_variables, a_cells, a_inputs, a_outputs, a_timerOn, a_timerBegin, a_timerElapsed, a_timerDone, a_counterLast, a_counterValue, a_counterDone, upd a_edgeLast (T q - 66) (cc_bI (cc_tr ((cc_vl T n (cc_lf a_variables a_inputs a_outputs a_timerDone a_timerElapsed a_counterValue a_counterDone a_edgeDone) a_cells) (q + 1)))), cc_eDo a_edgeLast a_edgeDone (T q - 66) (cc_tr ((cc_vl T n (cc_lf a_variables a_inputs a_outputs a_timerDone a_timerElapsed a_counterValue a_counterDone a_edgeDone) a_cells) (q + 1))), a_sizes, a_tokens, a_ends, a_wants, num, tk, ta, tr, tl)) :
    wpY_statement post (f_time, f_active, f_running, f_open, 0, nI L.length, f_begun, a_variables, a_cells, a_inputs, a_outputs, a_timerOn, a_timerBegin, a_timerElapsed, a_timerDone, a_counterLast, a_counterValue, a_counterDone, a_edgeLast, a_edgeDone, a_sizes, a_tokens, a_ends, a_wants, a_numbers, a_taskKind, a_taskAt, a_taskRounds, a_taskLimit) (nI (60 * a + q)) := by
  have hn := C.1.2.2
  have ha := C.2.1
  have htq : T q < 291 := cc_va_lt (C.1.1 q hq).2
  have hT := cc_tI (show T q < 2147483648 by omega)
  have h2a : 2 ≤ cc_ar (T q) ∨ 1 ≤ cc_ar (T q) := by
    right
    have hh : cc_st (T q) = true := by unfold cc_st; simp only [decide_eq_true_eq]; omega
    exact cc_arr hh (by omega) (by omega)
  have l0 : q + 1 < n := cc_nx_lt C.1 hq (show 0 < cc_ar (T q) by omega)
  have e0 := C.2.2.2 (q + 1) l0
  have le0 := cc_en_le C.1 l0
  refine ⟨vp_in_nI (by omega) (by omega), ?_⟩
  refine nm_r (e' := nI (T q)) (by rw [nI_clamp (by omega)]; exact C.2.2.1 q hq) ?_
  refine br_f (cc_ne (T q) 2 (by omega)) (br_f (cc_ne (T q) 39 (by omega)) ?_)
  rw [show nI (60 * a + q) + 1 = nI (60 * a + (q + 1)) from nI_1 _]
  refine ⟨vp_in_nI (by omega) (by omega), ?_⟩
  rw [nI_clamp (show 60 * a + (q + 1) < 2 ^ 31 by omega), e0]
  have hst : cc_st (T q) = true := by unfold cc_st; simp only [decide_eq_true_eq]; omega
  have hsp : cc_sp (T q) = 0 := by
    unfold cc_sp
    repeat' split
    all_goals omega
  have har : cc_ar (T q) = 1 := by
    unfold cc_ar
    repeat' split
    all_goals omega
  refine br_f (cc_ne (T q) 1 (by omega)) ?_
  refine cc_yinF 10 25 (by omega) ?_
  refine br_t rfl ?_
  refine cc_yinF 30 33 (by omega) ?_
  refine br_t rfl ?_
  refine br_f (cc_ne (T q) 34 (by omega)) ?_
  refine br_f (cc_ne (T q) 35 (by omega)) ?_
  refine br_f (cc_ne (T q) 36 (by omega)) ?_
  refine br_f (cc_ne (T q) 37 (by omega)) ?_
  refine br_f (cc_ne (T q) 39 (by omega)) ?_
  refine cc_yinF 40 55 (by omega) ?_
  refine br_t rfl ?_
  refine br_f (cc_ne (T q) 56 (by omega)) ?_
  refine cc_yinF 60 62 (by omega) ?_
  refine br_t rfl ?_
  refine cc_yinF 63 65 (by omega) ?_
  refine br_t rfl ?_
  refine cc_yinT 66 68 (by omega) (by omega) ?_
  refine br_f cc_n10 ?_
  rw [show nI (60 * a + q) + 1 = nI (60 * a + (q + 1)) from nI_1 _]
  rw [show nI (T q) - 66 = nI (T q - 66) from pk_sub (b := 66) h1]
  refine cc_yw C.1 C.2.1 l0 (cc_exk (k := 0) C.1 hq (by omega) (cc_spst hst hsp 0)) C.2.2.1 C.2.2.2 (fun w0 => ?_)
  refine br_c (fun z => ?_) (fun z => ?_)
  · rw [cc_tr0 z] at h
    exact cc_yed (e := false) (by omega) (h _ _ _ _ _ hys)
  · rw [cc_tr1 z] at h
    exact cc_yed (e := true) (by omega) (h _ _ _ _ _ hys)


theorem cc_ys_seq {post : SY → Prop} {T : Nat → Nat} {n a q : Nat} {L : List (Nat × Nat × Int32)} (C : cc_YC T n a a_tokens a_ends) (hq : q < n) (ht : T q = 1) (hlen : L.length ≤ 59)
    (hys : cc_ys a a_taskKind a_taskAt a_taskRounds a_taskLimit L)
    (h : ∀ num tk ta tr tl, cc_ys a tk ta tr tl ((cc_nx T 0 (q + 1), 0, 0) :: (cc_nx T 1 (q + 1), 0, 0) :: L) → post (f_time, f_active, f_running, f_open, 0, nI (L.length + 1 + 1), f_begun, a_variables, a_cells, a_inputs, a_outputs, a_timerOn, a_timerBegin, a_timerElapsed, a_timerDone, a_counterLast, a_counterValue, a_counterDone, a_edgeLast, a_edgeDone, a_sizes, a_tokens, a_ends, a_wants, num, tk, ta, tr, tl)) :
    wpY_statement post (f_time, f_active, f_running, f_open, 0, nI L.length, f_begun, a_variables, a_cells, a_inputs, a_outputs, a_timerOn, a_timerBegin, a_timerElapsed, a_timerDone, a_counterLast, a_counterValue, a_counterDone, a_edgeLast, a_edgeDone, a_sizes, a_tokens, a_ends, a_wants, a_numbers, a_taskKind, a_taskAt, a_taskRounds, a_taskLimit) (nI (60 * a + q)) := by
  have hn := C.1.2.2
  have ha := C.2.1
  have htq : T q < 291 := cc_va_lt (C.1.1 q hq).2
  have hT := cc_tI (show T q < 2147483648 by omega)
  have h2a : 2 ≤ cc_ar (T q) ∨ 1 ≤ cc_ar (T q) := by
    right
    have hh : cc_st (T q) = true := by unfold cc_st; simp only [decide_eq_true_eq]; omega
    exact cc_arr hh (by omega) (by omega)
  have l0 : q + 1 < n := cc_nx_lt C.1 hq (show 0 < cc_ar (T q) by omega)
  have e0 := C.2.2.2 (q + 1) l0
  have le0 := cc_en_le C.1 l0
  refine ⟨vp_in_nI (by omega) (by omega), ?_⟩
  refine nm_r (e' := nI (T q)) (by rw [nI_clamp (by omega)]; exact C.2.2.1 q hq) ?_
  refine br_f (cc_ne (T q) 2 (by omega)) (br_f (cc_ne (T q) 39 (by omega)) ?_)
  rw [show nI (60 * a + q) + 1 = nI (60 * a + (q + 1)) from nI_1 _]
  refine ⟨vp_in_nI (by omega) (by omega), ?_⟩
  rw [nI_clamp (show 60 * a + (q + 1) < 2 ^ 31 by omega), e0]
  have har : cc_ar (T q) = 2 := by
    unfold cc_ar
    repeat' split
    all_goals omega
  refine br_t (cc_eq (T q) 1 (by omega)) ?_
  rw [show nI (60 * a + q) + 1 = nI (60 * a + (q + 1)) from nI_1 _]
  refine cc_ytd (by omega) ?_
  refine cc_ytd (by omega) ?_
  exact h _ _ _ _ _ (cc_ys_push0 (q + 1) 0 (cc_ys_push0 (cc_en T (q + 1)) 0 hys))


theorem cc_ys_if {post : SY → Prop} {T : Nat → Nat} {n a q : Nat} {L : List (Nat × Nat × Int32)} (C : cc_YC T n a a_tokens a_ends) (hq : q < n) (ht : T q = 35) (hlen : L.length ≤ 59)
    (hys : cc_ys a a_taskKind a_taskAt a_taskRounds a_taskLimit L)
    (h : ∀ num tk ta tr tl, cc_ys a tk ta tr tl ((cc_nx T (if (cc_vl T n (cc_lf a_variables a_inputs a_outputs a_timerDone a_timerElapsed a_counterValue a_counterDone a_edgeDone) a_cells) (q + 1) = 0 then 2 else 1) (q + 1), 0, 0) :: L) → post (f_time, f_active, f_running, f_open, 0, nI (L.length + 1), f_begun, a_variables, a_cells, a_inputs, a_outputs, a_timerOn, a_timerBegin, a_timerElapsed, a_timerDone, a_counterLast, a_counterValue, a_counterDone, a_edgeLast, a_edgeDone, a_sizes, a_tokens, a_ends, a_wants, num, tk, ta, tr, tl)) :
    wpY_statement post (f_time, f_active, f_running, f_open, 0, nI L.length, f_begun, a_variables, a_cells, a_inputs, a_outputs, a_timerOn, a_timerBegin, a_timerElapsed, a_timerDone, a_counterLast, a_counterValue, a_counterDone, a_edgeLast, a_edgeDone, a_sizes, a_tokens, a_ends, a_wants, a_numbers, a_taskKind, a_taskAt, a_taskRounds, a_taskLimit) (nI (60 * a + q)) := by
  have hn := C.1.2.2
  have ha := C.2.1
  have htq : T q < 291 := cc_va_lt (C.1.1 q hq).2
  have hT := cc_tI (show T q < 2147483648 by omega)
  have h2a : 2 ≤ cc_ar (T q) ∨ 1 ≤ cc_ar (T q) := by
    right
    have hh : cc_st (T q) = true := by unfold cc_st; simp only [decide_eq_true_eq]; omega
    exact cc_arr hh (by omega) (by omega)
  have l0 : q + 1 < n := cc_nx_lt C.1 hq (show 0 < cc_ar (T q) by omega)
  have e0 := C.2.2.2 (q + 1) l0
  have le0 := cc_en_le C.1 l0
  refine ⟨vp_in_nI (by omega) (by omega), ?_⟩
  refine nm_r (e' := nI (T q)) (by rw [nI_clamp (by omega)]; exact C.2.2.1 q hq) ?_
  refine br_f (cc_ne (T q) 2 (by omega)) (br_f (cc_ne (T q) 39 (by omega)) ?_)
  rw [show nI (60 * a + q) + 1 = nI (60 * a + (q + 1)) from nI_1 _]
  refine ⟨vp_in_nI (by omega) (by omega), ?_⟩
  rw [nI_clamp (show 60 * a + (q + 1) < 2 ^ 31 by omega), e0]
  have har : cc_ar (T q) = 3 := by
    unfold cc_ar
    repeat' split
    all_goals omega
  have l1 : cc_en T (q + 1) < n := cc_nx_lt (k := 1) C.1 hq (by omega)
  have e1 := C.2.2.2 _ l1
  refine br_f (cc_ne (T q) 1 (by omega)) ?_
  refine cc_yinF 10 25 (by omega) ?_
  refine br_t rfl ?_
  refine cc_yinF 30 33 (by omega) ?_
  refine br_t rfl ?_
  refine br_f (cc_ne (T q) 34 (by omega)) ?_
  refine br_t (cc_eq (T q) 35 (by omega)) ?_
  rw [show nI (60 * a + q) + 1 = nI (60 * a + (q + 1)) from nI_1 _]
  refine cc_yw C.1 C.2.1 l0 (cc_exk (k := 0) C.1 hq (by omega) (by rw [ht]; decide)) C.2.2.1 C.2.2.2 (fun w0 => ?_)
  refine br_c (fun z => ?_) (fun z => ?_)
  · rw [if_pos z] at h
    refine ⟨vp_in_nI (by omega) (by omega), ?_⟩
    try dsimp only
    rw [nI_clamp (by omega), e1]
    refine cc_ytd (by omega) ?_
    exact h _ _ _ _ _ (cc_ys_push0 _ 0 hys)
  · rw [if_neg z] at h
    refine cc_ytd (by omega) ?_
    exact h _ _ _ _ _ (cc_ys_push0 _ 0 hys)


theorem cc_ys_cho {post : SY → Prop} {T : Nat → Nat} {n a q : Nat} {L : List (Nat × Nat × Int32)} (C : cc_YC T n a a_tokens a_ends) (hq : q < n) (ht : T q = 56) (hlen : L.length ≤ 59)
    (hys : cc_ys a a_taskKind a_taskAt a_taskRounds a_taskLimit L)
    (h : ∀ num tk ta tr tl, cc_ys a tk ta tr tl ((cc_nx T (if (cc_vl T n (cc_lf a_variables a_inputs a_outputs a_timerDone a_timerElapsed a_counterValue a_counterDone a_edgeDone) a_cells) (q + 1) = 0 then 1 else if (cc_vl T n (cc_lf a_variables a_inputs a_outputs a_timerDone a_timerElapsed a_counterValue a_counterDone a_edgeDone) a_cells) (q + 1) = 1 then 2 else 3) (q + 1), 0, 0) :: L) → post (f_time, f_active, f_running, f_open, 0, nI (L.length + 1), f_begun, a_variables, a_cells, a_inputs, a_outputs, a_timerOn, a_timerBegin, a_timerElapsed, a_timerDone, a_counterLast, a_counterValue, a_counterDone, a_edgeLast, a_edgeDone, a_sizes, a_tokens, a_ends, a_wants, num, tk, ta, tr, tl)) :
    wpY_statement post (f_time, f_active, f_running, f_open, 0, nI L.length, f_begun, a_variables, a_cells, a_inputs, a_outputs, a_timerOn, a_timerBegin, a_timerElapsed, a_timerDone, a_counterLast, a_counterValue, a_counterDone, a_edgeLast, a_edgeDone, a_sizes, a_tokens, a_ends, a_wants, a_numbers, a_taskKind, a_taskAt, a_taskRounds, a_taskLimit) (nI (60 * a + q)) := by
  have hn := C.1.2.2
  have ha := C.2.1
  have htq : T q < 291 := cc_va_lt (C.1.1 q hq).2
  have hT := cc_tI (show T q < 2147483648 by omega)
  have h2a : 2 ≤ cc_ar (T q) ∨ 1 ≤ cc_ar (T q) := by
    right
    have hh : cc_st (T q) = true := by unfold cc_st; simp only [decide_eq_true_eq]; omega
    exact cc_arr hh (by omega) (by omega)
  have l0 : q + 1 < n := cc_nx_lt C.1 hq (show 0 < cc_ar (T q) by omega)
  have e0 := C.2.2.2 (q + 1) l0
  have le0 := cc_en_le C.1 l0
  refine ⟨vp_in_nI (by omega) (by omega), ?_⟩
  refine nm_r (e' := nI (T q)) (by rw [nI_clamp (by omega)]; exact C.2.2.1 q hq) ?_
  refine br_f (cc_ne (T q) 2 (by omega)) (br_f (cc_ne (T q) 39 (by omega)) ?_)
  rw [show nI (60 * a + q) + 1 = nI (60 * a + (q + 1)) from nI_1 _]
  refine ⟨vp_in_nI (by omega) (by omega), ?_⟩
  rw [nI_clamp (show 60 * a + (q + 1) < 2 ^ 31 by omega), e0]
  have har : cc_ar (T q) = 4 := by
    unfold cc_ar
    repeat' split
    all_goals omega
  have l1 : cc_en T (q + 1) < n := cc_nx_lt (k := 1) C.1 hq (by omega)
  have l2 : cc_en T (cc_en T (q + 1)) < n := cc_nx_lt (k := 2) C.1 hq (by omega)
  have e1 := C.2.2.2 _ l1
  have e2 := C.2.2.2 _ l2
  refine br_f (cc_ne (T q) 1 (by omega)) ?_
  refine cc_yinF 10 25 (by omega) ?_
  refine br_t rfl ?_
  refine cc_yinF 30 33 (by omega) ?_
  refine br_t rfl ?_
  refine br_f (cc_ne (T q) 34 (by omega)) ?_
  refine br_f (cc_ne (T q) 35 (by omega)) ?_
  refine br_f (cc_ne (T q) 36 (by omega)) ?_
  refine br_f (cc_ne (T q) 37 (by omega)) ?_
  refine br_f (cc_ne (T q) 39 (by omega)) ?_
  refine cc_yinF 40 55 (by omega) ?_
  refine br_t rfl ?_
  refine br_t (cc_eq (T q) 56 (by omega)) ?_
  rw [show nI (60 * a + q) + 1 = nI (60 * a + (q + 1)) from nI_1 _]
  refine cc_yw C.1 C.2.1 l0 (cc_exk (k := 0) C.1 hq (by omega) (by rw [ht]; decide)) C.2.2.1 C.2.2.2 (fun w0 => ?_)
  refine br_c (fun z => ?_) (fun z => br_c (fun y => ?_) (fun y => ?_))
  · rw [if_pos z] at h
    refine cc_ytd (by omega) ?_
    exact h _ _ _ _ _ (cc_ys_push0 _ 0 hys)
  · rw [if_neg z, if_pos y] at h
    refine ⟨vp_in_nI (by omega) (by omega), ?_⟩
    try dsimp only
    rw [nI_clamp (by omega), e1]
    refine cc_ytd (by omega) ?_
    exact h _ _ _ _ _ (cc_ys_push0 _ 0 hys)
  · rw [if_neg z, if_neg y] at h
    refine ⟨vp_in_nI (by omega) (by omega), ?_⟩
    try dsimp only
    rw [nI_clamp (show 60 * a + cc_en T (q + 1) < 2 ^ 31 by omega), e1]
    refine ⟨vp_in_nI (by omega) (by omega), ?_⟩
    rw [nI_clamp (show 60 * a + cc_en T (cc_en T (q + 1)) < 2 ^ 31 by omega), e2]
    refine cc_ytd (by omega) ?_
    exact h _ _ _ _ _ (cc_ys_push0 _ 0 hys)


theorem cc_ys_for {post : SY → Prop} {T : Nat → Nat} {n a q : Nat} {L : List (Nat × Nat × Int32)} (C : cc_YC T n a a_tokens a_ends) (hq : q < n) (h1 : 40 ≤ T q) (h2 : T q ≤ 55) (hlen : L.length ≤ 59)
    (hys : cc_ys a a_taskKind a_taskAt a_taskRounds a_taskLimit L)
    (h : ∀ num tk ta tr tl, cc_ys a tk ta tr tl ((q, 1, (cc_vl T n (cc_lf a_variables a_inputs a_outputs a_timerDone a_timerElapsed a_counterValue a_counterDone a_edgeDone) a_cells) (cc_en T (q + 1))) :: L) → post (f_time, f_active, f_running, f_open, 0, nI (L.length + 1), f_begun, upd a_variables (T q - 40) ((cc_vl T n (cc_lf a_variables a_inputs a_outputs a_timerDone a_timerElapsed a_counterValue a_counterDone a_edgeDone) a_cells) (q + 1)), a_cells, a_inputs, a_outputs, a_timerOn, a_timerBegin, a_timerElapsed, a_timerDone, a_counterLast, a_counterValue, a_counterDone, a_edgeLast, a_edgeDone, a_sizes, a_tokens, a_ends, a_wants, num, tk, ta, tr, tl)) :
    wpY_statement post (f_time, f_active, f_running, f_open, 0, nI L.length, f_begun, a_variables, a_cells, a_inputs, a_outputs, a_timerOn, a_timerBegin, a_timerElapsed, a_timerDone, a_counterLast, a_counterValue, a_counterDone, a_edgeLast, a_edgeDone, a_sizes, a_tokens, a_ends, a_wants, a_numbers, a_taskKind, a_taskAt, a_taskRounds, a_taskLimit) (nI (60 * a + q)) := by
  have hn := C.1.2.2
  have ha := C.2.1
  have htq : T q < 291 := cc_va_lt (C.1.1 q hq).2
  have hT := cc_tI (show T q < 2147483648 by omega)
  have h2a : 2 ≤ cc_ar (T q) ∨ 1 ≤ cc_ar (T q) := by
    right
    have hh : cc_st (T q) = true := by unfold cc_st; simp only [decide_eq_true_eq]; omega
    exact cc_arr hh (by omega) (by omega)
  have l0 : q + 1 < n := cc_nx_lt C.1 hq (show 0 < cc_ar (T q) by omega)
  have e0 := C.2.2.2 (q + 1) l0
  have le0 := cc_en_le C.1 l0
  refine ⟨vp_in_nI (by omega) (by omega), ?_⟩
  refine nm_r (e' := nI (T q)) (by rw [nI_clamp (by omega)]; exact C.2.2.1 q hq) ?_
  refine br_f (cc_ne (T q) 2 (by omega)) (br_f (cc_ne (T q) 39 (by omega)) ?_)
  rw [show nI (60 * a + q) + 1 = nI (60 * a + (q + 1)) from nI_1 _]
  refine ⟨vp_in_nI (by omega) (by omega), ?_⟩
  rw [nI_clamp (show 60 * a + (q + 1) < 2 ^ 31 by omega), e0]
  have har : cc_ar (T q) = 3 := by
    unfold cc_ar
    repeat' split
    all_goals omega
  have l1 : cc_en T (q + 1) < n := cc_nx_lt (k := 1) C.1 hq (by omega)
  have ts0 : ∀ k, k < 2 → cc_ts (T q) k = false := by
    intro k hk
    unfold cc_ts
    rw [if_neg (by omega), if_neg (by omega), if_neg (by omega)]
    simp only [decide_eq_false_iff_not]
    omega
  refine br_f (cc_ne (T q) 1 (by omega)) ?_
  refine cc_yinF 10 25 (by omega) ?_
  refine br_t rfl ?_
  refine cc_yinF 30 33 (by omega) ?_
  refine br_t rfl ?_
  refine br_f (cc_ne (T q) 34 (by omega)) ?_
  refine br_f (cc_ne (T q) 35 (by omega)) ?_
  refine br_f (cc_ne (T q) 36 (by omega)) ?_
  refine br_f (cc_ne (T q) 37 (by omega)) ?_
  refine br_f (cc_ne (T q) 39 (by omega)) ?_
  refine cc_yinT 40 55 (by omega) (by omega) ?_
  refine br_f cc_n10 ?_
  rw [show nI (60 * a + q) + 1 = nI (60 * a + (q + 1)) from nI_1 _]
  refine cc_yw C.1 C.2.1 l1 (cc_exk (k := 1) C.1 hq (by omega) (ts0 1 (by omega))) C.2.2.1 C.2.2.2 (fun w1 => ?_)
  refine cc_yw C.1 C.2.1 l0 (cc_exk (k := 0) C.1 hq (by omega) (ts0 0 (by omega))) C.2.2.1 C.2.2.2 (fun w0 => ?_)
  refine ⟨cc_sV 40 16 (by omega) (by omega) (by omega), ?_⟩
  refine nm_r (e' := upd a_variables (T q - 40) ((cc_vl T n (cc_lf a_variables a_inputs a_outputs a_timerDone a_timerElapsed a_counterValue a_counterDone a_edgeDone) a_cells) (q + 1))) (congrArg (fun k => upd a_variables k ((cc_vl T n (cc_lf a_variables a_inputs a_outputs a_timerDone a_timerElapsed a_counterValue a_counterDone a_edgeDone) a_cells) (q + 1))) (cc_sI 40 (by omega) (by omega))) ?_
  refine cc_ytd (by omega) ?_
  exact h _ _ _ _ _ (cc_ys_push1 _ _ hys)


theorem cc_ys_whi {post : SY → Prop} {T : Nat → Nat} {n a q : Nat} {L : List (Nat × Nat × Int32)} (C : cc_YC T n a a_tokens a_ends) (hq : q < n) (ht : T q = 36 ∨ T q = 37) (hlen : L.length ≤ 59)
    (hys : cc_ys a a_taskKind a_taskAt a_taskRounds a_taskLimit L)
    (h : ∀ num tk ta tr tl, cc_ys a tk ta tr tl ((q, 1, 0) :: L) → post (f_time, f_active, f_running, f_open, 0, nI (L.length + 1), f_begun, a_variables, a_cells, a_inputs, a_outputs, a_timerOn, a_timerBegin, a_timerElapsed, a_timerDone, a_counterLast, a_counterValue, a_counterDone, a_edgeLast, a_edgeDone, a_sizes, a_tokens, a_ends, a_wants, num, tk, ta, tr, tl)) :
    wpY_statement post (f_time, f_active, f_running, f_open, 0, nI L.length, f_begun, a_variables, a_cells, a_inputs, a_outputs, a_timerOn, a_timerBegin, a_timerElapsed, a_timerDone, a_counterLast, a_counterValue, a_counterDone, a_edgeLast, a_edgeDone, a_sizes, a_tokens, a_ends, a_wants, a_numbers, a_taskKind, a_taskAt, a_taskRounds, a_taskLimit) (nI (60 * a + q)) := by
  have hn := C.1.2.2
  have ha := C.2.1
  have htq : T q < 291 := cc_va_lt (C.1.1 q hq).2
  have hT := cc_tI (show T q < 2147483648 by omega)
  have h2a : 2 ≤ cc_ar (T q) ∨ 1 ≤ cc_ar (T q) := by
    right
    have hh : cc_st (T q) = true := by unfold cc_st; simp only [decide_eq_true_eq]; omega
    exact cc_arr hh (by omega) (by omega)
  have l0 : q + 1 < n := cc_nx_lt C.1 hq (show 0 < cc_ar (T q) by omega)
  have e0 := C.2.2.2 (q + 1) l0
  have le0 := cc_en_le C.1 l0
  refine ⟨vp_in_nI (by omega) (by omega), ?_⟩
  refine nm_r (e' := nI (T q)) (by rw [nI_clamp (by omega)]; exact C.2.2.1 q hq) ?_
  refine br_f (cc_ne (T q) 2 (by omega)) (br_f (cc_ne (T q) 39 (by omega)) ?_)
  rw [show nI (60 * a + q) + 1 = nI (60 * a + (q + 1)) from nI_1 _]
  refine ⟨vp_in_nI (by omega) (by omega), ?_⟩
  rw [nI_clamp (show 60 * a + (q + 1) < 2 ^ 31 by omega), e0]
  by_cases h36 : T q = 36
  · refine br_f (cc_ne (T q) 1 (by omega)) ?_
    refine cc_yinF 10 25 (by omega) ?_
    refine br_t rfl ?_
    refine cc_yinF 30 33 (by omega) ?_
    refine br_t rfl ?_
    refine br_f (cc_ne (T q) 34 (by omega)) ?_
    refine br_f (cc_ne (T q) 35 (by omega)) ?_
    refine br_t (cc_eq (T q) 36 (by omega)) ?_
    refine cc_ytd (by omega) ?_
    exact h _ _ _ _ _ (cc_ys_push1 _ _ hys)
  · refine br_f (cc_ne (T q) 1 (by omega)) ?_
    refine cc_yinF 10 25 (by omega) ?_
    refine br_t rfl ?_
    refine cc_yinF 30 33 (by omega) ?_
    refine br_t rfl ?_
    refine br_f (cc_ne (T q) 34 (by omega)) ?_
    refine br_f (cc_ne (T q) 35 (by omega)) ?_
    refine br_f (cc_ne (T q) 36 (by omega)) ?_
    refine br_t (cc_eq (T q) 37 (by omega)) ?_
    refine cc_ytd (by omega) ?_
    exact h _ _ _ _ _ (cc_ys_push1 _ _ hys)


end
