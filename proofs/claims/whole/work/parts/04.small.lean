theorem cc_le (a b : Nat) {x y : Int32} (h : a ≤ b) (hx : x = nI a := by rfl) (hy : y = nI b := by rfl) (hb : b < 2 ^ 31 := by omega) : x ≤ y := by
  subst hx hy; exact nI_le h hb
theorem cc_nle (a b : Nat) {x y : Int32} (h : b < a) (hx : x = nI a := by rfl) (hy : y = nI b := by rfl) (ha : a < 2 ^ 31 := by omega) : ¬ x ≤ y := by
  subst hx hy; exact nI_ge h ha
theorem cc_lt (a b : Nat) {x y : Int32} (h : a < b) (hx : x = nI a := by rfl) (hy : y = nI b := by rfl) (hb : b < 2 ^ 31 := by omega) : x < y := by
  subst hx hy; exact nI_lt h hb
theorem cc_nlt (a b : Nat) {x y : Int32} (h : b ≤ a) (hx : x = nI a := by rfl) (hy : y = nI b := by rfl) (ha : a < 2 ^ 31 := by omega) : ¬ x < y := by
  subst hx hy; exact nI_nlt h ha
theorem cc_eq (a b : Nat) {x y : Int32} (h : a = b) (hx : x = nI a := by rfl) (hy : y = nI b := by rfl) : x = y := by
  subst hx hy; rw [h]
theorem cc_ne (a b : Nat) {x y : Int32} (h : a ≠ b) (hx : x = nI a := by rfl) (hy : y = nI b := by rfl) (ha : a < 2 ^ 31 := by omega) (hb : b < 2 ^ 31 := by omega) : ¬ x = y := by
  subst hx hy; rw [nI_eq ha hb]; exact h

theorem cc_a61 (p i : Nat) : nI p * 61 + nI i = nI (p * 61 + i) := by
  rw [show (61 : Int32) = nI 61 from rfl, pk_mul, nI_add]
theorem cc_a60 (p i : Nat) : 60 * nI p + nI i = nI (60 * p + i) := by
  rw [show (60 : Int32) = nI 60 from rfl, pk_mul, nI_add]
theorem cc_b60 (p : Nat) : 60 * nI p = nI (60 * p) := by
  rw [show (60 : Int32) = nI 60 from rfl, pk_mul]
theorem cc_sm1 (x : Int32) : x - 1 = x + (-1) := Int32.sub_eq_add_neg x 1
theorem cc_s1 {a : Nat} (h : 0 < a) : nI a - 1 = nI (a - 1) := pk_sub (b := 1) h

theorem cc_vb (b : Bool) : vp_nar .boolean (cc_bI b) = cc_bI b := by cases b <;> decide
theorem cc_vb0 : vp_nar .boolean 0 = 0 := by decide
theorem cc_vb1 : vp_nar .boolean 1 = 1 := by decide

def cc_kI (x : Int32) : Nat :=
  if (1 ≤ x.toInt ∧ x.toInt ≤ 2) ∨ (10 ≤ x.toInt ∧ x.toInt ≤ 25) ∨ (30 ≤ x.toInt ∧ x.toInt ≤ 37) ∨ (39 ≤ x.toInt ∧ x.toInt ≤ 56) ∨ (60 ≤ x.toInt ∧ x.toInt ≤ 68) then 1
  else if (100 ≤ x.toInt ∧ x.toInt ≤ 115) ∨ (120 ≤ x.toInt ∧ x.toInt ≤ 128) ∨ (130 ≤ x.toInt ∧ x.toInt ≤ 157) ∨ (210 ≤ x.toInt ∧ x.toInt ≤ 290) then 2 else 0

theorem cc_xko {post : Int32 → Prop} {x : Int32} (h : ∀ k, cc_kI x = k → post (nI k)) : wpX_kindOf post x := by
  unfold wpX_kindOf wX_kindOf_22 wX_kindOf_34 wX_kindOf_46 wX_kindOf_62 wX_kindOf_58 wX_kindOf_63 wX_kindOf_76 wX_kindOf_89 wX_kindOf_103 wX_kindOf_117 wX_kindOf_121 wX_kindOf_122
  simp only [Int32.lt_iff_toInt_lt, Int32.le_iff_toInt_le, ← Int32.toInt_inj, Int32.reduceToInt, Int.reduceEq, true_implies, false_implies, not_true_eq_false, not_false_eq_true, and_true, true_and]
  have h0 : cc_kI x = 0 → post 0 := h 0
  have h1 : cc_kI x = 1 → post 1 := h 1
  have h2 : cc_kI x = 2 → post 2 := h 2
  repeat' (first | refine And.intro ?_ ?_ | intro _)
  all_goals first | (exfalso; omega) | (refine h0 ?_; unfold cc_kI; (repeat' split); all_goals omega) | (refine h1 ?_; unfold cc_kI; (repeat' split); all_goals omega) | (refine h2 ?_; unfold cc_kI; (repeat' split); all_goals omega)

theorem cc_kI_va {x : Int32} (h : cc_kI x ≠ 0) : ∃ t, t < 291 ∧ x = nI t ∧ (cc_kI x = 1 → cc_st t = true) ∧ (cc_kI x = 2 → cc_ex t = true) := by
  have hx : 1 ≤ x.toInt ∧ x.toInt ≤ 290 := by
    unfold cc_kI at h
    split at h
    · omega
    · split at h
      · omega
      · omega
  refine ⟨x.toInt.toNat, by omega, ?_, fun h1 => ?_, fun h2 => ?_⟩
  · apply Int32.toInt_inj.mp
    rw [cc_tI (by omega)]
    omega
  · unfold cc_kI at h1
    unfold cc_st
    simp only [decide_eq_true_eq]
    split at h1
    · omega
    · split at h1 <;> omega
  · unfold cc_kI at h2
    unfold cc_ex
    simp only [decide_eq_true_eq]
    split at h2
    · omega
    · split at h2 <;> omega

theorem cc_pk {t : Nat} (h : cc_va t) {i : Nat} (hi : i < cc_ar t) : (t = 37 → cc_ts t i = decide (i = 0)) ∧ (t ≠ 37 → cc_ts t i = decide (cc_ep t ≤ i)) := by
  have hv := cc_va_iff h
  have h4 := cc_epsp h
  constructor
  · intro e; subst e; rfl
  · intro hne
    unfold cc_ts
    repeat' split
    · rename_i e; subst e; simp [cc_ep]
    · rename_i e1 e2
      rcases e2 with e | e | e <;> subst e <;> simp [cc_ep] <;> omega
    · rename_i e1 e2
      have g : cc_ar t = cc_ep t + cc_sp t := h4.symm
      by_cases h5 : 40 ≤ t ∧ t ≤ 55
      · have e4 : cc_ep t = 2 := by
          unfold cc_ep
          repeat' split
          all_goals omega
        have e5 : cc_ar t = 3 := by
          unfold cc_ar
          repeat' split
          all_goals omega
        rw [e4]
        by_cases h6 : i = 2
        · subst h6; simp [h5.1, h5.2]
        · have : ¬ 2 ≤ i := by omega
          simp [h6, this]
      · have e4 : cc_sp t = 0 := by
          unfold cc_sp
          repeat' split
          all_goals omega
        have : ¬ cc_ep t ≤ i := by omega
        have h7 : ¬ (40 ≤ t ∧ t ≤ 55 ∧ i = 2) := by omega
        simp [this, h7]

theorem cc_xpk {post : Int32 → Prop} {t i : Nat} (hv : cc_va t) (hi : i < cc_ar t) (h : post (if cc_ts t i = true then 1 else 2)) : wpX_partKind post (nI t) (nI i) := by
  have ht := cc_va_lt hv
  have h4 := cc_ar_le t
  obtain ⟨p1, p2⟩ := cc_pk hv hi
  refine pk_eq t 37 (fun e => ?_) (fun e => ?_)
  · rw [p1 e] at h
    refine pk_eq i 0 (fun z => ?_) (fun z => ?_)
    · simpa [z] using h
    · simpa [z] using h
  · rw [p2 e] at h
    refine cc_xep (by omega) (fun k hk => ?_)
    subst hk
    have h5 := cc_epsp hv
    refine pk_le (cc_ep t) i (fun z => ?_) (fun z => ?_)
    · simpa [z] using h
    · have : ¬ cc_ep t ≤ i := by omega
      simpa [this] using h

section
variable {f_time f_active f_running f_open f_depth f_tasks f_begun : Int32} {a_variables a_cells a_inputs a_outputs a_timerOn a_timerBegin a_timerElapsed a_timerDone a_counterLast a_counterValue a_counterDone a_edgeLast a_edgeDone a_sizes a_tokens a_ends a_wants a_numbers a_taskKind a_taskAt a_taskRounds a_taskLimit : Nat → Int32}
theorem cc_yin {post : Int32 → Prop} {x l m : Int32} (h : post (if l ≤ x ∧ x ≤ m then 1 else 0)) : wpY_in post (f_time, f_active, f_running, f_open, f_depth, f_tasks, f_begun, a_variables, a_cells, a_inputs, a_outputs, a_timerOn, a_timerBegin, a_timerElapsed, a_timerDone, a_counterLast, a_counterValue, a_counterDone, a_edgeLast, a_edgeDone, a_sizes, a_tokens, a_ends, a_wants, a_numbers, a_taskKind, a_taskAt, a_taskRounds, a_taskLimit) x l m := by
  refine br_c (fun h1 => ?_) (fun h1 => br_c (fun h2 => ?_) (fun h2 => ?_))
  · rw [if_neg (fun z => absurd z.1 (Int32.not_le.mpr h1))] at h; exact h
  · rw [if_neg (fun z => absurd z.2 (Int32.not_le.mpr h2))] at h; exact h
  · rw [if_pos ⟨Int32.not_lt.mp h1, Int32.not_lt.mp h2⟩] at h; exact h

theorem cc_yar {post : Int32 → Prop} {t : Nat} (ht : t < 2147483648) (h : ∀ k, cc_ar t = k → post (nI k)) : wpY_partsOf post (f_time, f_active, f_running, f_open, f_depth, f_tasks, f_begun, a_variables, a_cells, a_inputs, a_outputs, a_timerOn, a_timerBegin, a_timerElapsed, a_timerDone, a_counterLast, a_counterValue, a_counterDone, a_edgeLast, a_edgeDone, a_sizes, a_tokens, a_ends, a_wants, a_numbers, a_taskKind, a_taskAt, a_taskRounds, a_taskLimit) (nI t) := by
  have hT := cc_tI ht
  have h0 : cc_ar t = 0 → post 0 := h 0
  have h1 : cc_ar t = 1 → post 1 := h 1
  have h2 : cc_ar t = 2 → post 2 := h 2
  have h3 : cc_ar t = 3 → post 3 := h 3
  have h4 : cc_ar t = 4 → post 4 := h 4
  unfold wpY_partsOf wpY_in
  simp only [Int32.lt_iff_toInt_lt, Int32.le_iff_toInt_le, ← Int32.toInt_inj, hT, Int32.reduceToInt, Int.reduceEq, true_implies, false_implies, not_true_eq_false, not_false_eq_true, and_true, true_and]
  repeat' (first | refine And.intro ?_ ?_ | intro _)
  all_goals first | (exfalso; omega) | (refine h0 ?_; unfold cc_ar; (repeat' split); all_goals omega) | (refine h1 ?_; unfold cc_ar; (repeat' split); all_goals omega) | (refine h2 ?_; unfold cc_ar; (repeat' split); all_goals omega) | (refine h3 ?_; unfold cc_ar; (repeat' split); all_goals omega) | (refine h4 ?_; unfold cc_ar; (repeat' split); all_goals omega)

theorem cc_yts {post : Int32 → Prop} {t i : Nat} (ht : t < 2147483648) (hi : i < 2147483648) (h : post (cc_bI (cc_ts t i))) : wpY_takesStatement post (f_time, f_active, f_running, f_open, f_depth, f_tasks, f_begun, a_variables, a_cells, a_inputs, a_outputs, a_timerOn, a_timerBegin, a_timerElapsed, a_timerDone, a_counterLast, a_counterValue, a_counterDone, a_edgeLast, a_edgeDone, a_sizes, a_tokens, a_ends, a_wants, a_numbers, a_taskKind, a_taskAt, a_taskRounds, a_taskLimit) (nI t) (nI i) := by
  have hT := cc_tI ht
  have hI := cc_tI hi
  have h0 : cc_ts t i = false → post 0 := fun e => by rw [e] at h; exact h
  have h1 : cc_ts t i = true → post 1 := fun e => by rw [e] at h; exact h
  unfold wpY_takesStatement wY_takesStatement_25 wpY_in
  simp only [Int32.lt_iff_toInt_lt, Int32.le_iff_toInt_le, ← Int32.toInt_inj, hT, hI, Int32.reduceToInt, Int.reduceEq, true_implies, false_implies, not_true_eq_false, not_false_eq_true, and_true, true_and]
  clear h
  repeat' (first | refine And.intro ?_ ?_ | intro _)
  all_goals first | (exfalso; omega) | (refine h0 ?_; unfold cc_ts; (repeat' split); all_goals (first | omega | (simp only [decide_eq_false_iff_not]; omega))) | (refine h1 ?_; unfold cc_ts; (repeat' split); all_goals (first | rfl | omega | (simp only [decide_eq_true_eq]; omega)))

theorem cc_yst {post : Int32 → Prop} {x : Int32} (h : post (if cc_kI x = 1 then 1 else 0)) : wpY_isStatement post (f_time, f_active, f_running, f_open, f_depth, f_tasks, f_begun, a_variables, a_cells, a_inputs, a_outputs, a_timerOn, a_timerBegin, a_timerElapsed, a_timerDone, a_counterLast, a_counterValue, a_counterDone, a_edgeLast, a_edgeDone, a_sizes, a_tokens, a_ends, a_wants, a_numbers, a_taskKind, a_taskAt, a_taskRounds, a_taskLimit) x := by
  have h0 : cc_kI x ≠ 1 → post 0 := fun e => by rw [if_neg e] at h; exact h
  have h1 : cc_kI x = 1 → post 1 := fun e => by rw [if_pos e] at h; exact h
  unfold wpY_isStatement wpY_in
  simp only [Int32.lt_iff_toInt_lt, Int32.le_iff_toInt_le, ← Int32.toInt_inj, Int32.reduceToInt, Int.reduceEq, true_implies, false_implies, not_true_eq_false, not_false_eq_true, and_true, true_and]
  clear h
  repeat' (first | refine And.intro ?_ ?_ | intro _)
  all_goals first | (exfalso; omega) | (refine h0 ?_; unfold cc_kI; (repeat' split); all_goals omega) | (refine h1 ?_; unfold cc_kI; (repeat' split); all_goals omega)

theorem cc_yex {post : Int32 → Prop} {x : Int32} (h : post (if cc_kI x = 2 then 1 else 0)) : wpY_isExpression post (f_time, f_active, f_running, f_open, f_depth, f_tasks, f_begun, a_variables, a_cells, a_inputs, a_outputs, a_timerOn, a_timerBegin, a_timerElapsed, a_timerDone, a_counterLast, a_counterValue, a_counterDone, a_edgeLast, a_edgeDone, a_sizes, a_tokens, a_ends, a_wants, a_numbers, a_taskKind, a_taskAt, a_taskRounds, a_taskLimit) x := by
  have h0 : cc_kI x ≠ 2 → post 0 := fun e => by rw [if_neg e] at h; exact h
  have h1 : cc_kI x = 2 → post 1 := fun e => by rw [if_pos e] at h; exact h
  unfold wpY_isExpression wpY_in
  simp only [Int32.lt_iff_toInt_lt, Int32.le_iff_toInt_le, ← Int32.toInt_inj, Int32.reduceToInt, Int.reduceEq, true_implies, false_implies, not_true_eq_false, not_false_eq_true, and_true, true_and]
  clear h
  repeat' (first | refine And.intro ?_ ?_ | intro _)
  all_goals first | (exfalso; omega) | (refine h0 ?_; unfold cc_kI; (repeat' split); all_goals omega) | (refine h1 ?_; unfold cc_kI; (repeat' split); all_goals omega)
end
