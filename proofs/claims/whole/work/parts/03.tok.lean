theorem cc_cast {α : Type} {post : α → Prop} {a b : α} (h : post a) (e : a = b) : post b := e ▸ h

theorem cc_tI {t : Nat} (h : t < 2147483648) : (nI t).toInt = (t : Int) := nI_toInt h

def cc_od (t : Nat) : Nat :=
  if t = 128 ∨ t = 139 then 1 else if t = 142 then 3 else if 130 ≤ t ∧ t < 142 then 2 else 0

def cc_ep (t : Nat) : Nat :=
  if 100 ≤ t then cc_od t else if t = 1 ∨ t = 2 ∨ t = 39 then 0 else if 63 ≤ t ∧ t < 66 then 3
  else if t = 34 ∨ (40 ≤ t ∧ t < 56) ∨ (60 ≤ t ∧ t < 63) then 2 else 1

def cc_sp (t : Nat) : Nat :=
  if t = 1 ∨ t = 35 then 2 else if t = 56 then 3 else if t = 36 ∨ t = 37 ∨ (40 ≤ t ∧ t < 56) then 1 else 0

def cc_va (t : Nat) : Prop := cc_st t = true ∨ cc_ex t = true

theorem cc_va_iff {t : Nat} (h : cc_va t) : ((1 ≤ t ∧ t ≤ 2) ∨ (10 ≤ t ∧ t ≤ 25) ∨ (30 ≤ t ∧ t ≤ 37) ∨ (39 ≤ t ∧ t ≤ 56) ∨ (60 ≤ t ∧ t ≤ 68)) ∨
    ((100 ≤ t ∧ t ≤ 115) ∨ (120 ≤ t ∧ t ≤ 128) ∨ (130 ≤ t ∧ t ≤ 157) ∨ (210 ≤ t ∧ t ≤ 290)) := by
  rcases h with h | h
  · unfold cc_st at h; simp only [decide_eq_true_eq] at h; exact Or.inl h
  · unfold cc_ex at h; simp only [decide_eq_true_eq] at h; exact Or.inr h

theorem cc_va_lt {t : Nat} (h : cc_va t) : t < 291 := by
  have := cc_va_iff h
  omega

theorem cc_epsp {t : Nat} (h : cc_va t) : cc_ep t + cc_sp t = cc_ar t := by
  have := cc_va_iff h
  unfold cc_ep cc_od cc_sp cc_ar
  repeat' split
  all_goals omega

theorem cc_xod {post : Int32 → Prop} {t : Nat} (ht : t < 2147483648) (h : ∀ k, cc_od t = k → post (nI k)) : wpX_operands post (nI t) := by
  have hT := cc_tI ht
  repeat' (refine br_c (fun _ => ?_) (fun _ => ?_))
  all_goals first | refine h 0 ?_ | refine h 1 ?_ | refine h 2 ?_ | refine h 3 ?_
  all_goals simp only [Int32.lt_iff_toInt_lt, Int32.le_iff_toInt_le, ← Int32.toInt_inj, hT, Int32.reduceToInt, not_true_eq_false] at *
  all_goals (unfold cc_od; repeat' split)
  all_goals omega

theorem cc_xep {post : Int32 → Prop} {t : Nat} (ht : t < 2147483648) (h : ∀ k, cc_ep t = k → post (nI k)) : wpX_expressionParts post (nI t) := by
  have hT := cc_tI ht
  repeat' (refine br_c (fun _ => ?_) (fun _ => ?_))
  all_goals first | refine h 0 ?_ | refine h 1 ?_ | refine h 2 ?_ | refine h 3 ?_
  all_goals simp only [Int32.lt_iff_toInt_lt, Int32.le_iff_toInt_le, ← Int32.toInt_inj, hT, Int32.reduceToInt, not_true_eq_false] at *
  all_goals (unfold cc_ep cc_od; repeat' split)
  all_goals omega

theorem cc_xsp {post : Int32 → Prop} {t : Nat} (ht : t < 2147483648) (h : ∀ k, cc_sp t = k → post (nI k)) : wpX_statementParts post (nI t) := by
  have hT := cc_tI ht
  repeat' (refine br_c (fun _ => ?_) (fun _ => ?_))
  all_goals first | refine h 0 ?_ | refine h 1 ?_ | refine h 2 ?_ | refine h 3 ?_
  all_goals simp only [Int32.lt_iff_toInt_lt, Int32.le_iff_toInt_le, ← Int32.toInt_inj, hT, Int32.reduceToInt, not_true_eq_false] at *
  all_goals (unfold cc_sp; repeat' split)
  all_goals omega
