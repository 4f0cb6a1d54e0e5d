theorem cc_ar0 {t : Nat} (h : cc_ar t = 0) : t = 2 ∨ t = 39 ∨ (100 ≤ t ∧ t ≤ 127) ∨ 142 < t := by
  unfold cc_ar at h
  repeat' (split at h)
  all_goals omega

theorem cc_ar0' {t : Nat} (h : t = 2 ∨ t = 39 ∨ (100 ≤ t ∧ t ≤ 127) ∨ 142 < t) : cc_ar t = 0 := by
  unfold cc_ar
  rw [if_pos h]

theorem cc_ex_r {t : Nat} (h : cc_ex t = true) : (100 ≤ t ∧ t ≤ 115) ∨ (120 ≤ t ∧ t ≤ 128) ∨ (130 ≤ t ∧ t ≤ 157) ∨ (210 ≤ t ∧ t ≤ 290) := by
  unfold cc_ex at h
  simpa only [decide_eq_true_eq] using h

theorem cc_st_r {t : Nat} (h : cc_st t = true) : (1 ≤ t ∧ t ≤ 2) ∨ (10 ≤ t ∧ t ≤ 25) ∨ (30 ≤ t ∧ t ≤ 37) ∨ (39 ≤ t ∧ t ≤ 56) ∨ (60 ≤ t ∧ t ≤ 68) := by
  unfold cc_st at h
  simpa only [decide_eq_true_eq] using h

theorem cc_leafs {t : Nat} (h : cc_ex t = true) (h0 : cc_ar t = 0) : (100 ≤ t ∧ t ≤ 115) ∨ (120 ≤ t ∧ t ≤ 123) ∨ (124 ≤ t ∧ t ≤ 127) ∨ (143 ≤ t ∧ t ≤ 145) ∨
    (146 ≤ t ∧ t ≤ 148) ∨ (149 ≤ t ∧ t ≤ 151) ∨ (152 ≤ t ∧ t ≤ 154) ∨ (155 ≤ t ∧ t ≤ 157) ∨ (210 ≤ t ∧ t ≤ 290) := by
  have a := cc_ex_r h
  have b := cc_ar0 h0
  omega

theorem cc_nodes {t : Nat} (h : cc_ex t = true) (h0 : cc_ar t ≠ 0) : t = 128 ∨ t = 130 ∨ t = 131 ∨ t = 132 ∨ t = 133 ∨ t = 134 ∨ t = 135 ∨ t = 136 ∨ t = 137 ∨ t = 138 ∨ t = 139 ∨ t = 140 ∨ t = 141 ∨ t = 142 := by
  have a := cc_ex_r h
  have b : ¬ (t = 2 ∨ t = 39 ∨ (100 ≤ t ∧ t ≤ 127) ∨ 142 < t) := fun z => h0 (cc_ar0' z)
  omega

theorem cc_od_ar {t : Nat} (h : cc_ex t = true) : cc_od t = cc_ar t := by
  have a := cc_ex_r h
  unfold cc_od cc_ar
  repeat' split
  all_goals omega

theorem cc_op1 {ce : Nat → Int32} {t : Nat} (h : t = 128 ∨ t = 139) (e f g f' g' : Int32) : cc_op ce t e f g = cc_op ce t e f' g' := by
  rcases h with rfl | rfl <;> simp [cc_op]

theorem cc_op2 {ce : Nat → Int32} {t : Nat} (h : t = 130 ∨ t = 131 ∨ t = 132 ∨ t = 133 ∨ t = 134 ∨ t = 135 ∨ t = 136 ∨ t = 137 ∨ t = 138 ∨ t = 140 ∨ t = 141) (e f g g' : Int32) : cc_op ce t e f g = cc_op ce t e f g' := by
  rcases h with rfl | rfl | rfl | rfl | rfl | rfl | rfl | rfl | rfl | rfl | rfl <;> simp [cc_op]

theorem cc_ar2 {t : Nat} (h : t = 130 ∨ t = 131 ∨ t = 132 ∨ t = 133 ∨ t = 134 ∨ t = 135 ∨ t = 136 ∨ t = 137 ∨ t = 138 ∨ t = 140 ∨ t = 141) : cc_ar t = 2 := by
  rcases h with rfl | rfl | rfl | rfl | rfl | rfl | rfl | rfl | rfl | rfl | rfl <;> rfl

theorem cc_sI {t : Nat} (k : Nat) (hk : k ≤ t) (ht : t < 2 ^ 31) : (nI t - nI k).toNatClampNeg = t - k := by
  rw [pk_sub hk, nI_clamp (by omega)]
theorem cc_sV {t : Nat} (k N : Nat) (hk : k ≤ t) (h : t - k < N) (hN : N < 2 ^ 31) : vp_in (nI t - nI k) N := by
  rw [pk_sub hk]; exact vp_in_nI h hN

theorem cc_leaf {post : Int32 → Prop} {a : Nat → Int32} {t : Nat} (k N : Nat) (hk : k ≤ t) (h : t - k < N) (hN : N < 2 ^ 30) (ht : t < 2 ^ 31) (hp : post (a (t - k))) :
    vp_in (nI t - nI k) N ∧ post (a (nI t - nI k).toNatClampNeg) := by
  refine ⟨cc_sV k N hk h (by omega), ?_⟩
  rw [cc_sI k hk ht]
  exact hp

section
variable {f_time f_active f_running f_pending f_roundsBegun : Int32} {a_variables a_row a_inputs a_outputs a_timerOn a_timerBegin a_timerElapsed a_timerDone a_counterLast a_counterValue a_counterDone a_edgeLast a_edgeDone a_tokens a_lengths a_ends a_worths a_pendingPlaces a_pendingRounds a_pendingLimits : Nat → Int32}
theorem cc_xwa {post : Int32 → Prop} {t : Nat} (hx : cc_ex t = true) (h0 : cc_ar t = 0)
    (h : post (cc_lf a_variables a_inputs a_outputs a_timerDone a_timerElapsed a_counterValue a_counterDone a_edgeDone t)) : wpX_worthAlone post (f_time, f_active, f_running, f_pending, f_roundsBegun, a_variables, a_row, a_inputs, a_outputs, a_timerOn, a_timerBegin, a_timerElapsed, a_timerDone, a_counterLast, a_counterValue, a_counterDone, a_edgeLast, a_edgeDone, a_tokens, a_lengths, a_ends, a_worths, a_pendingPlaces, a_pendingRounds, a_pendingLimits) (nI t) := by
  have hc := cc_leafs hx h0
  have hT := cc_tI (show t < 2147483648 by omega)
  unfold cc_lf at h
  rcases hc with ⟨h1, h2⟩ | ⟨h1, h2⟩ | ⟨h1, h2⟩ | ⟨h1, h2⟩ | ⟨h1, h2⟩ | ⟨h1, h2⟩ | ⟨h1, h2⟩ | ⟨h1, h2⟩ | ⟨h1, h2⟩
  all_goals repeat (first | refine br_t (by simp only [Int32.lt_iff_toInt_lt, Int32.le_iff_toInt_le, hT, Int32.reduceToInt]; omega) ?_ | refine br_f (by simp only [Int32.lt_iff_toInt_lt, Int32.le_iff_toInt_le, hT, Int32.reduceToInt]; omega) ?_)
  · rw [if_pos (by omega)] at h
    exact cc_leaf 100 16 (by omega) (by omega) (by omega) (by omega) h
  · rw [if_neg (by omega), if_pos (by omega)] at h
    exact cc_leaf 120 4 (by omega) (by omega) (by omega) (by omega) h
  · rw [if_neg (by omega), if_neg (by omega), if_pos (by omega)] at h
    exact cc_leaf 124 4 (by omega) (by omega) (by omega) (by omega) h
  · rw [if_neg (by omega), if_neg (by omega), if_neg (by omega), if_pos (by omega)] at h
    exact cc_leaf 143 3 (by omega) (by omega) (by omega) (by omega) h
  · rw [if_neg (by omega), if_neg (by omega), if_neg (by omega), if_neg (by omega), if_pos (by omega)] at h
    exact cc_leaf 146 3 (by omega) (by omega) (by omega) (by omega) h
  · rw [if_neg (by omega), if_neg (by omega), if_neg (by omega), if_neg (by omega), if_neg (by omega), if_pos (by omega)] at h
    exact cc_leaf 149 3 (by omega) (by omega) (by omega) (by omega) h
  · rw [if_neg (by omega), if_neg (by omega), if_neg (by omega), if_neg (by omega), if_neg (by omega), if_neg (by omega), if_pos (by omega)] at h
    exact cc_leaf 152 3 (by omega) (by omega) (by omega) (by omega) h
  · rw [if_neg (by omega), if_neg (by omega), if_neg (by omega), if_neg (by omega), if_neg (by omega), if_neg (by omega), if_neg (by omega), if_pos (by omega)] at h
    exact cc_leaf 155 3 (by omega) (by omega) (by omega) (by omega) h
  · rw [if_neg (by omega), if_neg (by omega), if_neg (by omega), if_neg (by omega), if_neg (by omega), if_neg (by omega), if_neg (by omega), if_neg (by omega)] at h
    exact h

theorem cc_and7 (x : Int32) : vp_in (x &&& 7) 8 := pk_andIn x 3 (by decide) (by omega)

theorem cc_xwp {post : Int32 → Prop} {t f s r : Nat} (hx : cc_ex t = true) (h0 : cc_ar t ≠ 0) (hf : f < 61) (hs : s < 61) (hr : r < 61) (e1 : a_ends f = nI s) (e2 : a_ends s = nI r)
    (h : post (cc_op a_row t (a_worths f) (a_worths s) (a_worths r))) : wpX_worthOfParts post (f_time, f_active, f_running, f_pending, f_roundsBegun, a_variables, a_row, a_inputs, a_outputs, a_timerOn, a_timerBegin, a_timerElapsed, a_timerDone, a_counterLast, a_counterValue, a_counterDone, a_edgeLast, a_edgeDone, a_tokens, a_lengths, a_ends, a_worths, a_pendingPlaces, a_pendingRounds, a_pendingLimits) (nI t) (nI f) := by
  have hc := cc_nodes hx h0
  refine ⟨vp_in_nI hf (by omega), ?_⟩
  refine nm_r (e' := nI s) (by rw [nI_clamp (by omega), e1]) ?_
  refine ⟨vp_in_nI hf (by omega), ?_⟩
  refine nm_r (e' := a_worths f) (by rw [nI_clamp (by omega)]) ?_
  refine ⟨vp_in_nI hs (by omega), ?_⟩
  refine nm_r (e' := a_worths s) (by rw [nI_clamp (by omega)]) ?_
  clear hx h0
  generalize hE : a_worths f = E at h ⊢
  generalize hG : a_worths s = G at h ⊢
  rcases hc with rfl | rfl | rfl | rfl | rfl | rfl | rfl | rfl | rfl | rfl | rfl | rfl | rfl | rfl
  all_goals repeat (first | refine br_t (by decide) ?_ | refine br_f (by decide) ?_)
  · exact ⟨cc_and7 _, h⟩
  · exact h
  · exact h
  · exact h
  · have h' : post (if G = 0 then 0 else E / G) := h
    exact br_c (fun z => by rw [if_pos z] at h'; exact h') (fun z => ⟨z, by rw [if_neg z] at h'; exact h'⟩)
  · have h' : post (if G = 0 then 0 else E - E / G * G) := h
    exact br_c (fun z => by rw [if_pos z] at h'; exact h') (fun z => ⟨z, by rw [if_neg z] at h'; exact h'⟩)
  · have h' : post (if E < G then 1 else 0) := h
    exact br_c (fun z => by rw [if_neg (Int32.not_lt.mpr z)] at h'; exact h') (fun z => by rw [if_pos (Int32.not_le.mp z)] at h'; exact h')
  · have h' : post (if E = G then 1 else 0) := h
    exact br_c (fun z => by rw [if_pos z] at h'; exact h') (fun z => by rw [if_neg z] at h'; exact h')
  · have h' : post (if E ≠ 0 ∧ G ≠ 0 then 1 else 0) := h
    exact br_c (fun z => by rw [if_neg (fun y => y.1 z)] at h'; exact h') (fun z => br_c (fun y => by rw [if_neg (fun x => x.2 y)] at h'; exact h') (fun y => by rw [if_pos ⟨z, y⟩] at h'; exact h'))
  · have h' : post (if E ≠ 0 ∨ G ≠ 0 then 1 else 0) := h
    exact br_c (fun z => br_c (fun y => by rw [if_neg (fun x => x.elim (fun w => w z) (fun w => w y))] at h'; exact h') (fun y => by rw [if_pos (Or.inr y)] at h'; exact h')) (fun z => by rw [if_pos (Or.inl z)] at h'; exact h')
  · have h' : post (if E = 0 then 1 else 0) := h
    exact br_c (fun z => by rw [if_pos z] at h'; exact h') (fun z => by rw [if_neg z] at h'; exact h')
  · have h' : post (if G < E then E else G) := h
    exact br_c (fun z => by rw [if_neg (Int32.not_lt.mpr z)] at h'; exact h') (fun z => by rw [if_pos (Int32.not_le.mp z)] at h'; exact h')
  · have h' : post (if E < G then E else G) := h
    exact br_c (fun z => by rw [if_neg (Int32.not_lt.mpr z)] at h'; exact h') (fun z => by rw [if_pos (Int32.not_le.mp z)] at h'; exact h')
  · have h' : post (if E ≠ 0 then G else a_worths r) := h
    refine br_c (fun z => ?_) (fun z => by rw [if_pos z] at h'; exact h')
    rw [if_neg (fun y => y z)] at h'
    refine ⟨vp_in_nI hs (by omega), ?_⟩
    rw [nI_clamp (by omega), e2]
    refine ⟨vp_in_nI hr (by omega), ?_⟩
    rw [nI_clamp (by omega)]
    exact h'

theorem cc_xvl {post : Int32 → SX → Prop} {T : Nat → Nat} {n a q : Nat} {val : Nat → Int32} (w : cc_wh T n) (ha : a < 2) (hq : q < n) (hx : cc_ex (T q) = true)
    (htok : ∀ i, i < n → a_tokens (a * 61 + i) = nI (T i)) (hb : cc_eb a_ends) (hends : ∀ i, i < n → a_ends i = nI (cc_en T i))
    (hval : val = cc_vl T n (cc_lf a_variables a_inputs a_outputs a_timerDone a_timerElapsed a_counterValue a_counterDone a_edgeDone) a_row)
    (h : ∀ w', post (val q) (f_time, nI a, f_running, f_pending, f_roundsBegun, a_variables, a_row, a_inputs, a_outputs, a_timerOn, a_timerBegin, a_timerElapsed, a_timerDone, a_counterLast, a_counterValue, a_counterDone, a_edgeLast, a_edgeDone, a_tokens, a_lengths, a_ends, w', a_pendingPlaces, a_pendingRounds, a_pendingLimits)) :
    ∀ d w', q + d ≤ cc_en T q → (∀ j, q + d ≤ j → j < cc_en T q → w' j = val j) →
      wX_value_9 post (nI q) f_time (nI a) f_running f_pending f_roundsBegun (d + 1) (nI (q + d) + (-1)) a_variables a_row a_inputs a_outputs a_timerOn a_timerBegin a_timerElapsed a_timerDone a_counterLast a_counterValue a_counterDone a_edgeLast a_edgeDone a_tokens a_lengths a_ends w' a_pendingPlaces a_pendingRounds a_pendingLimits := by
  have hn := w.2.2
  have hgt := cc_en_gt w hq
  have hle := cc_en_le w hq
  have hF := cc_en_F w hq
  have hEh := cc_en_h w hq
  have hall := cc_allEx w hq hx
  intro d
  induction d with
  | zero =>
    intro w' hd hw
    refine br_t (cc_pm (by omega)) ?_
    refine ⟨vp_in_nI (by omega) (by omega), ?_⟩
    rw [nI_clamp (by omega), hw q (by omega) hgt]
    exact h w'
  | succ d ih =>
    intro w' hd hw
    rw [show q + (d + 1) = (q + d) + 1 from rfl, pk_m1]
    refine br_f (cc_nlt (q + d) q (by omega)) ?_
    have hex := hall (q + d) (by omega) (by omega)
    have ht := cc_va_lt (Or.inr hex)
    refine cc_xat (T := T) (n := n) ha hn (by omega) htok ?_
    refine cc_xod (by omega) (fun k hk => ?_)
    rw [cc_od_ar hex] at hk
    refine pk_eq k 0 (fun z => ?_) (fun z => ?_) rfl rfl (by have := cc_ar_le (T (q + d)); omega) (by omega)
    · refine cc_xwa hex (by omega) ?_
      refine ⟨vp_in_nI (by omega) (by omega), ?_⟩
      refine nm_e ?_
      refine nm_e ?_
      rw [nI_clamp (by omega)]
      refine ih _ (by omega) (fun j h1 h2 => ?_)
      by_cases y : j = q + d
      · rw [y, cc_u_s, hval, cc_vl_0 (by omega) (by omega)]
      · rw [cc_u_n y]; exact hw j (by omega) h2
    · have hh := hF.2.2 (q + d) (by omega) (by omega)
      have hs := cc_hs (cc_hpos w.1 (show q + d < n by omega))
      have h1E : q + d + 1 < cc_en T q := by
        by_cases y : q + d + 1 = cc_en T q
        · rw [← y] at hEh; omega
        · omega
      have g2 := cc_en_le w (show q + d + 1 < n by omega)
      rw [nI_1]
      obtain ⟨r, hr1, hr2⟩ := hb (cc_en T (q + d + 1)) (by omega)
      have e1 := hends (q + d + 1) (by omega)
      refine cc_xwp (f := q + d + 1) (s := cc_en T (q + d + 1)) (r := r) hex (by omega) (by omega) (by omega) (by omega) e1 hr2 ?_
      refine ⟨vp_in_nI (by omega) (by omega), ?_⟩
      refine nm_e ?_
      refine nm_e ?_
      rw [nI_clamp (by omega)]
      refine ih _ (by omega) (fun j h1 h2 => ?_)
      by_cases y : j = q + d
      · have hv : val (q + d) = cc_op a_row (T (q + d)) (val (q + d + 1)) (val (cc_en T (q + d + 1))) (val (cc_en T (cc_en T (q + d + 1)))) := by
          rw [hval, cc_vl_s (by omega) (by omega)]
        rw [y, cc_u_s, hv]
        clear hv
        have ew1 := hw (q + d + 1) (by omega) h1E
        rw [ew1]
        have b2 : 2 ≤ cc_ar (T (q + d)) → w' (cc_en T (q + d + 1)) = val (cc_en T (q + d + 1)) := by
          intro h2a
          have F2 := cc_en_F w (show q + d + 1 < n by omega)
          have l2 := cc_F_lt F2 (e := cc_en T q) (by omega) (by omega)
          exact hw _ (by have := cc_en_ge T (q + d + 1); omega) l2
        have b3 : 3 ≤ cc_ar (T (q + d)) → w' r = val (cc_en T (cc_en T (q + d + 1))) := by
          intro h3a
          have F2 := cc_en_F w (show q + d + 1 < n by omega)
          have l2 := cc_F_lt F2 (e := cc_en T q) (by omega) (by omega)
          have F3 := cc_en_F w (show cc_en T (q + d + 1) < n by omega)
          have hh2 := cc_en_h w (show q + d + 1 < n by omega)
          have l3 := cc_F_lt F3 (e := cc_en T q) (by omega) (by omega)
          have er := hends (cc_en T (q + d + 1)) (by omega)
          rw [hr2, nI_eq (by omega) (by have := cc_en_le w (show cc_en T (q + d + 1) < n by omega); omega)] at er
          rw [er]
          exact hw _ (by have := cc_en_ge T (q + d + 1); have := cc_en_ge T (cc_en T (q + d + 1)); omega) l3
        have hnd := cc_nodes hex (by omega)
        by_cases c1 : T (q + d) = 128 ∨ T (q + d) = 139
        · exact cc_op1 c1 _ _ _ _ _
        · by_cases c2 : T (q + d) = 142
          · have a3 : cc_ar (T (q + d)) = 3 := by rw [c2]; rfl
            rw [b2 (by omega), b3 (by omega)]
          · have hc2 : T (q + d) = 130 ∨ T (q + d) = 131 ∨ T (q + d) = 132 ∨ T (q + d) = 133 ∨ T (q + d) = 134 ∨ T (q + d) = 135 ∨ T (q + d) = 136 ∨ T (q + d) = 137 ∨ T (q + d) = 138 ∨ T (q + d) = 140 ∨ T (q + d) = 141 := by omega
            have ha2 := cc_ar2 hc2
            rw [b2 (by omega)]
            exact cc_op2 hc2 _ _ _ _
      · rw [cc_u_n y]; exact hw j (by omega) h2

theorem cc_xv {post : Int32 → SX → Prop} {T : Nat → Nat} {n a q : Nat} (w : cc_wh T n) (ha : a < 2) (hq : q < n) (hx : cc_ex (T q) = true)
    (htok : ∀ i, i < n → a_tokens (a * 61 + i) = nI (T i)) (hb : cc_eb a_ends) (hends : ∀ i, i < n → a_ends i = nI (cc_en T i))
    (h : ∀ w', post (cc_vl T n (cc_lf a_variables a_inputs a_outputs a_timerDone a_timerElapsed a_counterValue a_counterDone a_edgeDone) a_row q) (f_time, nI a, f_running, f_pending, f_roundsBegun, a_variables, a_row, a_inputs, a_outputs, a_timerOn, a_timerBegin, a_timerElapsed, a_timerDone, a_counterLast, a_counterValue, a_counterDone, a_edgeLast, a_edgeDone, a_tokens, a_lengths, a_ends, w', a_pendingPlaces, a_pendingRounds, a_pendingLimits)) :
    wpX_value post (f_time, nI a, f_running, f_pending, f_roundsBegun, a_variables, a_row, a_inputs, a_outputs, a_timerOn, a_timerBegin, a_timerElapsed, a_timerDone, a_counterLast, a_counterValue, a_counterDone, a_edgeLast, a_edgeDone, a_tokens, a_lengths, a_ends, a_worths, a_pendingPlaces, a_pendingRounds, a_pendingLimits) (nI q) := by
  have hn := w.2.2
  have hgt := cc_en_gt w hq
  have hle := cc_en_le w hq
  refine ⟨vp_in_nI (by omega) (by omega), ?_⟩
  refine nm_r (e' := nI (q + (cc_en T q - q)) + (-1)) (by rw [nI_clamp (by omega), hends q hq, cc_sm1, show q + (cc_en T q - q) = cc_en T q by omega]) ?_
  exact ⟨cc_en T q - q + 1, cc_xvl w ha hq hx htok hb hends rfl h (cc_en T q - q) a_worths (by omega) (fun j h1 h2 => by omega)⟩
end
