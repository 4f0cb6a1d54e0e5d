theorem cc_dm1 (e : Int32) : e / (-1) = 0 - e := by
  apply Int32.toInt_inj.mp
  rw [Int32.toInt_div, Int32.toInt_sub, show (-1 : Int32).toInt = -1 from by decide, show (0 : Int32).toInt = 0 from by decide, Int.tdiv_neg, Int.tdiv_one, Int.zero_sub]

theorem cc_rm1 (e : Int32) : e - e / (-1) * (-1) = 0 := by
  rw [cc_dm1]
  have : (0 - e) * (-1) = e := by
    rw [Int32.mul_neg, Int32.mul_one, Int32.neg_sub, Int32.sub_zero]
  rw [this, Int32.sub_self]

theorem cc_h_dn {T : Nat → Nat} {n : Nat} (ho : cc_ok T n) : ∀ m i, i + m ≤ n → cc_h T i ≤ cc_h T (i + m) + m := by
  intro m
  induction m with
  | zero => intro i _; simp
  | succ m ih =>
    intro i hi
    have a := ih i (by omega)
    have b := cc_hs (cc_hpos ho (show i + m < n by omega))
    rw [show i + (m + 1) = i + m + 1 from rfl]
    omega

section
variable {f_time f_active f_running f_open f_depth f_tasks f_begun : Int32} {a_variables a_cells a_inputs a_outputs a_timerOn a_timerBegin a_timerElapsed a_timerDone a_counterLast a_counterValue a_counterDone a_edgeLast a_edgeDone a_sizes a_tokens a_ends a_wants a_numbers a_taskKind a_taskAt a_taskRounds a_taskLimit : Nat → Int32}
theorem cc_ypl {post : Int32 → Prop} {t : Nat} (hx : cc_ex t = true) (h0 : cc_ar t = 0)
    (h : post (cc_lf a_variables a_inputs a_outputs a_timerDone a_timerElapsed a_counterValue a_counterDone a_edgeDone t)) : wpY_plain post (f_time, f_active, f_running, f_open, f_depth, f_tasks, f_begun, a_variables, a_cells, a_inputs, a_outputs, a_timerOn, a_timerBegin, a_timerElapsed, a_timerDone, a_counterLast, a_counterValue, a_counterDone, a_edgeLast, a_edgeDone, a_sizes, a_tokens, a_ends, a_wants, a_numbers, a_taskKind, a_taskAt, a_taskRounds, a_taskLimit) (nI t) := by
  have hc := cc_leafs hx h0
  have hT := cc_tI (show t < 2147483648 by omega)
  unfold cc_lf at h
  rcases hc with ⟨h1, h2⟩ | ⟨h1, h2⟩ | ⟨h1, h2⟩ | ⟨h1, h2⟩ | ⟨h1, h2⟩ | ⟨h1, h2⟩ | ⟨h1, h2⟩ | ⟨h1, h2⟩ | ⟨h1, h2⟩
  all_goals repeat (first | refine br_t (by simp only [Int32.lt_iff_toInt_lt, Int32.le_iff_toInt_le, hT, Int32.reduceToInt]; omega) ?_ | refine br_f (by simp only [Int32.lt_iff_toInt_lt, Int32.le_iff_toInt_le, hT, Int32.reduceToInt]; omega) ?_)
  · rw [if_pos (by omega)] at h
    exact cc_leaf 100 16 (by omega) (by omega) (by omega) (by omega) h
  · rw [if_neg (by omega), if_pos (by omega)] at h
    exact cc_leaf 120 4 (by omega) (by omega) (by omega) (by omega) h
  · rw [if_neg (by omega), if_neg (by omega), if_pos (by omega)] at h
    exact cc_leaf 124 4 (by omega) (by omega) (by omega) (by omega) h
  · rw [if_neg (by omega), if_neg (by omega), if_neg (by omega), if_pos (by omega)] at h
    exact cc_leaf 143 3 (by omega) (by omega) (by omega) (by omega) h
  · rw [if_neg (by omega), if_neg (by omega), if_neg (by omega), if_neg (by omega), if_pos (by omega)] at h
    exact cc_leaf 146 3 (by omega) (by omega) (by omega) (by omega) h
  · rw [if_neg (by omega), if_neg (by omega), if_neg (by omega), if_neg (by omega), if_neg (by omega), if_pos (by omega)] at h
    exact cc_leaf 149 3 (by omega) (by omega) (by omega) (by omega) h
  · rw [if_neg (by omega), if_neg (by omega), if_neg (by omega), if_neg (by omega), if_neg (by omega), if_neg (by omega), if_pos (by omega)] at h
    exact cc_leaf 152 3 (by omega) (by omega) (by omega) (by omega) h
  · rw [if_neg (by omega), if_neg (by omega), if_neg (by omega), if_neg (by omega), if_neg (by omega), if_neg (by omega), if_neg (by omega), if_pos (by omega)] at h
    exact cc_leaf 155 3 (by omega) (by omega) (by omega) (by omega) h
  · rw [if_neg (by omega), if_neg (by omega), if_neg (by omega), if_neg (by omega), if_neg (by omega), if_neg (by omega), if_neg (by omega), if_neg (by omega)] at h
    exact h

theorem cc_yjo {post : Int32 → Prop} {t : Nat} {ce : Nat → Int32} {E G H : Int32}
    (hc : t = 130 ∨ t = 131 ∨ t = 132 ∨ t = 133 ∨ t = 134 ∨ t = 135 ∨ t = 136 ∨ t = 137 ∨ t = 138 ∨ t = 140 ∨ t = 141)
    (h : post (cc_op ce t E G H)) : wpY_joined post (f_time, f_active, f_running, f_open, f_depth, f_tasks, f_begun, a_variables, a_cells, a_inputs, a_outputs, a_timerOn, a_timerBegin, a_timerElapsed, a_timerDone, a_counterLast, a_counterValue, a_counterDone, a_edgeLast, a_edgeDone, a_sizes, a_tokens, a_ends, a_wants, a_numbers, a_taskKind, a_taskAt, a_taskRounds, a_taskLimit) (nI t) E G := by
  have d1 : (1 : Int32) = 1 := rfl
  have d0 : (0 : Int32) = 0 := rfl
  have n10 : ¬ (1 : Int32) = 0 := by decide
  have n01 : ¬ (0 : Int32) = 1 := by decide
  rcases hc with rfl | rfl | rfl | rfl | rfl | rfl | rfl | rfl | rfl | rfl | rfl
  all_goals repeat (first | refine br_t (by decide) ?_ | refine br_f (by decide) ?_)
  · exact h
  · exact h
  · exact h
  · have h' : post (if G = 0 then 0 else E / G) := h
    refine br_c (fun z => by rw [if_pos z] at h'; exact h') (fun z => ?_)
    rw [if_neg z] at h'
    refine br_c (fun y => br_t d0 ?_) (fun y => br_t d0 ⟨z, h'⟩)
    rw [y, cc_dm1] at h'
    exact h'
  · have h' : post (if G = 0 then 0 else E - E / G * G) := h
    refine br_c (fun z => by rw [if_pos z] at h'; exact h') (fun z => ?_)
    rw [if_neg z] at h'
    refine br_c (fun y => br_f n10 ?_) (fun y => br_f n10 ⟨z, h'⟩)
    rw [y, cc_rm1] at h'
    exact h'
  · have h' : post (if E < G then 1 else 0) := h
    exact br_c (fun z => br_t d0 (by rw [if_neg (Int32.not_lt.mpr z)] at h'; exact h')) (fun z => br_f n10 (by rw [if_pos (Int32.not_le.mp z)] at h'; exact h'))
  · have h' : post (if E = G then 1 else 0) := h
    exact br_c (fun z => br_f n10 (by rw [if_pos z] at h'; exact h')) (fun z => br_t d0 (by rw [if_neg z] at h'; exact h'))
  · have h' : post (if E ≠ 0 ∧ G ≠ 0 then 1 else 0) := h
    exact br_c (fun z => br_t d0 (by rw [if_neg (fun y => y.1 z)] at h'; exact h')) (fun z => br_c (fun y => br_t d0 (by rw [if_neg (fun x => x.2 y)] at h'; exact h')) (fun y => br_f n10 (by rw [if_pos ⟨z, y⟩] at h'; exact h')))
  · have h' : post (if E ≠ 0 ∨ G ≠ 0 then 1 else 0) := h
    exact br_c (fun z => br_c (fun y => br_t d0 (by rw [if_neg (fun x => x.elim (fun w => w z) (fun w => w y))] at h'; exact h')) (fun y => br_f n10 (by rw [if_pos (Or.inr y)] at h'; exact h'))) (fun z => br_f n10 (by rw [if_pos (Or.inl z)] at h'; exact h'))
  · have h' : post (if G < E then E else G) := h
    exact br_c (fun z => br_f n10 (by rw [if_neg (Int32.not_lt.mpr z)] at h'; exact h')) (fun z => br_t d1 (by rw [if_pos (Int32.not_le.mp z)] at h'; exact h'))
  · have h' : post (if E < G then E else G) := h
    refine br_c (fun z => br_t d0 ?_) (fun z => br_f n01 (by rw [if_neg (fun y => z (Int32.le_of_lt y))] at h'; exact h'))
    by_cases y : E < G
    · rw [if_pos y] at h'; exact h'
    · rw [if_neg y] at h'
      have e : E = G := Int32.le_antisymm z (Int32.not_lt.mp y)
      rw [e]; exact h'

theorem cc_ypop {post : Int32 → SY → Prop} {c : Nat} (hc : c < 64) (h : post (a_numbers c) (f_time, f_active, f_running, f_open, nI c, f_tasks, f_begun, a_variables, a_cells, a_inputs, a_outputs, a_timerOn, a_timerBegin, a_timerElapsed, a_timerDone, a_counterLast, a_counterValue, a_counterDone, a_edgeLast, a_edgeDone, a_sizes, a_tokens, a_ends, a_wants, a_numbers, a_taskKind, a_taskAt, a_taskRounds, a_taskLimit)) : wpY_pop post (f_time, f_active, f_running, f_open, nI (c + 1), f_tasks, f_begun, a_variables, a_cells, a_inputs, a_outputs, a_timerOn, a_timerBegin, a_timerElapsed, a_timerDone, a_counterLast, a_counterValue, a_counterDone, a_edgeLast, a_edgeDone, a_sizes, a_tokens, a_ends, a_wants, a_numbers, a_taskKind, a_taskAt, a_taskRounds, a_taskLimit) := by
  refine nm_r (e' := nI c) (nI_pred c) ?_
  refine ⟨vp_in_nI hc (by omega), ?_⟩
  rw [nI_clamp (by omega)]
  exact h

theorem cc_yw3 {post : Int32 → SY → Prop} {J : Int32 → Int32 → Int32 → Int32 → Int32 → Int32 → Int32 → Int32 → (Nat → Int32) → (Nat → Int32) → (Nat → Int32) → (Nat → Int32) → (Nat → Int32) → (Nat → Int32) → (Nat → Int32) → (Nat → Int32) → (Nat → Int32) → (Nat → Int32) → (Nat → Int32) → (Nat → Int32) → (Nat → Int32) → (Nat → Int32) → (Nat → Int32) → (Nat → Int32) → (Nat → Int32) → (Nat → Int32) → (Nat → Int32) → (Nat → Int32) → (Nat → Int32) → (Nat → Int32) → Prop} {x1 x2 v : Int32} {c : Nat} (hc : c < 64)
    (h : J (x2 + (-1)) f_time f_active f_running f_open (nI (c + 1)) f_tasks f_begun a_variables a_cells a_inputs a_outputs a_timerOn a_timerBegin a_timerElapsed a_timerDone a_counterLast a_counterValue a_counterDone a_edgeLast a_edgeDone a_sizes a_tokens a_ends a_wants (upd a_numbers c v) a_taskKind a_taskAt a_taskRounds a_taskLimit) : wY_work_143 post J x1 x2 v f_time f_active f_running f_open (nI c) f_tasks f_begun a_variables a_cells a_inputs a_outputs a_timerOn a_timerBegin a_timerElapsed a_timerDone a_counterLast a_counterValue a_counterDone a_edgeLast a_edgeDone a_sizes a_tokens a_ends a_wants a_numbers a_taskKind a_taskAt a_taskRounds a_taskLimit := by
  refine ⟨vp_in_nI hc (by omega), ?_⟩
  refine nm_r (e' := upd a_numbers c v) (by rw [nI_clamp (by omega)]) ?_
  refine nm_r (e' := nI (c + 1)) (nI_1 c) ?_
  exact nm_e h

theorem cc_ywl {post : Int32 → SY → Prop} {T : Nat → Nat} {n a q : Nat} {val : Nat → Int32} (w : cc_wh T n) (ha : a < 2) (hq : q < n) (hx : cc_ex (T q) = true)
    (htok : ∀ i, i < n → a_tokens (60 * a + i) = nI (T i))
    (hval : val = cc_vl T n (cc_lf a_variables a_inputs a_outputs a_timerDone a_timerElapsed a_counterValue a_counterDone a_edgeDone) a_cells)
    (h : ∀ w', post (val q) (f_time, f_active, f_running, f_open, 0, f_tasks, f_begun, a_variables, a_cells, a_inputs, a_outputs, a_timerOn, a_timerBegin, a_timerElapsed, a_timerDone, a_counterLast, a_counterValue, a_counterDone, a_edgeLast, a_edgeDone, a_sizes, a_tokens, a_ends, a_wants, w', a_taskKind, a_taskAt, a_taskRounds, a_taskLimit)) :
    ∀ d num c, q + d ≤ cc_en T q → c + cc_h T (cc_en T q) = cc_h T (q + d) → cc_ns T val num c (q + d) →
      wY_work_9 post (nI (60 * a + q)) (d + 1) (nI (60 * a + (q + d)) + (-1)) f_time f_active f_running f_open (nI c) f_tasks f_begun a_variables a_cells a_inputs a_outputs a_timerOn a_timerBegin a_timerElapsed a_timerDone a_counterLast a_counterValue a_counterDone a_edgeLast a_edgeDone a_sizes a_tokens a_ends a_wants num a_taskKind a_taskAt a_taskRounds a_taskLimit := by
  have hn := w.2.2
  have hgt := cc_en_gt w hq
  have hle := cc_en_le w hq
  have hF := cc_en_F w hq
  have hEh := cc_en_h w hq
  have hall := cc_allEx w hq hx
  intro d
  induction d with
  | zero =>
    intro num c hd hc hns
    have c1 : c = 0 + 1 := by rw [Nat.add_zero] at hc; omega
    subst c1
    refine br_t (cc_pm (by omega)) ?_
    refine cc_ypop (by omega) ?_
    rw [hns.1]
    exact h num
  | succ d ih =>
    intro num c hd hc hns
    rw [show 60 * a + (q + (d + 1)) = (60 * a + (q + d)) + 1 from rfl, pk_m1]
    have hh := hF.2.2 (q + d) (by omega) (by omega)
    have hs := cc_hs (cc_hpos w.1 (show q + d < n by omega))
    have hdn := cc_h_dn w.1 (cc_en T q - (q + (d + 1))) (q + (d + 1)) (by omega)
    rw [show q + (d + 1) + (cc_en T q - (q + (d + 1))) = cc_en T q by omega] at hdn
    have hex := hall (q + d) (by omega) (by omega)
    have ht := cc_va_lt (Or.inr hex)
    have hen := cc_nx_en w (show q + d < n by omega)
    have hq1 : q + (d + 1) = q + d + 1 := rfl
    rw [hq1] at hc hns hdn
    obtain ⟨m, hm⟩ : ∃ m, cc_h T (q + d) = m + 1 + cc_h T (cc_en T q) := ⟨cc_h T (q + d) - 1 - cc_h T (cc_en T q), by omega⟩
    have hcm : c = m + cc_ar (T (q + d)) := by omega
    have fin : ∀ num' v, v = val (q + d) → cc_ns T val num' m (cc_en T (q + d)) → wY_work_143 post (wY_work_9 post (nI (60 * a + q)) (d + 1)) (nI (60 * a + q)) (nI (60 * a + (q + d))) v f_time f_active f_running f_open (nI m) f_tasks f_begun a_variables a_cells a_inputs a_outputs a_timerOn a_timerBegin a_timerElapsed a_timerDone a_counterLast a_counterValue a_counterDone a_edgeLast a_edgeDone a_sizes a_tokens a_ends a_wants num' a_taskKind a_taskAt a_taskRounds a_taskLimit := by
      intro num' v hv hns'
      refine cc_yw3 (by omega) ?_
      refine ih _ (m + 1) (by omega) (by omega) ⟨?_, cc_ns_upd (Nat.le_refl _) hns'⟩
      rw [cc_u_s]; exact hv
    refine br_f (cc_nlt (60 * a + (q + d)) (60 * a + q) (by omega)) ?_
    refine ⟨vp_in_nI (by omega) (by omega), ?_⟩
    refine nm_r (e' := nI (T (q + d))) (by rw [nI_clamp (by omega)]; exact htok (q + d) (by omega)) ?_
    refine cc_yar (by omega) (fun k hk => ?_)
    refine pk_eq k 0 (fun z => ?_) (fun z => ?_) rfl rfl (by have := cc_ar_le (T (q + d)); omega) (by omega)
    · refine cc_ypl hex (by omega) ?_
      have h0 : cc_ar (T (q + d)) = 0 := by omega
      rw [h0] at hcm hen
      subst hcm
      refine fin num _ ?_ ?_
      · rw [hval, cc_vl_0 (by omega) h0]
      · rw [← hen]; exact hns
    · have hv : val (q + d) = cc_op a_cells (T (q + d)) (val (q + d + 1)) (val (cc_en T (q + d + 1))) (val (cc_en T (cc_en T (q + d + 1)))) := by
        rw [hval, cc_vl_s (by omega) (by omega)]
      have hnodes := cc_nodes hex (by omega)
      by_cases e128 : T (q + d) = 128
      · rw [e128] at hcm hen hv ⊢
        rw [show cc_ar 128 = 1 from rfl] at hcm hen
        subst hcm
        refine cc_ypop (by omega) ?_
        refine br_t (by decide) ?_
        refine ⟨cc_and7 _, ?_⟩
        refine nm_e ?_
        refine fin num _ ?_ ?_
        · rw [hv, hns.1]; rfl
        · rw [← hen]; exact hns.2
      · by_cases e139 : T (q + d) = 139
        · rw [e139] at hcm hen hv ⊢
          rw [show cc_ar 139 = 1 from rfl] at hcm hen
          subst hcm
          refine cc_ypop (by omega) ?_
          refine br_f (by decide) (br_t (by decide) ?_)
          have hv' : val (q + d) = if num m = 0 then 1 else 0 := by rw [hv, hns.1]; rfl
          refine br_c (fun y => ?_) (fun y => ?_)
          · refine br_f (by decide) ?_
            refine fin num _ ?_ (by rw [← hen]; exact hns.2)
            rw [hv', if_pos y]
          · refine br_t (by decide) ?_
            refine fin num _ ?_ (by rw [← hen]; exact hns.2)
            rw [hv', if_neg y]
        · by_cases e142 : T (q + d) = 142
          · rw [e142] at hcm hen hv ⊢
            rw [show cc_ar 142 = 3 from rfl] at hcm hen
            subst hcm
            refine cc_ypop (by omega) ?_
            refine br_f (by decide) (br_f (by decide) ?_)
            refine cc_ypop (by omega) ?_
            refine br_t (by decide) ?_
            refine cc_ypop (by omega) ?_
            have hv' : val (q + d) = if num (m + 2) ≠ 0 then num (m + 1) else num m := by
              rw [hv, hns.1, hns.2.1, hns.2.2.1]; rfl
            refine br_c (fun y => ?_) (fun y => ?_)
            · refine fin num _ ?_ (by rw [← hen]; exact hns.2.2.2)
              rw [hv', if_neg (fun x => x y)]
            · refine fin num _ ?_ (by rw [← hen]; exact hns.2.2.2)
              rw [hv', if_pos y]
          · have hc2 : T (q + d) = 130 ∨ T (q + d) = 131 ∨ T (q + d) = 132 ∨ T (q + d) = 133 ∨ T (q + d) = 134 ∨ T (q + d) = 135 ∨ T (q + d) = 136 ∨ T (q + d) = 137 ∨ T (q + d) = 138 ∨ T (q + d) = 140 ∨ T (q + d) = 141 := by omega
            have ha2 : cc_ar (T (q + d)) = 2 := by
              rcases hc2 with y | y | y | y | y | y | y | y | y | y | y <;> rw [y] <;> rfl
            rw [ha2] at hcm hen
            subst hcm
            refine cc_ypop (by omega) ?_
            refine br_f (cc_ne (T (q + d)) 128 e128) (br_f (cc_ne (T (q + d)) 139 e139) ?_)
            refine cc_ypop (by omega) ?_
            refine br_f (cc_ne (T (q + d)) 142 e142) ?_
            refine cc_yjo (ce := a_cells) (H := val (cc_en T (cc_en T (q + d + 1)))) hc2 ?_
            refine fin num _ ?_ (by rw [← hen]; exact hns.2.2)
            rw [hv, hns.1, hns.2.1]

theorem cc_yw {post : Int32 → SY → Prop} {T : Nat → Nat} {n a q : Nat} (w : cc_wh T n) (ha : a < 2) (hq : q < n) (hx : cc_ex (T q) = true)
    (htok : ∀ i, i < n → a_tokens (60 * a + i) = nI (T i)) (hends : ∀ i, i < n → a_ends (60 * a + i) = nI (60 * a + cc_en T i))
    (h : ∀ w', post (cc_vl T n (cc_lf a_variables a_inputs a_outputs a_timerDone a_timerElapsed a_counterValue a_counterDone a_edgeDone) a_cells q) (f_time, f_active, f_running, f_open, 0, f_tasks, f_begun, a_variables, a_cells, a_inputs, a_outputs, a_timerOn, a_timerBegin, a_timerElapsed, a_timerDone, a_counterLast, a_counterValue, a_counterDone, a_edgeLast, a_edgeDone, a_sizes, a_tokens, a_ends, a_wants, w', a_taskKind, a_taskAt, a_taskRounds, a_taskLimit)) :
    wpY_work post (f_time, f_active, f_running, f_open, 0, f_tasks, f_begun, a_variables, a_cells, a_inputs, a_outputs, a_timerOn, a_timerBegin, a_timerElapsed, a_timerDone, a_counterLast, a_counterValue, a_counterDone, a_edgeLast, a_edgeDone, a_sizes, a_tokens, a_ends, a_wants, a_numbers, a_taskKind, a_taskAt, a_taskRounds, a_taskLimit) (nI (60 * a + q)) := by
  have hn := w.2.2
  have hgt := cc_en_gt w hq
  have hle := cc_en_le w hq
  refine ⟨vp_in_nI (by omega) (by omega), ?_⟩
  refine nm_r (e' := nI (60 * a + (q + (cc_en T q - q))) + (-1)) (by rw [nI_clamp (by omega), hends q hq, cc_sm1, show q + (cc_en T q - q) = cc_en T q by omega]) ?_
  have e : q + (cc_en T q - q) = cc_en T q := by omega
  exact ⟨cc_en T q - q + 1, cc_ywl w ha hq hx htok rfl h (cc_en T q - q) a_numbers 0 (by omega) (by rw [e]; omega) trivial⟩
end
