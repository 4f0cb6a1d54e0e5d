theorem cc_n1_tail {L : List (Nat × Nat × Int32)} (h : cc_n1 L) : cc_n1 L.tail := by
  cases L with
  | nil => exact h
  | cons e L => exact fun x hx => h x (List.mem_cons_of_mem _ hx)

theorem cc_so_code {T : Nat → Nat} {n : Nat} {L : List (Nat × Nat × Int32)} {lo hi : Nat} (h : cc_so T n L lo hi) : ∀ e, e ∈ L → e.2.1 ≤ 21 := by
  induction L generalizing lo hi with
  | nil => intro e he; cases he
  | cons x L ih =>
    obtain ⟨lo', hi', h1, h2, h3, h4, h5, h6, h7⟩ := h
    intro e he
    rcases List.mem_cons.mp he with z | z
    · rw [z]; exact h6
    · exact ih h1 e z

theorem cc_so_seq {T : Nat → Nat} {n q : Nat} {L : List (Nat × Nat × Int32)} {lo hi : Nat} (w : cc_wh T n) (h : cc_so T n L lo hi) (hlo : lo ≤ q) (hq : q < n) (hhi : cc_en T q ≤ hi) (ht : T q = 1) :
    cc_so T n ((cc_nx T 0 (q + 1), 0, 0) :: (cc_nx T 1 (q + 1), 0, 0) :: L) lo (cc_nx T 0 (q + 1)) := by
  have a2 : cc_ar (T q) = 2 := by rw [ht]; rfl
  have s1 := cc_so_w (k := 1) w h hlo hq hhi (by omega) (by rw [ht]; rfl) 0
  obtain ⟨c1, c2, c3, c4⟩ := cc_ch (k := 0) w hq (by omega)
  exact ⟨lo, _, s1, by show lo ≤ cc_nx T 0 (q + 1); omega, c2, Nat.le_refl _, (cc_part (k := 0) w hq (by omega)).trans (by rw [ht]; rfl), by show (0 : Nat) ≤ 21; omega, Or.inl ⟨rfl, rfl, rfl⟩⟩

theorem cc_bdk {T : Nat → Nat} {q : Nat} (hl : cc_lp (T q)) : ∃ k, k < cc_ar (T q) ∧ cc_bd T q = cc_nx T k (q + 1) ∧ cc_ts (T q) k = true := by
  unfold cc_bd
  by_cases h37 : T q = 37
  · exact ⟨0, by rw [h37]; decide, if_pos h37, by rw [h37]; rfl⟩
  · by_cases h36 : T q = 36
    · exact ⟨1, by rw [h36]; decide, by rw [if_neg h37, if_pos h36]; rfl, by rw [h36]; rfl⟩
    · have h40 : 40 ≤ T q ∧ T q ≤ 55 := by unfold cc_lp at hl; omega
      refine ⟨2, by rw [cc_lp3 h40.1 h40.2]; decide, by rw [if_neg h37, if_neg h36]; rfl, ?_⟩
      unfold cc_ts
      rw [if_neg (by omega), if_neg (by omega), if_neg (by omega)]
      exact decide_eq_true ⟨h40.1, h40.2, rfl⟩

theorem cc_so_b {T : Nat → Nat} {n q c : Nat} {lim : Int32} {L : List (Nat × Nat × Int32)} {lo hi : Nat} (w : cc_wh T n) (h : cc_so T n L lo hi) (hlo : lo ≤ q) (hq : q < n) (hhi : cc_en T q ≤ hi) (hst : cc_st (T q) = true) (hl : cc_lp (T q)) (hc : c ≠ 0) (hc' : c ≤ 21) :
    ∃ lo' hi', cc_so T n ((cc_bd T q, 0, 0) :: (q, c, lim) :: L) lo' hi' := by
  obtain ⟨k, hk, hb, hs⟩ := cc_bdk hl
  obtain ⟨c1, c2, c3, c4⟩ := cc_ch w hq hk
  rw [hb]
  exact ⟨_, _, _, _, cc_so_l h hlo hq hhi hst hl hc hc' lim, by show q + 1 ≤ cc_nx T k (q + 1); omega, c2, c3, (cc_part w hq hk).trans hs, by show (0 : Nat) ≤ 21; omega, Or.inl ⟨rfl, rfl, rfl⟩⟩

theorem cc_wt_b {T : Nat → Nat} {n q : Nat} (w : cc_wh T n) (hq : q < n) (hl : cc_lp (T q)) : 2 * (cc_en T (cc_bd T q) - cc_bd T q) ≤ 120 := by
  obtain ⟨k, hk, hb, hs⟩ := cc_bdk hl
  have l := cc_nx_lt w hq hk
  rw [← hb] at l
  have := cc_en_le w l
  have := w.2.2
  omega

section
variable {T : Nat → Nat} {n a : Nat} {f_time f_running f_open : Int32} {a_inputs a_tokens a_lengths a_ends b_sizes b_tokens b_ends b_wants : Nat → Int32}

theorem cc_m_set {a_variables a_row a_outputs a_timerOn a_timerBegin a_timerElapsed a_timerDone a_counterLast a_counterValue a_counterDone a_edgeLast a_edgeDone : Nat → Int32} {ν q R : Nat} {l : Int32} {L : List (Nat × Nat × Int32)} {lo hi : Nat} (CX : cc_XC T n a a_tokens a_ends) (CY : cc_YC T n a b_tokens b_ends)
    (ih : ∀ (L : List (Nat × Nat × Int32)) (R : Nat) (a_variables a_row a_outputs a_timerOn a_timerBegin a_timerElapsed a_timerDone a_counterLast a_counterValue a_counterDone a_edgeLast a_edgeDone : Nat → Int32), (∃ lo hi, cc_so T n L lo hi) → cc_n1 L.tail → R ≤ 300 → cc_b01 a_timerOn → (300 - R) * 121 + cc_wt T L ≤ ν → cc_G T n a f_time f_running f_open a_inputs a_tokens a_lengths a_ends b_sizes b_tokens b_ends b_wants ν L R a_variables a_row a_outputs a_timerOn a_timerBegin a_timerElapsed a_timerDone a_counterLast a_counterValue a_counterDone a_edgeLast a_edgeDone)
    (hso : cc_so T n L lo hi) (hlo : lo ≤ q) (hq : q < n) (hhi : cc_en T q ≤ hi) (hst : cc_st (T q) = true) (hlen : L.length ≤ 59) (hn1 : cc_n1 L) (hR : R ≤ 300) (hb01 : cc_b01 a_timerOn)
    (hm : (300 - R) * 121 + cc_wt T ((q, 0, l) :: L) ≤ ν + 1) (h1 : 10 ≤ T q) (h2 : T q ≤ 25) : cc_G T n a f_time f_running f_open a_inputs a_tokens a_lengths a_ends b_sizes b_tokens b_ends b_wants (ν + 1) ((q, 0, l) :: L) R a_variables a_row a_outputs a_timerOn a_timerBegin a_timerElapsed a_timerDone a_counterLast a_counterValue a_counterDone a_edgeLast a_edgeDone := by
  have w := CX.1
  have hgt := cc_en_gt w hq
  have hmm : (300 - R) * 121 + (2 * (cc_en T q - q) + cc_wt T L) ≤ ν + 1 := hm
  have hep : cc_ep (T q) = 1 := by
    unfold cc_ep
    repeat' split
    all_goals omega
  have hsp : cc_sp (T q) = 0 := by
    unfold cc_sp
    repeat' split
    all_goals omega
  refine cc_G_w (a_variables_2 := upd a_variables (T q - 10) ((cc_vl T n (cc_lf a_variables a_inputs a_outputs a_timerDone a_timerElapsed a_counterValue a_counterDone a_edgeDone) a_row) (q + 1))) (a_row_2 := a_row) (a_outputs_2 := a_outputs) (a_timerOn_2 := a_timerOn) (a_timerBegin_2 := a_timerBegin) (a_timerElapsed_2 := a_timerElapsed) (a_timerDone_2 := a_timerDone) (a_counterLast_2 := a_counterLast) (a_counterValue_2 := a_counterValue) (a_counterDone_2 := a_counterDone) (a_edgeLast_2 := a_edgeLast) (a_edgeDone_2 := a_edgeDone) (L' := L) CX CY hq hlen (fun P w0 pp pr pl hxs hP => ?_) (fun P num tk ta tr tl hys hP => ?_) (ih L R (upd a_variables (T q - 10) ((cc_vl T n (cc_lf a_variables a_inputs a_outputs a_timerDone a_timerElapsed a_counterValue a_counterDone a_edgeDone) a_row) (q + 1))) a_row a_outputs a_timerOn a_timerBegin a_timerElapsed a_timerDone a_counterLast a_counterValue a_counterDone a_edgeLast a_edgeDone ⟨_, _, hso⟩ (cc_n1_tail hn1) hR hb01 (by omega))
  · refine ⟨fun hz => ?_, fun hz => absurd hsp hz⟩
    refine cc_xsim CX hq hst hz (fun w' => ?_)
    rw [if_pos (by omega), if_neg (by omega), if_neg (by omega)]
    exact cc_x73_set h1 h2 (hP _ _ _ _ hxs)
  · exact cc_ys_set CY hq h1 h2 hlen hys hP

theorem cc_m_out {a_variables a_row a_outputs a_timerOn a_timerBegin a_timerElapsed a_timerDone a_counterLast a_counterValue a_counterDone a_edgeLast a_edgeDone : Nat → Int32} {ν q R : Nat} {l : Int32} {L : List (Nat × Nat × Int32)} {lo hi : Nat} (CX : cc_XC T n a a_tokens a_ends) (CY : cc_YC T n a b_tokens b_ends)
    (ih : ∀ (L : List (Nat × Nat × Int32)) (R : Nat) (a_variables a_row a_outputs a_timerOn a_timerBegin a_timerElapsed a_timerDone a_counterLast a_counterValue a_counterDone a_edgeLast a_edgeDone : Nat → Int32), (∃ lo hi, cc_so T n L lo hi) → cc_n1 L.tail → R ≤ 300 → cc_b01 a_timerOn → (300 - R) * 121 + cc_wt T L ≤ ν → cc_G T n a f_time f_running f_open a_inputs a_tokens a_lengths a_ends b_sizes b_tokens b_ends b_wants ν L R a_variables a_row a_outputs a_timerOn a_timerBegin a_timerElapsed a_timerDone a_counterLast a_counterValue a_counterDone a_edgeLast a_edgeDone)
    (hso : cc_so T n L lo hi) (hlo : lo ≤ q) (hq : q < n) (hhi : cc_en T q ≤ hi) (hst : cc_st (T q) = true) (hlen : L.length ≤ 59) (hn1 : cc_n1 L) (hR : R ≤ 300) (hb01 : cc_b01 a_timerOn)
    (hm : (300 - R) * 121 + cc_wt T ((q, 0, l) :: L) ≤ ν + 1) (h1 : 30 ≤ T q) (h2 : T q ≤ 33) : cc_G T n a f_time f_running f_open a_inputs a_tokens a_lengths a_ends b_sizes b_tokens b_ends b_wants (ν + 1) ((q, 0, l) :: L) R a_variables a_row a_outputs a_timerOn a_timerBegin a_timerElapsed a_timerDone a_counterLast a_counterValue a_counterDone a_edgeLast a_edgeDone := by
  have w := CX.1
  have hgt := cc_en_gt w hq
  have hmm : (300 - R) * 121 + (2 * (cc_en T q - q) + cc_wt T L) ≤ ν + 1 := hm
  have hep : cc_ep (T q) = 1 := by
    unfold cc_ep
    repeat' split
    all_goals omega
  have hsp : cc_sp (T q) = 0 := by
    unfold cc_sp
    repeat' split
    all_goals omega
  refine cc_G_w (a_variables_2 := a_variables) (a_row_2 := a_row) (a_outputs_2 := upd a_outputs (T q - 30) ((cc_vl T n (cc_lf a_variables a_inputs a_outputs a_timerDone a_timerElapsed a_counterValue a_counterDone a_edgeDone) a_row) (q + 1))) (a_timerOn_2 := a_timerOn) (a_timerBegin_2 := a_timerBegin) (a_timerElapsed_2 := a_timerElapsed) (a_timerDone_2 := a_timerDone) (a_counterLast_2 := a_counterLast) (a_counterValue_2 := a_counterValue) (a_counterDone_2 := a_counterDone) (a_edgeLast_2 := a_edgeLast) (a_edgeDone_2 := a_edgeDone) (L' := L) CX CY hq hlen (fun P w0 pp pr pl hxs hP => ?_) (fun P num tk ta tr tl hys hP => ?_) (ih L R a_variables a_row (upd a_outputs (T q - 30) ((cc_vl T n (cc_lf a_variables a_inputs a_outputs a_timerDone a_timerElapsed a_counterValue a_counterDone a_edgeDone) a_row) (q + 1))) a_timerOn a_timerBegin a_timerElapsed a_timerDone a_counterLast a_counterValue a_counterDone a_edgeLast a_edgeDone ⟨_, _, hso⟩ (cc_n1_tail hn1) hR hb01 (by omega))
  · refine ⟨fun hz => ?_, fun hz => absurd hsp hz⟩
    refine cc_xsim CX hq hst hz (fun w' => ?_)
    rw [if_pos (by omega), if_neg (by omega), if_neg (by omega)]
    exact cc_x73_out h1 h2 (hP _ _ _ _ hxs)
  · exact cc_ys_out CY hq h1 h2 hlen hys hP

theorem cc_m_cel {a_variables a_row a_outputs a_timerOn a_timerBegin a_timerElapsed a_timerDone a_counterLast a_counterValue a_counterDone a_edgeLast a_edgeDone : Nat → Int32} {ν q R : Nat} {l : Int32} {L : List (Nat × Nat × Int32)} {lo hi : Nat} (CX : cc_XC T n a a_tokens a_ends) (CY : cc_YC T n a b_tokens b_ends)
    (ih : ∀ (L : List (Nat × Nat × Int32)) (R : Nat) (a_variables a_row a_outputs a_timerOn a_timerBegin a_timerElapsed a_timerDone a_counterLast a_counterValue a_counterDone a_edgeLast a_edgeDone : Nat → Int32), (∃ lo hi, cc_so T n L lo hi) → cc_n1 L.tail → R ≤ 300 → cc_b01 a_timerOn → (300 - R) * 121 + cc_wt T L ≤ ν → cc_G T n a f_time f_running f_open a_inputs a_tokens a_lengths a_ends b_sizes b_tokens b_ends b_wants ν L R a_variables a_row a_outputs a_timerOn a_timerBegin a_timerElapsed a_timerDone a_counterLast a_counterValue a_counterDone a_edgeLast a_edgeDone)
    (hso : cc_so T n L lo hi) (hlo : lo ≤ q) (hq : q < n) (hhi : cc_en T q ≤ hi) (hst : cc_st (T q) = true) (hlen : L.length ≤ 59) (hn1 : cc_n1 L) (hR : R ≤ 300) (hb01 : cc_b01 a_timerOn)
    (hm : (300 - R) * 121 + cc_wt T ((q, 0, l) :: L) ≤ ν + 1) (ht : T q = 34) : cc_G T n a f_time f_running f_open a_inputs a_tokens a_lengths a_ends b_sizes b_tokens b_ends b_wants (ν + 1) ((q, 0, l) :: L) R a_variables a_row a_outputs a_timerOn a_timerBegin a_timerElapsed a_timerDone a_counterLast a_counterValue a_counterDone a_edgeLast a_edgeDone := by
  have w := CX.1
  have hgt := cc_en_gt w hq
  have hmm : (300 - R) * 121 + (2 * (cc_en T q - q) + cc_wt T L) ≤ ν + 1 := hm
  have hep : cc_ep (T q) = 2 := by
    unfold cc_ep
    repeat' split
    all_goals omega
  have hsp : cc_sp (T q) = 0 := by
    unfold cc_sp
    repeat' split
    all_goals omega
  refine cc_G_w (a_variables_2 := a_variables) (a_row_2 := upd a_row ((cc_vl T n (cc_lf a_variables a_inputs a_outputs a_timerDone a_timerElapsed a_counterValue a_counterDone a_edgeDone) a_row) (q + 1) &&& 7).toNatClampNeg ((cc_vl T n (cc_lf a_variables a_inputs a_outputs a_timerDone a_timerElapsed a_counterValue a_counterDone a_edgeDone) a_row) (cc_en T (q + 1)))) (a_outputs_2 := a_outputs) (a_timerOn_2 := a_timerOn) (a_timerBegin_2 := a_timerBegin) (a_timerElapsed_2 := a_timerElapsed) (a_timerDone_2 := a_timerDone) (a_counterLast_2 := a_counterLast) (a_counterValue_2 := a_counterValue) (a_counterDone_2 := a_counterDone) (a_edgeLast_2 := a_edgeLast) (a_edgeDone_2 := a_edgeDone) (L' := L) CX CY hq hlen (fun P w0 pp pr pl hxs hP => ?_) (fun P num tk ta tr tl hys hP => ?_) (ih L R a_variables (upd a_row ((cc_vl T n (cc_lf a_variables a_inputs a_outputs a_timerDone a_timerElapsed a_counterValue a_counterDone a_edgeDone) a_row) (q + 1) &&& 7).toNatClampNeg ((cc_vl T n (cc_lf a_variables a_inputs a_outputs a_timerDone a_timerElapsed a_counterValue a_counterDone a_edgeDone) a_row) (cc_en T (q + 1)))) a_outputs a_timerOn a_timerBegin a_timerElapsed a_timerDone a_counterLast a_counterValue a_counterDone a_edgeLast a_edgeDone ⟨_, _, hso⟩ (cc_n1_tail hn1) hR hb01 (by omega))
  · refine ⟨fun hz => ?_, fun hz => absurd hsp hz⟩
    refine cc_xsim CX hq hst hz (fun w' => ?_)
    rw [if_pos (by omega), if_pos (by omega), if_neg (by omega)]
    exact ht ▸ cc_x73_cel (hP _ _ _ _ hxs)
  · exact cc_ys_cel CY hq ht hlen hys hP

theorem cc_m_two {a_variables a_row a_outputs a_timerOn a_timerBegin a_timerElapsed a_timerDone a_counterLast a_counterValue a_counterDone a_edgeLast a_edgeDone : Nat → Int32} {ν q R : Nat} {l : Int32} {L : List (Nat × Nat × Int32)} {lo hi : Nat} (CX : cc_XC T n a a_tokens a_ends) (CY : cc_YC T n a b_tokens b_ends)
    (ih : ∀ (L : List (Nat × Nat × Int32)) (R : Nat) (a_variables a_row a_outputs a_timerOn a_timerBegin a_timerElapsed a_timerDone a_counterLast a_counterValue a_counterDone a_edgeLast a_edgeDone : Nat → Int32), (∃ lo hi, cc_so T n L lo hi) → cc_n1 L.tail → R ≤ 300 → cc_b01 a_timerOn → (300 - R) * 121 + cc_wt T L ≤ ν → cc_G T n a f_time f_running f_open a_inputs a_tokens a_lengths a_ends b_sizes b_tokens b_ends b_wants ν L R a_variables a_row a_outputs a_timerOn a_timerBegin a_timerElapsed a_timerDone a_counterLast a_counterValue a_counterDone a_edgeLast a_edgeDone)
    (hso : cc_so T n L lo hi) (hlo : lo ≤ q) (hq : q < n) (hhi : cc_en T q ≤ hi) (hst : cc_st (T q) = true) (hlen : L.length ≤ 59) (hn1 : cc_n1 L) (hR : R ≤ 300) (hb01 : cc_b01 a_timerOn)
    (hm : (300 - R) * 121 + cc_wt T ((q, 0, l) :: L) ≤ ν + 1) (ht : T q = 2) : cc_G T n a f_time f_running f_open a_inputs a_tokens a_lengths a_ends b_sizes b_tokens b_ends b_wants (ν + 1) ((q, 0, l) :: L) R a_variables a_row a_outputs a_timerOn a_timerBegin a_timerElapsed a_timerDone a_counterLast a_counterValue a_counterDone a_edgeLast a_edgeDone := by
  have w := CX.1
  have hgt := cc_en_gt w hq
  have hmm : (300 - R) * 121 + (2 * (cc_en T q - q) + cc_wt T L) ≤ ν + 1 := hm
  have hep : cc_ep (T q) = 0 := by
    unfold cc_ep
    repeat' split
    all_goals omega
  have hsp : cc_sp (T q) = 0 := by
    unfold cc_sp
    repeat' split
    all_goals omega
  refine cc_G_w (a_variables_2 := a_variables) (a_row_2 := a_row) (a_outputs_2 := a_outputs) (a_timerOn_2 := a_timerOn) (a_timerBegin_2 := a_timerBegin) (a_timerElapsed_2 := a_timerElapsed) (a_timerDone_2 := a_timerDone) (a_counterLast_2 := a_counterLast) (a_counterValue_2 := a_counterValue) (a_counterDone_2 := a_counterDone) (a_edgeLast_2 := a_edgeLast) (a_edgeDone_2 := a_edgeDone) (L' := L) CX CY hq hlen (fun P w0 pp pr pl hxs hP => ?_) (fun P num tk ta tr tl hys hP => ?_) (ih L R a_variables a_row a_outputs a_timerOn a_timerBegin a_timerElapsed a_timerDone a_counterLast a_counterValue a_counterDone a_edgeLast a_edgeDone ⟨_, _, hso⟩ (cc_n1_tail hn1) hR hb01 (by omega))
  · refine ⟨fun hz => ?_, fun hz => absurd hsp hz⟩
    refine cc_xsim CX hq hst hz (fun w' => ?_)
    rw [if_neg (by omega), if_neg (by omega), if_neg (by omega)]
    exact ht ▸ cc_x73_two (hP _ _ _ _ hxs)
  · exact cc_ys_two CY hq ht hlen hys hP

theorem cc_m_lea {a_variables a_row a_outputs a_timerOn a_timerBegin a_timerElapsed a_timerDone a_counterLast a_counterValue a_counterDone a_edgeLast a_edgeDone : Nat → Int32} {ν q R : Nat} {l : Int32} {L : List (Nat × Nat × Int32)} {lo hi : Nat} (CX : cc_XC T n a a_tokens a_ends) (CY : cc_YC T n a b_tokens b_ends)
    (ih : ∀ (L : List (Nat × Nat × Int32)) (R : Nat) (a_variables a_row a_outputs a_timerOn a_timerBegin a_timerElapsed a_timerDone a_counterLast a_counterValue a_counterDone a_edgeLast a_edgeDone : Nat → Int32), (∃ lo hi, cc_so T n L lo hi) → cc_n1 L.tail → R ≤ 300 → cc_b01 a_timerOn → (300 - R) * 121 + cc_wt T L ≤ ν → cc_G T n a f_time f_running f_open a_inputs a_tokens a_lengths a_ends b_sizes b_tokens b_ends b_wants ν L R a_variables a_row a_outputs a_timerOn a_timerBegin a_timerElapsed a_timerDone a_counterLast a_counterValue a_counterDone a_edgeLast a_edgeDone)
    (hso : cc_so T n L lo hi) (hlo : lo ≤ q) (hq : q < n) (hhi : cc_en T q ≤ hi) (hst : cc_st (T q) = true) (hlen : L.length ≤ 59) (hn1 : cc_n1 L) (hR : R ≤ 300) (hb01 : cc_b01 a_timerOn)
    (hm : (300 - R) * 121 + cc_wt T ((q, 0, l) :: L) ≤ ν + 1) (ht : T q = 39) : cc_G T n a f_time f_running f_open a_inputs a_tokens a_lengths a_ends b_sizes b_tokens b_ends b_wants (ν + 1) ((q, 0, l) :: L) R a_variables a_row a_outputs a_timerOn a_timerBegin a_timerElapsed a_timerDone a_counterLast a_counterValue a_counterDone a_edgeLast a_edgeDone := by
  have w := CX.1
  have hgt := cc_en_gt w hq
  have hmm : (300 - R) * 121 + (2 * (cc_en T q - q) + cc_wt T L) ≤ ν + 1 := hm
  have hep : cc_ep (T q) = 0 := by
    unfold cc_ep
    repeat' split
    all_goals omega
  have hsp : cc_sp (T q) = 0 := by
    unfold cc_sp
    repeat' split
    all_goals omega
  have hlw := cc_lv_wt T L
  refine cc_G_w (a_variables_2 := a_variables) (a_row_2 := a_row) (a_outputs_2 := a_outputs) (a_timerOn_2 := a_timerOn) (a_timerBegin_2 := a_timerBegin) (a_timerElapsed_2 := a_timerElapsed) (a_timerDone_2 := a_timerDone) (a_counterLast_2 := a_counterLast) (a_counterValue_2 := a_counterValue) (a_counterDone_2 := a_counterDone) (a_edgeLast_2 := a_edgeLast) (a_edgeDone_2 := a_edgeDone) (L' := (cc_lv L)) CX CY hq hlen (fun P w0 pp pr pl hxs hP => ?_) (fun P num tk ta tr tl hys hP => ?_) (ih (cc_lv L) R a_variables a_row a_outputs a_timerOn a_timerBegin a_timerElapsed a_timerDone a_counterLast a_counterValue a_counterDone a_edgeLast a_edgeDone (cc_lv_so hso) (cc_n1_tail (cc_lv_n1 hn1)) hR hb01 (by omega))
  · refine ⟨fun hz => ?_, fun hz => absurd hsp hz⟩
    refine cc_xsim CX hq hst hz (fun w' => ?_)
    rw [if_neg (by omega), if_neg (by omega), if_neg (by omega)]
    exact ht ▸ cc_x73_lea (by omega) (cc_so_code hso) hxs (hP _ _ _ _ (cc_lv_xs hxs))
  · exact cc_ys_lea CY hq ht hlen hys hn1 hP

theorem cc_m_tim {a_variables a_row a_outputs a_timerOn a_timerBegin a_timerElapsed a_timerDone a_counterLast a_counterValue a_counterDone a_edgeLast a_edgeDone : Nat → Int32} {ν q R : Nat} {l : Int32} {L : List (Nat × Nat × Int32)} {lo hi : Nat} (CX : cc_XC T n a a_tokens a_ends) (CY : cc_YC T n a b_tokens b_ends)
    (ih : ∀ (L : List (Nat × Nat × Int32)) (R : Nat) (a_variables a_row a_outputs a_timerOn a_timerBegin a_timerElapsed a_timerDone a_counterLast a_counterValue a_counterDone a_edgeLast a_edgeDone : Nat → Int32), (∃ lo hi, cc_so T n L lo hi) → cc_n1 L.tail → R ≤ 300 → cc_b01 a_timerOn → (300 - R) * 121 + cc_wt T L ≤ ν → cc_G T n a f_time f_running f_open a_inputs a_tokens a_lengths a_ends b_sizes b_tokens b_ends b_wants ν L R a_variables a_row a_outputs a_timerOn a_timerBegin a_timerElapsed a_timerDone a_counterLast a_counterValue a_counterDone a_edgeLast a_edgeDone)
    (hso : cc_so T n L lo hi) (hlo : lo ≤ q) (hq : q < n) (hhi : cc_en T q ≤ hi) (hst : cc_st (T q) = true) (hlen : L.length ≤ 59) (hn1 : cc_n1 L) (hR : R ≤ 300) (hb01 : cc_b01 a_timerOn)
    (hm : (300 - R) * 121 + cc_wt T ((q, 0, l) :: L) ≤ ν + 1) (h1 : 60 ≤ T q) (h2 : T q ≤ 62) : cc_G T n a f_time f_running f_open a_inputs a_tokens a_lengths a_ends b_sizes b_tokens b_ends b_wants (ν + 1) ((q, 0, l) :: L) R a_variables a_row a_outputs a_timerOn a_timerBegin a_timerElapsed a_timerDone a_counterLast a_counterValue a_counterDone a_edgeLast a_edgeDone := by
  have w := CX.1
  have hgt := cc_en_gt w hq
  have hmm : (300 - R) * 121 + (2 * (cc_en T q - q) + cc_wt T L) ≤ ν + 1 := hm
  have hep : cc_ep (T q) = 2 := by
    unfold cc_ep
    repeat' split
    all_goals omega
  have hsp : cc_sp (T q) = 0 := by
    unfold cc_sp
    repeat' split
    all_goals omega
  refine cc_G_w (a_variables_2 := a_variables) (a_row_2 := a_row) (a_outputs_2 := a_outputs) (a_timerOn_2 := cc_tOn a_timerOn (T q - 60) (cc_tr ((cc_vl T n (cc_lf a_variables a_inputs a_outputs a_timerDone a_timerElapsed a_counterValue a_counterDone a_edgeDone) a_row) (q + 1)))) (a_timerBegin_2 := cc_tBe a_timerOn a_timerBegin (T q - 60) (cc_tr ((cc_vl T n (cc_lf a_variables a_inputs a_outputs a_timerDone a_timerElapsed a_counterValue a_counterDone a_edgeDone) a_row) (q + 1))) f_time) (a_timerElapsed_2 := cc_tEl a_timerElapsed (T q - 60) (cc_tr ((cc_vl T n (cc_lf a_variables a_inputs a_outputs a_timerDone a_timerElapsed a_counterValue a_counterDone a_edgeDone) a_row) (q + 1))) (f_time - cc_tBe a_timerOn a_timerBegin (T q - 60) (cc_tr ((cc_vl T n (cc_lf a_variables a_inputs a_outputs a_timerDone a_timerElapsed a_counterValue a_counterDone a_edgeDone) a_row) (q + 1))) f_time (T q - 60)) ((cc_vl T n (cc_lf a_variables a_inputs a_outputs a_timerDone a_timerElapsed a_counterValue a_counterDone a_edgeDone) a_row) (cc_en T (q + 1)))) (a_timerDone_2 := cc_tDo a_timerDone (T q - 60) (cc_tr ((cc_vl T n (cc_lf a_variables a_inputs a_outputs a_timerDone a_timerElapsed a_counterValue a_counterDone a_edgeDone) a_row) (q + 1))) (f_time - cc_tBe a_timerOn a_timerBegin (T q - 60) (cc_tr ((cc_vl T n (cc_lf a_variables a_inputs a_outputs a_timerDone a_timerElapsed a_counterValue a_counterDone a_edgeDone) a_row) (q + 1))) f_time (T q - 60)) ((cc_vl T n (cc_lf a_variables a_inputs a_outputs a_timerDone a_timerElapsed a_counterValue a_counterDone a_edgeDone) a_row) (cc_en T (q + 1)))) (a_counterLast_2 := a_counterLast) (a_counterValue_2 := a_counterValue) (a_counterDone_2 := a_counterDone) (a_edgeLast_2 := a_edgeLast) (a_edgeDone_2 := a_edgeDone) (L' := L) CX CY hq hlen (fun P w0 pp pr pl hxs hP => ?_) (fun P num tk ta tr tl hys hP => ?_) (ih L R a_variables a_row a_outputs (cc_tOn a_timerOn (T q - 60) (cc_tr ((cc_vl T n (cc_lf a_variables a_inputs a_outputs a_timerDone a_timerElapsed a_counterValue a_counterDone a_edgeDone) a_row) (q + 1)))) (cc_tBe a_timerOn a_timerBegin (T q - 60) (cc_tr ((cc_vl T n (cc_lf a_variables a_inputs a_outputs a_timerDone a_timerElapsed a_counterValue a_counterDone a_edgeDone) a_row) (q + 1))) f_time) (cc_tEl a_timerElapsed (T q - 60) (cc_tr ((cc_vl T n (cc_lf a_variables a_inputs a_outputs a_timerDone a_timerElapsed a_counterValue a_counterDone a_edgeDone) a_row) (q + 1))) (f_time - cc_tBe a_timerOn a_timerBegin (T q - 60) (cc_tr ((cc_vl T n (cc_lf a_variables a_inputs a_outputs a_timerDone a_timerElapsed a_counterValue a_counterDone a_edgeDone) a_row) (q + 1))) f_time (T q - 60)) ((cc_vl T n (cc_lf a_variables a_inputs a_outputs a_timerDone a_timerElapsed a_counterValue a_counterDone a_edgeDone) a_row) (cc_en T (q + 1)))) (cc_tDo a_timerDone (T q - 60) (cc_tr ((cc_vl T n (cc_lf a_variables a_inputs a_outputs a_timerDone a_timerElapsed a_counterValue a_counterDone a_edgeDone) a_row) (q + 1))) (f_time - cc_tBe a_timerOn a_timerBegin (T q - 60) (cc_tr ((cc_vl T n (cc_lf a_variables a_inputs a_outputs a_timerDone a_timerElapsed a_counterValue a_counterDone a_edgeDone) a_row) (q + 1))) f_time (T q - 60)) ((cc_vl T n (cc_lf a_variables a_inputs a_outputs a_timerDone a_timerElapsed a_counterValue a_counterDone a_edgeDone) a_row) (cc_en T (q + 1)))) a_counterLast a_counterValue a_counterDone a_edgeLast a_edgeDone ⟨_, _, hso⟩ (cc_n1_tail hn1) hR (cc_b01_upd hb01) (by omega))
  · refine ⟨fun hz => ?_, fun hz => absurd hsp hz⟩
    refine cc_xsim CX hq hst hz (fun w' => ?_)
    rw [if_pos (by omega), if_pos (by omega), if_neg (by omega)]
    exact cc_x73_tim h1 h2 (hP _ _ _ _ hxs)
  · exact cc_ys_tim CY hq h1 h2 hlen hys hb01 hP

theorem cc_m_cnt {a_variables a_row a_outputs a_timerOn a_timerBegin a_timerElapsed a_timerDone a_counterLast a_counterValue a_counterDone a_edgeLast a_edgeDone : Nat → Int32} {ν q R : Nat} {l : Int32} {L : List (Nat × Nat × Int32)} {lo hi : Nat} (CX : cc_XC T n a a_tokens a_ends) (CY : cc_YC T n a b_tokens b_ends)
    (ih : ∀ (L : List (Nat × Nat × Int32)) (R : Nat) (a_variables a_row a_outputs a_timerOn a_timerBegin a_timerElapsed a_timerDone a_counterLast a_counterValue a_counterDone a_edgeLast a_edgeDone : Nat → Int32), (∃ lo hi, cc_so T n L lo hi) → cc_n1 L.tail → R ≤ 300 → cc_b01 a_timerOn → (300 - R) * 121 + cc_wt T L ≤ ν → cc_G T n a f_time f_running f_open a_inputs a_tokens a_lengths a_ends b_sizes b_tokens b_ends b_wants ν L R a_variables a_row a_outputs a_timerOn a_timerBegin a_timerElapsed a_timerDone a_counterLast a_counterValue a_counterDone a_edgeLast a_edgeDone)
    (hso : cc_so T n L lo hi) (hlo : lo ≤ q) (hq : q < n) (hhi : cc_en T q ≤ hi) (hst : cc_st (T q) = true) (hlen : L.length ≤ 59) (hn1 : cc_n1 L) (hR : R ≤ 300) (hb01 : cc_b01 a_timerOn)
    (hm : (300 - R) * 121 + cc_wt T ((q, 0, l) :: L) ≤ ν + 1) (h1 : 63 ≤ T q) (h2 : T q ≤ 65) : cc_G T n a f_time f_running f_open a_inputs a_tokens a_lengths a_ends b_sizes b_tokens b_ends b_wants (ν + 1) ((q, 0, l) :: L) R a_variables a_row a_outputs a_timerOn a_timerBegin a_timerElapsed a_timerDone a_counterLast a_counterValue a_counterDone a_edgeLast a_edgeDone := by
  have w := CX.1
  have hgt := cc_en_gt w hq
  have hmm : (300 - R) * 121 + (2 * (cc_en T q - q) + cc_wt T L) ≤ ν + 1 := hm
  have hep : cc_ep (T q) = 3 := by
    unfold cc_ep
    repeat' split
    all_goals omega
  have hsp : cc_sp (T q) = 0 := by
    unfold cc_sp
    repeat' split
    all_goals omega
  refine cc_G_w (a_variables_2 := a_variables) (a_row_2 := a_row) (a_outputs_2 := a_outputs) (a_timerOn_2 := a_timerOn) (a_timerBegin_2 := a_timerBegin) (a_timerElapsed_2 := a_timerElapsed) (a_timerDone_2 := a_timerDone) (a_counterLast_2 := upd a_counterLast (T q - 63) (cc_bI (cc_tr ((cc_vl T n (cc_lf a_variables a_inputs a_outputs a_timerDone a_timerElapsed a_counterValue a_counterDone a_edgeDone) a_row) (q + 1))))) (a_counterValue_2 := cc_cVa a_counterLast a_counterValue (T q - 63) (cc_tr ((cc_vl T n (cc_lf a_variables a_inputs a_outputs a_timerDone a_timerElapsed a_counterValue a_counterDone a_edgeDone) a_row) (q + 1))) (cc_tr ((cc_vl T n (cc_lf a_variables a_inputs a_outputs a_timerDone a_timerElapsed a_counterValue a_counterDone a_edgeDone) a_row) (cc_en T (q + 1))))) (a_counterDone_2 := cc_cDo (cc_cVa a_counterLast a_counterValue (T q - 63) (cc_tr ((cc_vl T n (cc_lf a_variables a_inputs a_outputs a_timerDone a_timerElapsed a_counterValue a_counterDone a_edgeDone) a_row) (q + 1))) (cc_tr ((cc_vl T n (cc_lf a_variables a_inputs a_outputs a_timerDone a_timerElapsed a_counterValue a_counterDone a_edgeDone) a_row) (cc_en T (q + 1))))) a_counterDone (T q - 63) ((cc_vl T n (cc_lf a_variables a_inputs a_outputs a_timerDone a_timerElapsed a_counterValue a_counterDone a_edgeDone) a_row) (cc_en T (cc_en T (q + 1))))) (a_edgeLast_2 := a_edgeLast) (a_edgeDone_2 := a_edgeDone) (L' := L) CX CY hq hlen (fun P w0 pp pr pl hxs hP => ?_) (fun P num tk ta tr tl hys hP => ?_) (ih L R a_variables a_row a_outputs a_timerOn a_timerBegin a_timerElapsed a_timerDone (upd a_counterLast (T q - 63) (cc_bI (cc_tr ((cc_vl T n (cc_lf a_variables a_inputs a_outputs a_timerDone a_timerElapsed a_counterValue a_counterDone a_edgeDone) a_row) (q + 1))))) (cc_cVa a_counterLast a_counterValue (T q - 63) (cc_tr ((cc_vl T n (cc_lf a_variables a_inputs a_outputs a_timerDone a_timerElapsed a_counterValue a_counterDone a_edgeDone) a_row) (q + 1))) (cc_tr ((cc_vl T n (cc_lf a_variables a_inputs a_outputs a_timerDone a_timerElapsed a_counterValue a_counterDone a_edgeDone) a_row) (cc_en T (q + 1))))) (cc_cDo (cc_cVa a_counterLast a_counterValue (T q - 63) (cc_tr ((cc_vl T n (cc_lf a_variables a_inputs a_outputs a_timerDone a_timerElapsed a_counterValue a_counterDone a_edgeDone) a_row) (q + 1))) (cc_tr ((cc_vl T n (cc_lf a_variables a_inputs a_outputs a_timerDone a_timerElapsed a_counterValue a_counterDone a_edgeDone) a_row) (cc_en T (q + 1))))) a_counterDone (T q - 63) ((cc_vl T n (cc_lf a_variables a_inputs a_outputs a_timerDone a_timerElapsed a_counterValue a_counterDone a_edgeDone) a_row) (cc_en T (cc_en T (q + 1))))) a_edgeLast a_edgeDone ⟨_, _, hso⟩ (cc_n1_tail hn1) hR hb01 (by omega))
  · refine ⟨fun hz => ?_, fun hz => absurd hsp hz⟩
    refine cc_xsim CX hq hst hz (fun w' => ?_)
    rw [if_pos (by omega), if_pos (by omega), if_pos (by omega)]
    exact cc_x73_cnt h1 h2 (hP _ _ _ _ hxs)
  · exact cc_ys_cnt CY hq h1 h2 hlen hys hP

theorem cc_m_edg {a_variables a_row a_outputs a_timerOn a_timerBegin a_timerElapsed a_timerDone a_counterLast a_counterValue a_counterDone a_edgeLast a_edgeDone : Nat → Int32} {ν q R : Nat} {l : Int32} {L : List (Nat × Nat × Int32)} {lo hi : Nat} (CX : cc_XC T n a a_tokens a_ends) (CY : cc_YC T n a b_tokens b_ends)
    (ih : ∀ (L : List (Nat × Nat × Int32)) (R : Nat) (a_variables a_row a_outputs a_timerOn a_timerBegin a_timerElapsed a_timerDone a_counterLast a_counterValue a_counterDone a_edgeLast a_edgeDone : Nat → Int32), (∃ lo hi, cc_so T n L lo hi) → cc_n1 L.tail → R ≤ 300 → cc_b01 a_timerOn → (300 - R) * 121 + cc_wt T L ≤ ν → cc_G T n a f_time f_running f_open a_inputs a_tokens a_lengths a_ends b_sizes b_tokens b_ends b_wants ν L R a_variables a_row a_outputs a_timerOn a_timerBegin a_timerElapsed a_timerDone a_counterLast a_counterValue a_counterDone a_edgeLast a_edgeDone)
    (hso : cc_so T n L lo hi) (hlo : lo ≤ q) (hq : q < n) (hhi : cc_en T q ≤ hi) (hst : cc_st (T q) = true) (hlen : L.length ≤ 59) (hn1 : cc_n1 L) (hR : R ≤ 300) (hb01 : cc_b01 a_timerOn)
    (hm : (300 - R) * 121 + cc_wt T ((q, 0, l) :: L) ≤ ν + 1) (h1 : 66 ≤ T q) (h2 : T q ≤ 68) : cc_G T n a f_time f_running f_open a_inputs a_tokens a_lengths a_ends b_sizes b_tokens b_ends b_wants (ν + 1) ((q, 0, l) :: L) R a_variables a_row a_outputs a_timerOn a_timerBegin a_timerElapsed a_timerDone a_counterLast a_counterValue a_counterDone a_edgeLast a_edgeDone := by
  have w := CX.1
  have hgt := cc_en_gt w hq
  have hmm : (300 - R) * 121 + (2 * (cc_en T q - q) + cc_wt T L) ≤ ν + 1 := hm
  have hep : cc_ep (T q) = 1 := by
    unfold cc_ep
    repeat' split
    all_goals omega
  have hsp : cc_sp (T q) = 0 := by
    unfold cc_sp
    repeat' split
    all_goals omega
  refine cc_G_w (a_variables_2 := a_variables) (a_row_2 := a_row) (a_outputs_2 := a_outputs) (a_timerOn_2 := a_timerOn) (a_timerBegin_2 := a_timerBegin) (a_timerElapsed_2 := a_timerElapsed) (a_timerDone_2 := a_timerDone) (a_counterLast_2 := a_counterLast) (a_counterValue_2 := a_counterValue) (a_counterDone_2 := a_counterDone) (a_edgeLast_2 := upd a_edgeLast (T q - 66) (cc_bI (cc_tr ((cc_vl T n (cc_lf a_variables a_inputs a_outputs a_timerDone a_timerElapsed a_counterValue a_counterDone a_edgeDone) a_row) (q + 1))))) (a_edgeDone_2 := cc_eDo a_edgeLast a_edgeDone (T q - 66) (cc_tr ((cc_vl T n (cc_lf a_variables a_inputs a_outputs a_timerDone a_timerElapsed a_counterValue a_counterDone a_edgeDone) a_row) (q + 1)))) (L' := L) CX CY hq hlen (fun P w0 pp pr pl hxs hP => ?_) (fun P num tk ta tr tl hys hP => ?_) (ih L R a_variables a_row a_outputs a_timerOn a_timerBegin a_timerElapsed a_timerDone a_counterLast a_counterValue a_counterDone (upd a_edgeLast (T q - 66) (cc_bI (cc_tr ((cc_vl T n (cc_lf a_variables a_inputs a_outputs a_timerDone a_timerElapsed a_counterValue a_counterDone a_edgeDone) a_row) (q + 1))))) (cc_eDo a_edgeLast a_edgeDone (T q - 66) (cc_tr ((cc_vl T n (cc_lf a_variables a_inputs a_outputs a_timerDone a_timerElapsed a_counterValue a_counterDone a_edgeDone) a_row) (q + 1)))) ⟨_, _, hso⟩ (cc_n1_tail hn1) hR hb01 (by omega))
  · refine ⟨fun hz => ?_, fun hz => absurd hsp hz⟩
    refine cc_xsim CX hq hst hz (fun w' => ?_)
    rw [if_pos (by omega), if_neg (by omega), if_neg (by omega)]
    exact cc_x73_edg h1 h2 (hP _ _ _ _ hxs)
  · exact cc_ys_edg CY hq h1 h2 hlen hys hP

theorem cc_m_seq {a_variables a_row a_outputs a_timerOn a_timerBegin a_timerElapsed a_timerDone a_counterLast a_counterValue a_counterDone a_edgeLast a_edgeDone : Nat → Int32} {ν q R : Nat} {l : Int32} {L : List (Nat × Nat × Int32)} {lo hi : Nat} (CX : cc_XC T n a a_tokens a_ends) (CY : cc_YC T n a b_tokens b_ends)
    (ih : ∀ (L : List (Nat × Nat × Int32)) (R : Nat) (a_variables a_row a_outputs a_timerOn a_timerBegin a_timerElapsed a_timerDone a_counterLast a_counterValue a_counterDone a_edgeLast a_edgeDone : Nat → Int32), (∃ lo hi, cc_so T n L lo hi) → cc_n1 L.tail → R ≤ 300 → cc_b01 a_timerOn → (300 - R) * 121 + cc_wt T L ≤ ν → cc_G T n a f_time f_running f_open a_inputs a_tokens a_lengths a_ends b_sizes b_tokens b_ends b_wants ν L R a_variables a_row a_outputs a_timerOn a_timerBegin a_timerElapsed a_timerDone a_counterLast a_counterValue a_counterDone a_edgeLast a_edgeDone)
    (hso : cc_so T n L lo hi) (hlo : lo ≤ q) (hq : q < n) (hhi : cc_en T q ≤ hi) (hst : cc_st (T q) = true) (hlen : L.length ≤ 59) (hn1 : cc_n1 L) (hR : R ≤ 300) (hb01 : cc_b01 a_timerOn)
    (hm : (300 - R) * 121 + cc_wt T ((q, 0, l) :: L) ≤ ν + 1) (ht : T q = 1) : cc_G T n a f_time f_running f_open a_inputs a_tokens a_lengths a_ends b_sizes b_tokens b_ends b_wants (ν + 1) ((q, 0, l) :: L) R a_variables a_row a_outputs a_timerOn a_timerBegin a_timerElapsed a_timerDone a_counterLast a_counterValue a_counterDone a_edgeLast a_edgeDone := by
  have w := CX.1
  have hgt := cc_en_gt w hq
  have hmm : (300 - R) * 121 + (2 * (cc_en T q - q) + cc_wt T L) ≤ ν + 1 := hm
  have hsp : cc_sp (T q) ≠ 0 := by
    unfold cc_sp
    repeat' split
    all_goals omega
  have har : cc_ar (T q) = 2 := by rw [ht]; rfl
  have k0 := cc_ch (k := 0) w hq (by omega)
  have k1 := cc_ch (k := 1) w hq (by omega)
  have kk : cc_en T (cc_nx T 0 (q + 1)) = cc_nx T 1 (q + 1) := rfl
  have hws : (300 - R) * 121 + (2 * (cc_en T (cc_nx T 0 (q + 1)) - cc_nx T 0 (q + 1)) + (2 * (cc_en T (cc_nx T 1 (q + 1)) - cc_nx T 1 (q + 1)) + cc_wt T L)) ≤ ν := by
    rw [kk]
    rw [kk] at k0
    omega
  refine cc_G_w (a_variables_2 := a_variables) (a_row_2 := a_row) (a_outputs_2 := a_outputs) (a_timerOn_2 := a_timerOn) (a_timerBegin_2 := a_timerBegin) (a_timerElapsed_2 := a_timerElapsed) (a_timerDone_2 := a_timerDone) (a_counterLast_2 := a_counterLast) (a_counterValue_2 := a_counterValue) (a_counterDone_2 := a_counterDone) (a_edgeLast_2 := a_edgeLast) (a_edgeDone_2 := a_edgeDone) (L' := ((cc_nx T 0 (q + 1), 0, 0) :: (cc_nx T 1 (q + 1), 0, 0) :: L)) CX CY hq hlen (fun P w0 pp pr pl hxs hP => ?_) (fun P num tk ta tr tl hys hP => ?_) (ih ((cc_nx T 0 (q + 1), 0, 0) :: (cc_nx T 1 (q + 1), 0, 0) :: L) R a_variables a_row a_outputs a_timerOn a_timerBegin a_timerElapsed a_timerDone a_counterLast a_counterValue a_counterDone a_edgeLast a_edgeDone ⟨_, _, cc_so_seq w hso hlo hq hhi ht⟩ (cc_n1_cons hn1 (by show (0 : Nat) ≠ 1; omega)) hR hb01 hws)
  · exact ⟨fun hz => absurd hz hsp, fun _ => cc_xo1 CX hq ht hlen hxs hP⟩
  · exact cc_ys_seq CY hq ht hlen hys hP

theorem cc_m_if {a_variables a_row a_outputs a_timerOn a_timerBegin a_timerElapsed a_timerDone a_counterLast a_counterValue a_counterDone a_edgeLast a_edgeDone : Nat → Int32} {ν q R : Nat} {l : Int32} {L : List (Nat × Nat × Int32)} {lo hi : Nat} (CX : cc_XC T n a a_tokens a_ends) (CY : cc_YC T n a b_tokens b_ends)
    (ih : ∀ (L : List (Nat × Nat × Int32)) (R : Nat) (a_variables a_row a_outputs a_timerOn a_timerBegin a_timerElapsed a_timerDone a_counterLast a_counterValue a_counterDone a_edgeLast a_edgeDone : Nat → Int32), (∃ lo hi, cc_so T n L lo hi) → cc_n1 L.tail → R ≤ 300 → cc_b01 a_timerOn → (300 - R) * 121 + cc_wt T L ≤ ν → cc_G T n a f_time f_running f_open a_inputs a_tokens a_lengths a_ends b_sizes b_tokens b_ends b_wants ν L R a_variables a_row a_outputs a_timerOn a_timerBegin a_timerElapsed a_timerDone a_counterLast a_counterValue a_counterDone a_edgeLast a_edgeDone)
    (hso : cc_so T n L lo hi) (hlo : lo ≤ q) (hq : q < n) (hhi : cc_en T q ≤ hi) (hst : cc_st (T q) = true) (hlen : L.length ≤ 59) (hn1 : cc_n1 L) (hR : R ≤ 300) (hb01 : cc_b01 a_timerOn)
    (hm : (300 - R) * 121 + cc_wt T ((q, 0, l) :: L) ≤ ν + 1) (ht : T q = 35) : cc_G T n a f_time f_running f_open a_inputs a_tokens a_lengths a_ends b_sizes b_tokens b_ends b_wants (ν + 1) ((q, 0, l) :: L) R a_variables a_row a_outputs a_timerOn a_timerBegin a_timerElapsed a_timerDone a_counterLast a_counterValue a_counterDone a_edgeLast a_edgeDone := by
  have w := CX.1
  have hgt := cc_en_gt w hq
  have hmm : (300 - R) * 121 + (2 * (cc_en T q - q) + cc_wt T L) ≤ ν + 1 := hm
  have hsp : cc_sp (T q) ≠ 0 := by
    unfold cc_sp
    repeat' split
    all_goals omega
  have hk : (if (cc_vl T n (cc_lf a_variables a_inputs a_outputs a_timerDone a_timerElapsed a_counterValue a_counterDone a_edgeDone) a_row) (q + 1) = 0 then 2 else 1) < cc_ar (T q) ∧ cc_ts (T q) (if (cc_vl T n (cc_lf a_variables a_inputs a_outputs a_timerDone a_timerElapsed a_counterValue a_counterDone a_edgeDone) a_row) (q + 1) = 0 then 2 else 1) = true := by
    rw [ht]
    split
    · exact ⟨by decide, rfl⟩
    · exact ⟨by decide, rfl⟩
  have hws := cc_wt_ch w hq hk.1 0 l L
  refine cc_G_w (a_variables_2 := a_variables) (a_row_2 := a_row) (a_outputs_2 := a_outputs) (a_timerOn_2 := a_timerOn) (a_timerBegin_2 := a_timerBegin) (a_timerElapsed_2 := a_timerElapsed) (a_timerDone_2 := a_timerDone) (a_counterLast_2 := a_counterLast) (a_counterValue_2 := a_counterValue) (a_counterDone_2 := a_counterDone) (a_edgeLast_2 := a_edgeLast) (a_edgeDone_2 := a_edgeDone) (L' := ((cc_nx T (if (cc_vl T n (cc_lf a_variables a_inputs a_outputs a_timerDone a_timerElapsed a_counterValue a_counterDone a_edgeDone) a_row) (q + 1) = 0 then 2 else 1) (q + 1), 0, 0) :: L)) CX CY hq hlen (fun P w0 pp pr pl hxs hP => ?_) (fun P num tk ta tr tl hys hP => ?_) (ih ((cc_nx T (if (cc_vl T n (cc_lf a_variables a_inputs a_outputs a_timerDone a_timerElapsed a_counterValue a_counterDone a_edgeDone) a_row) (q + 1) = 0 then 2 else 1) (q + 1), 0, 0) :: L) R a_variables a_row a_outputs a_timerOn a_timerBegin a_timerElapsed a_timerDone a_counterLast a_counterValue a_counterDone a_edgeLast a_edgeDone ⟨_, _, cc_so_w w hso hlo hq hhi hk.1 hk.2 0⟩ hn1 hR hb01 (by omega))
  · exact ⟨fun hz => absurd hz hsp, fun _ => cc_xo35 CX hq ht hlen hxs hP⟩
  · exact cc_ys_if CY hq ht hlen hys hP

theorem cc_m_cho {a_variables a_row a_outputs a_timerOn a_timerBegin a_timerElapsed a_timerDone a_counterLast a_counterValue a_counterDone a_edgeLast a_edgeDone : Nat → Int32} {ν q R : Nat} {l : Int32} {L : List (Nat × Nat × Int32)} {lo hi : Nat} (CX : cc_XC T n a a_tokens a_ends) (CY : cc_YC T n a b_tokens b_ends)
    (ih : ∀ (L : List (Nat × Nat × Int32)) (R : Nat) (a_variables a_row a_outputs a_timerOn a_timerBegin a_timerElapsed a_timerDone a_counterLast a_counterValue a_counterDone a_edgeLast a_edgeDone : Nat → Int32), (∃ lo hi, cc_so T n L lo hi) → cc_n1 L.tail → R ≤ 300 → cc_b01 a_timerOn → (300 - R) * 121 + cc_wt T L ≤ ν → cc_G T n a f_time f_running f_open a_inputs a_tokens a_lengths a_ends b_sizes b_tokens b_ends b_wants ν L R a_variables a_row a_outputs a_timerOn a_timerBegin a_timerElapsed a_timerDone a_counterLast a_counterValue a_counterDone a_edgeLast a_edgeDone)
    (hso : cc_so T n L lo hi) (hlo : lo ≤ q) (hq : q < n) (hhi : cc_en T q ≤ hi) (hst : cc_st (T q) = true) (hlen : L.length ≤ 59) (hn1 : cc_n1 L) (hR : R ≤ 300) (hb01 : cc_b01 a_timerOn)
    (hm : (300 - R) * 121 + cc_wt T ((q, 0, l) :: L) ≤ ν + 1) (ht : T q = 56) : cc_G T n a f_time f_running f_open a_inputs a_tokens a_lengths a_ends b_sizes b_tokens b_ends b_wants (ν + 1) ((q, 0, l) :: L) R a_variables a_row a_outputs a_timerOn a_timerBegin a_timerElapsed a_timerDone a_counterLast a_counterValue a_counterDone a_edgeLast a_edgeDone := by
  have w := CX.1
  have hgt := cc_en_gt w hq
  have hmm : (300 - R) * 121 + (2 * (cc_en T q - q) + cc_wt T L) ≤ ν + 1 := hm
  have hsp : cc_sp (T q) ≠ 0 := by
    unfold cc_sp
    repeat' split
    all_goals omega
  have hk : (if (cc_vl T n (cc_lf a_variables a_inputs a_outputs a_timerDone a_timerElapsed a_counterValue a_counterDone a_edgeDone) a_row) (q + 1) = 0 then 1 else if (cc_vl T n (cc_lf a_variables a_inputs a_outputs a_timerDone a_timerElapsed a_counterValue a_counterDone a_edgeDone) a_row) (q + 1) = 1 then 2 else 3) < cc_ar (T q) ∧ cc_ts (T q) (if (cc_vl T n (cc_lf a_variables a_inputs a_outputs a_timerDone a_timerElapsed a_counterValue a_counterDone a_edgeDone) a_row) (q + 1) = 0 then 1 else if (cc_vl T n (cc_lf a_variables a_inputs a_outputs a_timerDone a_timerElapsed a_counterValue a_counterDone a_edgeDone) a_row) (q + 1) = 1 then 2 else 3) = true := by
    rw [ht]
    split
    · exact ⟨by decide, rfl⟩
    · split
      · exact ⟨by decide, rfl⟩
      · exact ⟨by decide, rfl⟩
  have hws := cc_wt_ch w hq hk.1 0 l L
  refine cc_G_w (a_variables_2 := a_variables) (a_row_2 := a_row) (a_outputs_2 := a_outputs) (a_timerOn_2 := a_timerOn) (a_timerBegin_2 := a_timerBegin) (a_timerElapsed_2 := a_timerElapsed) (a_timerDone_2 := a_timerDone) (a_counterLast_2 := a_counterLast) (a_counterValue_2 := a_counterValue) (a_counterDone_2 := a_counterDone) (a_edgeLast_2 := a_edgeLast) (a_edgeDone_2 := a_edgeDone) (L' := ((cc_nx T (if (cc_vl T n (cc_lf a_variables a_inputs a_outputs a_timerDone a_timerElapsed a_counterValue a_counterDone a_edgeDone) a_row) (q + 1) = 0 then 1 else if (cc_vl T n (cc_lf a_variables a_inputs a_outputs a_timerDone a_timerElapsed a_counterValue a_counterDone a_edgeDone) a_row) (q + 1) = 1 then 2 else 3) (q + 1), 0, 0) :: L)) CX CY hq hlen (fun P w0 pp pr pl hxs hP => ?_) (fun P num tk ta tr tl hys hP => ?_) (ih ((cc_nx T (if (cc_vl T n (cc_lf a_variables a_inputs a_outputs a_timerDone a_timerElapsed a_counterValue a_counterDone a_edgeDone) a_row) (q + 1) = 0 then 1 else if (cc_vl T n (cc_lf a_variables a_inputs a_outputs a_timerDone a_timerElapsed a_counterValue a_counterDone a_edgeDone) a_row) (q + 1) = 1 then 2 else 3) (q + 1), 0, 0) :: L) R a_variables a_row a_outputs a_timerOn a_timerBegin a_timerElapsed a_timerDone a_counterLast a_counterValue a_counterDone a_edgeLast a_edgeDone ⟨_, _, cc_so_w w hso hlo hq hhi hk.1 hk.2 0⟩ hn1 hR hb01 (by omega))
  · exact ⟨fun hz => absurd hz hsp, fun _ => cc_xo56 CX hq ht hlen hxs hP⟩
  · exact cc_ys_cho CY hq ht hlen hys hP

theorem cc_m_for {a_variables a_row a_outputs a_timerOn a_timerBegin a_timerElapsed a_timerDone a_counterLast a_counterValue a_counterDone a_edgeLast a_edgeDone : Nat → Int32} {ν q R : Nat} {l : Int32} {L : List (Nat × Nat × Int32)} {lo hi : Nat} (CX : cc_XC T n a a_tokens a_ends) (CY : cc_YC T n a b_tokens b_ends)
    (ih : ∀ (L : List (Nat × Nat × Int32)) (R : Nat) (a_variables a_row a_outputs a_timerOn a_timerBegin a_timerElapsed a_timerDone a_counterLast a_counterValue a_counterDone a_edgeLast a_edgeDone : Nat → Int32), (∃ lo hi, cc_so T n L lo hi) → cc_n1 L.tail → R ≤ 300 → cc_b01 a_timerOn → (300 - R) * 121 + cc_wt T L ≤ ν → cc_G T n a f_time f_running f_open a_inputs a_tokens a_lengths a_ends b_sizes b_tokens b_ends b_wants ν L R a_variables a_row a_outputs a_timerOn a_timerBegin a_timerElapsed a_timerDone a_counterLast a_counterValue a_counterDone a_edgeLast a_edgeDone)
    (hso : cc_so T n L lo hi) (hlo : lo ≤ q) (hq : q < n) (hhi : cc_en T q ≤ hi) (hst : cc_st (T q) = true) (hlen : L.length ≤ 59) (hn1 : cc_n1 L) (hR : R ≤ 300) (hb01 : cc_b01 a_timerOn)
    (hm : (300 - R) * 121 + cc_wt T ((q, 0, l) :: L) ≤ ν + 1) (h1 : 40 ≤ T q) (h2 : T q ≤ 55) : cc_G T n a f_time f_running f_open a_inputs a_tokens a_lengths a_ends b_sizes b_tokens b_ends b_wants (ν + 1) ((q, 0, l) :: L) R a_variables a_row a_outputs a_timerOn a_timerBegin a_timerElapsed a_timerDone a_counterLast a_counterValue a_counterDone a_edgeLast a_edgeDone := by
  have w := CX.1
  have hgt := cc_en_gt w hq
  have hmm : (300 - R) * 121 + (2 * (cc_en T q - q) + cc_wt T L) ≤ ν + 1 := hm
  have hsp : cc_sp (T q) ≠ 0 := by
    unfold cc_sp
    repeat' split
    all_goals omega
  have hws : (300 - R) * 121 + (1 + cc_wt T L) ≤ ν := by omega
  refine cc_G_w (a_variables_2 := upd a_variables (T q - 40) ((cc_vl T n (cc_lf a_variables a_inputs a_outputs a_timerDone a_timerElapsed a_counterValue a_counterDone a_edgeDone) a_row) (q + 1))) (a_row_2 := a_row) (a_outputs_2 := a_outputs) (a_timerOn_2 := a_timerOn) (a_timerBegin_2 := a_timerBegin) (a_timerElapsed_2 := a_timerElapsed) (a_timerDone_2 := a_timerDone) (a_counterLast_2 := a_counterLast) (a_counterValue_2 := a_counterValue) (a_counterDone_2 := a_counterDone) (a_edgeLast_2 := a_edgeLast) (a_edgeDone_2 := a_edgeDone) (L' := ((q, 1, (cc_vl T n (cc_lf a_variables a_inputs a_outputs a_timerDone a_timerElapsed a_counterValue a_counterDone a_edgeDone) a_row) (cc_en T (q + 1))) :: L)) CX CY hq hlen (fun P w0 pp pr pl hxs hP => ?_) (fun P num tk ta tr tl hys hP => ?_) (ih ((q, 1, (cc_vl T n (cc_lf a_variables a_inputs a_outputs a_timerDone a_timerElapsed a_counterValue a_counterDone a_edgeDone) a_row) (cc_en T (q + 1))) :: L) R (upd a_variables (T q - 40) ((cc_vl T n (cc_lf a_variables a_inputs a_outputs a_timerDone a_timerElapsed a_counterValue a_counterDone a_edgeDone) a_row) (q + 1))) a_row a_outputs a_timerOn a_timerBegin a_timerElapsed a_timerDone a_counterLast a_counterValue a_counterDone a_edgeLast a_edgeDone ⟨_, _, cc_so_l hso hlo hq hhi hst (Or.inr (Or.inr ⟨h1, h2⟩)) (by omega) (by omega) _⟩ hn1 hR hb01 hws)
  · exact ⟨fun hz => absurd hz hsp, fun _ => cc_xo40 CX hq h1 h2 hlen hxs hP⟩
  · exact cc_ys_for CY hq h1 h2 hlen hys hP

theorem cc_m_whi {a_variables a_row a_outputs a_timerOn a_timerBegin a_timerElapsed a_timerDone a_counterLast a_counterValue a_counterDone a_edgeLast a_edgeDone : Nat → Int32} {ν q R : Nat} {l : Int32} {L : List (Nat × Nat × Int32)} {lo hi : Nat} (CX : cc_XC T n a a_tokens a_ends) (CY : cc_YC T n a b_tokens b_ends)
    (ih : ∀ (L : List (Nat × Nat × Int32)) (R : Nat) (a_variables a_row a_outputs a_timerOn a_timerBegin a_timerElapsed a_timerDone a_counterLast a_counterValue a_counterDone a_edgeLast a_edgeDone : Nat → Int32), (∃ lo hi, cc_so T n L lo hi) → cc_n1 L.tail → R ≤ 300 → cc_b01 a_timerOn → (300 - R) * 121 + cc_wt T L ≤ ν → cc_G T n a f_time f_running f_open a_inputs a_tokens a_lengths a_ends b_sizes b_tokens b_ends b_wants ν L R a_variables a_row a_outputs a_timerOn a_timerBegin a_timerElapsed a_timerDone a_counterLast a_counterValue a_counterDone a_edgeLast a_edgeDone)
    (hso : cc_so T n L lo hi) (hlo : lo ≤ q) (hq : q < n) (hhi : cc_en T q ≤ hi) (hst : cc_st (T q) = true) (hlen : L.length ≤ 59) (hn1 : cc_n1 L) (hR : R ≤ 300) (hb01 : cc_b01 a_timerOn)
    (hm : (300 - R) * 121 + cc_wt T ((q, 0, l) :: L) ≤ ν + 1) (ht : T q = 36 ∨ T q = 37) : cc_G T n a f_time f_running f_open a_inputs a_tokens a_lengths a_ends b_sizes b_tokens b_ends b_wants (ν + 1) ((q, 0, l) :: L) R a_variables a_row a_outputs a_timerOn a_timerBegin a_timerElapsed a_timerDone a_counterLast a_counterValue a_counterDone a_edgeLast a_edgeDone := by
  have w := CX.1
  have hgt := cc_en_gt w hq
  have hmm : (300 - R) * 121 + (2 * (cc_en T q - q) + cc_wt T L) ≤ ν + 1 := hm
  have hsp : cc_sp (T q) ≠ 0 := by
    unfold cc_sp
    repeat' split
    all_goals omega
  have hws : (300 - R) * 121 + (1 + cc_wt T L) ≤ ν := by omega
  refine cc_G_w (a_variables_2 := a_variables) (a_row_2 := a_row) (a_outputs_2 := a_outputs) (a_timerOn_2 := a_timerOn) (a_timerBegin_2 := a_timerBegin) (a_timerElapsed_2 := a_timerElapsed) (a_timerDone_2 := a_timerDone) (a_counterLast_2 := a_counterLast) (a_counterValue_2 := a_counterValue) (a_counterDone_2 := a_counterDone) (a_edgeLast_2 := a_edgeLast) (a_edgeDone_2 := a_edgeDone) (L' := ((q, 1, 0) :: L)) CX CY hq hlen (fun P w0 pp pr pl hxs hP => ?_) (fun P num tk ta tr tl hys hP => ?_) (ih ((q, 1, 0) :: L) R a_variables a_row a_outputs a_timerOn a_timerBegin a_timerElapsed a_timerDone a_counterLast a_counterValue a_counterDone a_edgeLast a_edgeDone ⟨_, _, cc_so_l hso hlo hq hhi hst (ht.elim Or.inl (fun z => Or.inr (Or.inl z))) (by omega) (by omega) _⟩ hn1 hR hb01 hws)
  · exact ⟨fun hz => absurd hz hsp, fun _ => cc_xoL CX hq ht hlen hxs hP⟩
  · exact cc_ys_whi CY hq ht hlen hys hP

theorem cc_main (CX : cc_XC T n a a_tokens a_ends) (CY : cc_YC T n a b_tokens b_ends) :
    ∀ (μ : Nat) (L : List (Nat × Nat × Int32)) (R : Nat) (a_variables a_row a_outputs a_timerOn a_timerBegin a_timerElapsed a_timerDone a_counterLast a_counterValue a_counterDone a_edgeLast a_edgeDone : Nat → Int32), (∃ lo hi, cc_so T n L lo hi) → cc_n1 L.tail → R ≤ 300 → cc_b01 a_timerOn → (300 - R) * 121 + cc_wt T L ≤ μ →
      cc_G T n a f_time f_running f_open a_inputs a_tokens a_lengths a_ends b_sizes b_tokens b_ends b_wants μ L R a_variables a_row a_outputs a_timerOn a_timerBegin a_timerElapsed a_timerDone a_counterLast a_counterValue a_counterDone a_edgeLast a_edgeDone := by
  have w := CX.1
  intro μ
  induction μ with
  | zero =>
    intro L R a_variables a_row a_outputs a_timerOn a_timerBegin a_timerElapsed a_timerDone a_counterLast a_counterValue a_counterDone a_edgeLast a_edgeDone hso hn1 hR hb01 hm
    cases L with
    | nil => exact cc_G_nil hb01
    | cons e L =>
      exfalso
      obtain ⟨lo, hi, lo', hi', h1, h2, h3, h4, h5, h6, h7⟩ := hso
      have hgt := cc_en_gt w h3
      simp only [cc_wt] at hm
      split at hm
      · omega
      · omega
  | succ ν ih =>
    intro L R a_variables a_row a_outputs a_timerOn a_timerBegin a_timerElapsed a_timerDone a_counterLast a_counterValue a_counterDone a_edgeLast a_edgeDone hso hn1 hR hb01 hm
    cases L with
    | nil => exact cc_G_nil hb01
    | cons e L =>
      obtain ⟨q, c, l⟩ := e
      obtain ⟨lo, hi, hso0⟩ := hso
      have hle := cc_so_len w hso0
      obtain ⟨lo', hi', hso, hlo, hq, hhi, hst, hc21, hor⟩ := hso0
      have hlo : lo' ≤ q := hlo
      have hq : q < n := hq
      have hhi : cc_en T q ≤ hi' := hhi
      have hst : cc_st (T q) = true := hst
      have hc21 : c ≤ 21 := hc21
      have hn1 : cc_n1 L := hn1
      have hn := w.2.2
      have hlen : L.length ≤ 59 := by
        have := hle.2.2
        simp only [List.length_cons] at this
        omega
      by_cases hc0 : c = 0
      · subst hc0
        have hr := cc_st_r (t := T q) hst
        by_cases t1 : T q = 1
        · exact cc_m_seq CX CY ih hso hlo hq hhi hst hlen hn1 hR hb01 hm t1
        by_cases t2 : T q = 2
        · exact cc_m_two CX CY ih hso hlo hq hhi hst hlen hn1 hR hb01 hm t2
        by_cases t3 : 10 ≤ T q ∧ T q ≤ 25
        · exact cc_m_set CX CY ih hso hlo hq hhi hst hlen hn1 hR hb01 hm t3.1 t3.2
        by_cases t4 : 30 ≤ T q ∧ T q ≤ 33
        · exact cc_m_out CX CY ih hso hlo hq hhi hst hlen hn1 hR hb01 hm t4.1 t4.2
        by_cases t5 : T q = 34
        · exact cc_m_cel CX CY ih hso hlo hq hhi hst hlen hn1 hR hb01 hm t5
        by_cases t6 : T q = 35
        · exact cc_m_if CX CY ih hso hlo hq hhi hst hlen hn1 hR hb01 hm t6
        by_cases t7 : T q = 36 ∨ T q = 37
        · exact cc_m_whi CX CY ih hso hlo hq hhi hst hlen hn1 hR hb01 hm t7
        by_cases t8 : T q = 39
        · exact cc_m_lea CX CY ih hso hlo hq hhi hst hlen hn1 hR hb01 hm t8
        by_cases t9 : 40 ≤ T q ∧ T q ≤ 55
        · exact cc_m_for CX CY ih hso hlo hq hhi hst hlen hn1 hR hb01 hm t9.1 t9.2
        by_cases t10 : T q = 56
        · exact cc_m_cho CX CY ih hso hlo hq hhi hst hlen hn1 hR hb01 hm t10
        by_cases t11 : 60 ≤ T q ∧ T q ≤ 62
        · exact cc_m_tim CX CY ih hso hlo hq hhi hst hlen hn1 hR hb01 hm t11.1 t11.2
        by_cases t12 : 63 ≤ T q ∧ T q ≤ 65
        · exact cc_m_cnt CX CY ih hso hlo hq hhi hst hlen hn1 hR hb01 hm t12.1 t12.2
        exact cc_m_edg CX CY ih hso hlo hq hhi hst hlen hn1 hR hb01 hm (by omega) (by omega)
      · have hl : cc_lp (T q) := by
          rcases hor with ⟨z, _⟩ | ⟨_, _, _, z⟩
          · exact absurd z hc0
          · exact z
        have hmm : (300 - R) * 121 + (1 + cc_wt T L) ≤ ν + 1 := by
          simp only [cc_wt] at hm
          rw [if_neg hc0] at hm
          exact hm
        have hwb := cc_wt_b w hq hl
        have mnil : ∀ R', R' = 300 → (300 - R') * 121 + cc_wt T [] ≤ ν := by
          intro R' z
          rw [z]
          simp [cc_wt]
        have mgo : ∀ c' : Nat, R < 300 → (300 - (R + 1)) * 121 + cc_wt T ((cc_bd T q, 0, 0) :: (q, c' + 1, l) :: L) ≤ ν := by
          intro c' z
          have e : cc_wt T ((cc_bd T q, 0, 0) :: (q, c' + 1, l) :: L) = 2 * (cc_en T (cc_bd T q) - cc_bd T q) + (1 + cc_wt T L) := rfl
          rw [e]
          omega
        by_cases hc1 : c = 1
        · subst hc1
          refine cc_G_1 CX CY hq hl hlen hR (fun z => ?_) (fun z y => ?_) (fun z y => ?_)
          · exact ih [] R a_variables a_row a_outputs a_timerOn a_timerBegin a_timerElapsed a_timerDone a_counterLast a_counterValue a_counterDone a_edgeLast a_edgeDone ⟨0, n, rfl, rfl⟩ (fun x hx => by cases hx) hR hb01 (mnil R z)
          · exact ih L (R + 1) a_variables a_row a_outputs a_timerOn a_timerBegin a_timerElapsed a_timerDone a_counterLast a_counterValue a_counterDone a_edgeLast a_edgeDone ⟨_, _, hso⟩ (cc_n1_tail hn1) (by omega) hb01 (by omega)
          · exact ih _ (R + 1) a_variables a_row a_outputs a_timerOn a_timerBegin a_timerElapsed a_timerDone a_counterLast a_counterValue a_counterDone a_edgeLast a_edgeDone (cc_so_b w hso hlo hq hhi hst hl (by omega) (by omega)) (cc_n1_cons hn1 (by show (2 : Nat) ≠ 1; omega)) (by omega) hb01 (mgo 1 z)
        · refine cc_G_2 CX CY hq hl hlen hR (by omega) hc21 (fun z => ?_) (fun _ z => ?_) (fun _ z y => ?_) (fun x z y => ?_)
          · exact ih L R _ _ _ _ _ _ _ _ _ _ _ _ ⟨_, _, hso⟩ (cc_n1_tail hn1) hR hb01 (by omega)
          · exact ih [] R _ _ _ _ _ _ _ _ _ _ _ _ ⟨0, n, rfl, rfl⟩ (fun x hx => by cases hx) hR hb01 (mnil R z)
          · exact ih L (R + 1) _ _ _ _ _ _ _ _ _ _ _ _ ⟨_, _, hso⟩ (cc_n1_tail hn1) (by omega) hb01 (by omega)
          · have hc20 : c ≤ 20 := by
              by_cases e : c = 21
              · exact absurd (Or.inr e) x
              · omega
            exact ih _ (R + 1) _ _ _ _ _ _ _ _ _ _ _ _ (cc_so_b w hso hlo hq hhi hst hl (by omega) (by omega)) (cc_n1_cons hn1 (by show c + 1 ≠ 1; omega)) (by omega) hb01 (mgo c z)
end
