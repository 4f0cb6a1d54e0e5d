section
variable {f_time f_running f_open : Int32} {a_inputs b_sizes b_tokens b_ends b_wants : Nat → Int32} {a_variables a_row a_outputs a_timerOn a_timerBegin a_timerElapsed a_timerDone a_counterLast a_counterValue a_counterDone a_edgeLast a_edgeDone : Nat → Int32} {a_variables_2 a_row_2 a_outputs_2 a_timerOn_2 a_timerBegin_2 a_timerElapsed_2 a_timerDone_2 a_counterLast_2 a_counterValue_2 a_counterDone_2 a_edgeLast_2 a_edgeDone_2 : Nat → Int32}
theorem cc_ky_w {post : SY → Prop} {T : Nat → Nat} {n a q m R : Nat} {l : Int32} {L L' : List (Nat × Nat × Int32)} (C : cc_YC T n a b_tokens b_ends) (hq : q < n) (hlen : L.length ≤ 59)
    (hstep : ∀ (P : SY → Prop) (num tk ta tr tl : Nat → Int32), cc_ys a tk ta tr tl L →
      (∀ num' tk' ta' tr' tl' : Nat → Int32, cc_ys a tk' ta' tr' tl' L' → P (f_time, nI a, f_running, f_open, 0, nI L'.length, nI R, a_variables_2, a_row_2, a_inputs, a_outputs_2, a_timerOn_2, a_timerBegin_2, a_timerElapsed_2, a_timerDone_2, a_counterLast_2, a_counterValue_2, a_counterDone_2, a_edgeLast_2, a_edgeDone_2, b_sizes, b_tokens, b_ends, b_wants, num', tk', ta', tr', tl')) →
      wpY_statement P (f_time, nI a, f_running, f_open, 0, nI L.length, nI R, a_variables, a_row, a_inputs, a_outputs, a_timerOn, a_timerBegin, a_timerElapsed, a_timerDone, a_counterLast, a_counterValue, a_counterDone, a_edgeLast, a_edgeDone, b_sizes, b_tokens, b_ends, b_wants, num, tk, ta, tr, tl) (nI (60 * a + q)))
    (hK : cc_KY post a f_time f_running f_open a_inputs b_sizes b_tokens b_ends b_wants m L' R a_variables_2 a_row_2 a_outputs_2 a_timerOn_2 a_timerBegin_2 a_timerElapsed_2 a_timerDone_2 a_counterLast_2 a_counterValue_2 a_counterDone_2 a_edgeLast_2 a_edgeDone_2) : cc_KY post a f_time f_running f_open a_inputs b_sizes b_tokens b_ends b_wants (m + 1) ((q, 0, l) :: L) R a_variables a_row a_outputs a_timerOn a_timerBegin a_timerElapsed a_timerDone a_counterLast a_counterValue a_counterDone a_edgeLast a_edgeDone := by
  intro a_numbers a_taskKind a_taskAt a_taskRounds a_taskLimit hys
  have hst := hstep (fun u => match u with | (f_time_9, f_active_9, f_running_9, f_open_9, f_depth_9, f_tasks_9, f_begun_9, a_variables_9, a_cells_9, a_inputs_9, a_outputs_9, a_timerOn_9, a_timerBegin_9, a_timerElapsed_9, a_timerDone_9, a_counterLast_9, a_counterValue_9, a_counterDone_9, a_edgeLast_9, a_edgeDone_9, a_sizes_9, a_tokens_9, a_ends_9, a_wants_9, a_numbers_9, a_taskKind_9, a_taskAt_9, a_taskRounds_9, a_taskLimit_9) => wY_carryOut_31 post m f_time_9 f_active_9 f_running_9 f_open_9 f_depth_9 f_tasks_9 f_begun_9 a_variables_9 a_cells_9 a_inputs_9 a_outputs_9 a_timerOn_9 a_timerBegin_9 a_timerElapsed_9 a_timerDone_9 a_counterLast_9 a_counterValue_9 a_counterDone_9 a_edgeLast_9 a_edgeDone_9 a_sizes_9 a_tokens_9 a_ends_9 a_wants_9 a_numbers_9 a_taskKind_9 a_taskAt_9 a_taskRounds_9 a_taskLimit_9) a_numbers a_taskKind a_taskAt a_taskRounds a_taskLimit hys.2.2.2.2
    (fun num' tk' ta' tr' tl' hy' => hK num' tk' ta' tr' tl' hy')
  have hv : vp_in (nI L.length) 256 := vp_in_nI (by omega) (by omega)
  have hc : (nI L.length).toNatClampNeg = L.length := nI_clamp (by omega)
  refine br_f (cc_nle (L.length + 1) 0 (by omega)) ?_
  refine nm_r (e' := nI L.length) (nI_pred L.length) ⟨hv, ?_⟩
  refine nm_r (e' := 0) (by rw [hc]; exact hys.1) ⟨hv, ?_⟩
  refine nm_r (e' := nI (60 * a + q)) (by rw [hc]; exact hys.2.1) ⟨hv, ?_⟩
  refine nm_e ⟨hv, ?_⟩
  refine nm_e ?_
  refine br_t rfl ?_
  exact hst

theorem cc_kyb {post : SY → Prop} {T : Nat → Nat} {n a q r m R : Nat} {lim : Int32} {L : List (Nat × Nat × Int32)} {a_numbers a_taskKind a_taskAt a_taskRounds a_taskLimit : Nat → Int32}
    (C : cc_YC T n a b_tokens b_ends) (hq : q < n) (hl : cc_lp (T q)) (hlen : L.length ≤ 59) (hR : R ≤ 300)
    (g1 : a_taskKind L.length = 1) (g2 : a_taskAt L.length = nI (60 * a + q)) (g3 : a_taskRounds L.length = nI r) (g4 : a_taskLimit L.length = lim) (hys : cc_ys a a_taskKind a_taskAt a_taskRounds a_taskLimit L)
    (h2 : R = 300 → cc_KY post a f_time f_running f_open a_inputs b_sizes b_tokens b_ends b_wants m [] R a_variables a_row a_outputs a_timerOn a_timerBegin a_timerElapsed a_timerDone a_counterLast a_counterValue a_counterDone a_edgeLast a_edgeDone)
    (h3 : R < 300 → cc_gob (T q) lim a_variables ((cc_vl T n (cc_lf a_variables a_inputs a_outputs a_timerDone a_timerElapsed a_counterValue a_counterDone a_edgeDone) a_row) (q + 1)) = false → cc_KY post a f_time f_running f_open a_inputs b_sizes b_tokens b_ends b_wants m L (R + 1) a_variables a_row a_outputs a_timerOn a_timerBegin a_timerElapsed a_timerDone a_counterLast a_counterValue a_counterDone a_edgeLast a_edgeDone)
    (h4 : R < 300 → cc_gob (T q) lim a_variables ((cc_vl T n (cc_lf a_variables a_inputs a_outputs a_timerDone a_timerElapsed a_counterValue a_counterDone a_edgeDone) a_row) (q + 1)) = true → cc_KY post a f_time f_running f_open a_inputs b_sizes b_tokens b_ends b_wants m ((cc_bd T q, 0, 0) :: (q, r + 2, lim) :: L) (R + 1) a_variables a_row a_outputs a_timerOn a_timerBegin a_timerElapsed a_timerDone a_counterLast a_counterValue a_counterDone a_edgeLast a_edgeDone) :
    wY_carryOut_31 post (m + 1) f_time (nI a) f_running f_open 0 (nI (L.length + 1)) (nI R) a_variables a_row a_inputs a_outputs a_timerOn a_timerBegin a_timerElapsed a_timerDone a_counterLast a_counterValue a_counterDone a_edgeLast a_edgeDone b_sizes b_tokens b_ends b_wants a_numbers a_taskKind a_taskAt a_taskRounds a_taskLimit := by
  have hv : vp_in (nI L.length) 256 := vp_in_nI (by omega) (by omega)
  have hc : (nI L.length).toNatClampNeg = L.length := nI_clamp (by omega)
  refine br_f (cc_nle (L.length + 1) 0 (by omega)) ?_
  refine nm_r (e' := nI L.length) (nI_pred L.length) ⟨hv, ?_⟩
  refine nm_r (e' := 1) (by rw [hc]; exact g1) ⟨hv, ?_⟩
  refine nm_r (e' := nI (60 * a + q)) (by rw [hc]; exact g2) ⟨hv, ?_⟩
  refine nm_r (e' := nI r) (by rw [hc]; exact g3) ⟨hv, ?_⟩
  refine nm_r (e' := lim) (by rw [hc]; exact g4) ?_
  refine br_f cc_n10 (br_t rfl ?_)
  refine cc_ybr C hq hl hlen hR (fun z => ?_) (fun z y num => ?_) (fun z y num => ?_)
  · exact h2 z _ _ _ _ _ trivial
  · exact h3 z y _ _ _ _ _ hys
  · exact h4 z y _ _ _ _ _ (cc_ys_push0 (L := (q, r + 2, lim) :: L) _ _ (cc_ys_push q (r + 2) lim hys))

theorem cc_ky_1 {post : SY → Prop} {T : Nat → Nat} {n a q m R : Nat} {lim : Int32} {L : List (Nat × Nat × Int32)}
    (C : cc_YC T n a b_tokens b_ends) (hq : q < n) (hl : cc_lp (T q)) (hlen : L.length ≤ 59) (hR : R ≤ 300)
    (h2 : R = 300 → cc_KY post a f_time f_running f_open a_inputs b_sizes b_tokens b_ends b_wants m [] R a_variables a_row a_outputs a_timerOn a_timerBegin a_timerElapsed a_timerDone a_counterLast a_counterValue a_counterDone a_edgeLast a_edgeDone)
    (h3 : R < 300 → cc_gob (T q) lim a_variables ((cc_vl T n (cc_lf a_variables a_inputs a_outputs a_timerDone a_timerElapsed a_counterValue a_counterDone a_edgeDone) a_row) (q + 1)) = false → cc_KY post a f_time f_running f_open a_inputs b_sizes b_tokens b_ends b_wants m L (R + 1) a_variables a_row a_outputs a_timerOn a_timerBegin a_timerElapsed a_timerDone a_counterLast a_counterValue a_counterDone a_edgeLast a_edgeDone)
    (h4 : R < 300 → cc_gob (T q) lim a_variables ((cc_vl T n (cc_lf a_variables a_inputs a_outputs a_timerDone a_timerElapsed a_counterValue a_counterDone a_edgeDone) a_row) (q + 1)) = true → cc_KY post a f_time f_running f_open a_inputs b_sizes b_tokens b_ends b_wants m ((cc_bd T q, 0, 0) :: (q, 2, lim) :: L) (R + 1) a_variables a_row a_outputs a_timerOn a_timerBegin a_timerElapsed a_timerDone a_counterLast a_counterValue a_counterDone a_edgeLast a_edgeDone) :
    cc_KY post a f_time f_running f_open a_inputs b_sizes b_tokens b_ends b_wants (m + 1) ((q, 1, lim) :: L) R a_variables a_row a_outputs a_timerOn a_timerBegin a_timerElapsed a_timerDone a_counterLast a_counterValue a_counterDone a_edgeLast a_edgeDone := by
  intro a_numbers a_taskKind a_taskAt a_taskRounds a_taskLimit hys
  exact cc_kyb (r := 0) C hq hl hlen hR hys.1 hys.2.1 hys.2.2.1 hys.2.2.2.1 hys.2.2.2.2 h2 h3 h4

theorem cc_ky_2 {post : SY → Prop} {T : Nat → Nat} {n a q c m R : Nat} {lim : Int32} {L : List (Nat × Nat × Int32)}
    (C : cc_YC T n a b_tokens b_ends) (hq : q < n) (hl : cc_lp (T q)) (hlen : L.length ≤ 59) (hR : R ≤ 300) (hc2 : 2 ≤ c) (hc21 : c ≤ 21)
    (h1 : (cc_ovb (T q) ((cc_vl T n (cc_lf a_variables a_inputs a_outputs a_timerDone a_timerElapsed a_counterValue a_counterDone a_edgeDone) a_row) (cc_en T (q + 1))) = true ∨ c = 21) → cc_KY post a f_time f_running f_open a_inputs b_sizes b_tokens b_ends b_wants (m + 1) L R (cc_cl (T q) a_variables) a_row a_outputs a_timerOn a_timerBegin a_timerElapsed a_timerDone a_counterLast a_counterValue a_counterDone a_edgeLast a_edgeDone)
    (h2 : ¬ (cc_ovb (T q) ((cc_vl T n (cc_lf a_variables a_inputs a_outputs a_timerDone a_timerElapsed a_counterValue a_counterDone a_edgeDone) a_row) (cc_en T (q + 1))) = true ∨ c = 21) → R = 300 → cc_KY post a f_time f_running f_open a_inputs b_sizes b_tokens b_ends b_wants m [] R (cc_cl (T q) a_variables) a_row a_outputs a_timerOn a_timerBegin a_timerElapsed a_timerDone a_counterLast a_counterValue a_counterDone a_edgeLast a_edgeDone)
    (h3 : ¬ (cc_ovb (T q) ((cc_vl T n (cc_lf a_variables a_inputs a_outputs a_timerDone a_timerElapsed a_counterValue a_counterDone a_edgeDone) a_row) (cc_en T (q + 1))) = true ∨ c = 21) → R < 300 → cc_gob (T q) lim (cc_cl (T q) a_variables) ((cc_vl T n (cc_lf (cc_cl (T q) a_variables) a_inputs a_outputs a_timerDone a_timerElapsed a_counterValue a_counterDone a_edgeDone) a_row) (q + 1)) = false → cc_KY post a f_time f_running f_open a_inputs b_sizes b_tokens b_ends b_wants m L (R + 1) (cc_cl (T q) a_variables) a_row a_outputs a_timerOn a_timerBegin a_timerElapsed a_timerDone a_counterLast a_counterValue a_counterDone a_edgeLast a_edgeDone)
    (h4 : ¬ (cc_ovb (T q) ((cc_vl T n (cc_lf a_variables a_inputs a_outputs a_timerDone a_timerElapsed a_counterValue a_counterDone a_edgeDone) a_row) (cc_en T (q + 1))) = true ∨ c = 21) → R < 300 → cc_gob (T q) lim (cc_cl (T q) a_variables) ((cc_vl T n (cc_lf (cc_cl (T q) a_variables) a_inputs a_outputs a_timerDone a_timerElapsed a_counterValue a_counterDone a_edgeDone) a_row) (q + 1)) = true → cc_KY post a f_time f_running f_open a_inputs b_sizes b_tokens b_ends b_wants m ((cc_bd T q, 0, 0) :: (q, c + 1, lim) :: L) (R + 1) (cc_cl (T q) a_variables) a_row a_outputs a_timerOn a_timerBegin a_timerElapsed a_timerDone a_counterLast a_counterValue a_counterDone a_edgeLast a_edgeDone) :
    cc_KY post a f_time f_running f_open a_inputs b_sizes b_tokens b_ends b_wants (m + 1 + 1) ((q, c, lim) :: L) R a_variables a_row a_outputs a_timerOn a_timerBegin a_timerElapsed a_timerDone a_counterLast a_counterValue a_counterDone a_edgeLast a_edgeDone := by
  intro a_numbers a_taskKind a_taskAt a_taskRounds a_taskLimit hys
  have hv : vp_in (nI L.length) 256 := vp_in_nI (by omega) (by omega)
  have hc : (nI L.length).toNatClampNeg = L.length := nI_clamp (by omega)
  have hk : a_taskKind L.length = 2 := hys.1.trans (by unfold cc_yk; rw [if_neg (by show ¬ c = 0; omega), if_neg (by show ¬ c = 1; omega)])
  have e19 : ∀ A : Prop, (A ∨ c - 2 = 19) ↔ (A ∨ c = 21) := by
    intro A
    constructor
    · intro z
      rcases z with z | z
      · exact Or.inl z
      · exact Or.inr (by omega)
    · intro z
      rcases z with z | z
      · exact Or.inl z
      · exact Or.inr (by omega)
  refine br_f (cc_nle (L.length + 1) 0 (by omega)) ?_
  refine nm_r (e' := nI L.length) (nI_pred L.length) ⟨hv, ?_⟩
  refine nm_r (e' := 2) (by rw [hc]; exact hk) ⟨hv, ?_⟩
  refine nm_r (e' := nI (60 * a + q)) (by rw [hc]; exact hys.2.1) ⟨hv, ?_⟩
  refine nm_r (e' := nI (c - 2)) (by rw [hc]; exact hys.2.2.1) ⟨hv, ?_⟩
  refine nm_r (e' := lim) (by rw [hc]; exact hys.2.2.2.1) ?_
  refine br_f (by decide) (br_f (by decide) ?_)
  refine cc_yer (r := c - 2) C hq hl hlen (by omega) (fun z num => ?_) (fun z num => ?_)
  · exact h1 ((e19 _).mp z) _ _ _ _ _ hys.2.2.2.2
  · have z' := fun y => z ((e19 _).mpr y)
    refine cc_kyb (r := c - 2 + 1) C hq hl hlen hR (cc_u_s _ _ _) (cc_u_s _ _ _) (cc_u_s _ _ _) (cc_u_s _ _ _) (cc_ys_upd (Nat.le_refl _) hys.2.2.2.2) (h2 z') (h3 z') ?_
    rw [show c - 2 + 1 + 2 = c + 1 by omega]
    exact h4 z'
end
