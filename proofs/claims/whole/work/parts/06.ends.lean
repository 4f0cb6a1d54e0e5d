def cc_eb (e : Nat → Int32) : Prop := ∀ j, j < 61 → ∃ k, k ≤ 60 ∧ e j = nI k

theorem cc_eb_upd {e : Nat → Int32} {i k : Nat} (h : cc_eb e) (hk : k ≤ 60) : cc_eb (upd e i (nI k)) := by
  intro j hj
  by_cases z : j = i
  · rw [z, cc_u_s]; exact ⟨k, hk, rfl⟩
  · rw [cc_u_n z]; exact h j hj

theorem cc_pm {q : Nat} (h : q < 1000) : nI q + (-1) < nI q := by
  cases q with
  | zero => decide
  | succ q => rw [pk_m1]; exact nI_lt (by omega) (by omega)

section
variable {f_time f_active f_running f_pending f_roundsBegun : Int32} {a_variables a_row a_inputs a_outputs a_timerOn a_timerBegin a_timerElapsed a_timerDone a_counterLast a_counterValue a_counterDone a_edgeLast a_edgeDone a_tokens a_lengths a_ends a_worths a_pendingPlaces a_pendingRounds a_pendingLimits : Nat → Int32}
theorem cc_xat {post : Int32 → Prop} {T : Nat → Nat} {n a i : Nat} (ha : a < 2) (hn : n ≤ 60) (hi : i < n)
    (htok : ∀ i, i < n → a_tokens (a * 61 + i) = nI (T i)) (h : post (nI (T i))) : wpX_activeToken post (f_time, nI a, f_running, f_pending, f_roundsBegun, a_variables, a_row, a_inputs, a_outputs, a_timerOn, a_timerBegin, a_timerElapsed, a_timerDone, a_counterLast, a_counterValue, a_counterDone, a_edgeLast, a_edgeDone, a_tokens, a_lengths, a_ends, a_worths, a_pendingPlaces, a_pendingRounds, a_pendingLimits) (nI i) := by
  unfold wpX_activeToken
  dsimp only
  rw [cc_a61]
  refine ⟨vp_in_nI (by omega) (by omega), ?_⟩
  rw [nI_clamp (by omega), htok i hi]
  exact h

theorem cc_xfi {post : SX → Prop} {J : Int32 → (Nat → Int32) → (Nat → Int32) → (Nat → Int32) → (Nat → Int32) → (Nat → Int32) → (Nat → Int32) → (Nat → Int32) → (Nat → Int32) → (Nat → Int32) → (Nat → Int32) → (Nat → Int32) → (Nat → Int32) → (Nat → Int32) → (Nat → Int32) → (Nat → Int32) → (Nat → Int32) → (Nat → Int32) → (Nat → Int32) → (Nat → Int32) → (Nat → Int32) → Prop} {T : Nat → Nat} {n i : Nat} (w : cc_wh T n) (hi : i < n)
    (he : ∀ j, i < j → j < n → a_ends j = nI (cc_en T j))
    (hJ : J (nI i + (-1)) a_variables a_row a_inputs a_outputs a_timerOn a_timerBegin a_timerElapsed a_timerDone a_counterLast a_counterValue a_counterDone a_edgeLast a_edgeDone a_tokens a_lengths (upd a_ends i (nI (cc_en T i))) a_worths a_pendingPlaces a_pendingRounds a_pendingLimits) :
    ∀ d k, k + d = cc_ar (T i) → wX_findEnds_40 post J (nI i) (nI (cc_ar (T i))) f_time f_active f_running f_pending f_roundsBegun a_variables a_row a_inputs a_outputs a_timerOn a_timerBegin a_timerElapsed a_timerDone a_counterLast a_counterValue a_counterDone a_edgeLast a_edgeDone a_tokens a_lengths a_ends a_worths a_pendingPlaces a_pendingRounds a_pendingLimits (d + 1) (nI (cc_nx T k (i + 1))) (nI k) := by
  have h4 := cc_ar_le (T i)
  have hn := w.2.2
  intro d
  induction d with
  | zero =>
    intro k hk
    have e : k = cc_ar (T i) := by omega
    subst e
    refine br_t (cc_le (cc_ar (T i)) (cc_ar (T i)) (by omega)) ?_
    refine ⟨vp_in_nI (by omega) (by omega), ?_⟩
    refine nm_r (e' := upd a_ends i (nI (cc_en T i))) (by rw [nI_clamp (by omega), cc_nx_en w hi]) ?_
    exact nm_e hJ
  | succ d ih =>
    intro k hk
    obtain ⟨c1, c2, c3, c4⟩ := cc_ch w hi (show k < cc_ar (T i) by omega)
    refine br_f (cc_nle (cc_ar (T i)) k (by omega)) ?_
    refine ⟨vp_in_nI (by omega) (by omega), ?_⟩
    refine nm_r (e' := nI (cc_nx T (k + 1) (i + 1))) (by rw [nI_clamp (by omega), he _ c1 c2]; rfl) ?_
    refine nm_r (e' := nI (k + 1)) (nI_1 k) ?_
    exact ih (k + 1) (by omega)

theorem cc_xfl {post : SX → Prop} {T : Nat → Nat} {n a : Nat} (w : cc_wh T n) (ha : a < 2)
    (htok : ∀ i, i < n → a_tokens (a * 61 + i) = nI (T i))
    (h : ∀ e, cc_eb e → (∀ i, i < n → e i = nI (cc_en T i)) → post (f_time, nI a, f_running, f_pending, f_roundsBegun, a_variables, a_row, a_inputs, a_outputs, a_timerOn, a_timerBegin, a_timerElapsed, a_timerDone, a_counterLast, a_counterValue, a_counterDone, a_edgeLast, a_edgeDone, a_tokens, a_lengths, e, a_worths, a_pendingPlaces, a_pendingRounds, a_pendingLimits)) :
    ∀ i e, i ≤ n → cc_eb e → (∀ j, i ≤ j → j < n → e j = nI (cc_en T j)) → wX_findEnds_12 post f_time (nI a) f_running f_pending f_roundsBegun (i + 1) (nI i + (-1)) a_variables a_row a_inputs a_outputs a_timerOn a_timerBegin a_timerElapsed a_timerDone a_counterLast a_counterValue a_counterDone a_edgeLast a_edgeDone a_tokens a_lengths e a_worths a_pendingPlaces a_pendingRounds a_pendingLimits := by
  have hn := w.2.2
  intro i
  induction i with
  | zero =>
    intro e _ hb he
    exact br_t (by decide) (h e hb (fun i hi => he i (by omega) hi))
  | succ i ih =>
    intro e hi hb he
    rw [pk_m1]
    refine br_f (cc_nlt i 0 (by omega)) ?_
    have hva : cc_va (T i) := (w.1 i (by omega)).2
    have ht := cc_va_lt hva
    have h5 := cc_epsp hva
    refine cc_xat (T := T) (n := n) ha hn (by omega) htok ?_
    refine cc_xep (by omega) (fun x hx => ?_)
    refine cc_xsp (by omega) (fun y hy => ?_)
    refine nm_r (e' := nI (cc_ar (T i))) (by rw [nI_add, ← h5, hx, hy]) ?_
    refine nm_r (e' := nI (i + 1)) (nI_1 i) ?_
    refine ⟨cc_ar (T i) + 1, ?_⟩
    refine cc_xfi w (by omega) (fun j h1 h2 => he j (by omega) h2) ?_ (cc_ar (T i)) 0 (by omega)
    have hle := cc_en_le w (show i < n by omega)
    refine ih _ (by omega) (cc_eb_upd hb (by omega)) (fun j h1 h2 => ?_)
    by_cases z : j = i
    · rw [z, cc_u_s]
    · rw [cc_u_n z]; exact he j (by omega) h2

theorem cc_xfe {post : SX → Prop} {T : Nat → Nat} {n a : Nat} (w : cc_wh T n) (ha : a < 2) (hl : a_lengths a = nI n)
    (htok : ∀ i, i < n → a_tokens (a * 61 + i) = nI (T i)) (hb : cc_eb a_ends)
    (h : ∀ e, cc_eb e → (∀ i, i < n → e i = nI (cc_en T i)) → post (f_time, nI a, f_running, f_pending, f_roundsBegun, a_variables, a_row, a_inputs, a_outputs, a_timerOn, a_timerBegin, a_timerElapsed, a_timerDone, a_counterLast, a_counterValue, a_counterDone, a_edgeLast, a_edgeDone, a_tokens, a_lengths, e, a_worths, a_pendingPlaces, a_pendingRounds, a_pendingLimits)) : wpX_findEnds post (f_time, nI a, f_running, f_pending, f_roundsBegun, a_variables, a_row, a_inputs, a_outputs, a_timerOn, a_timerBegin, a_timerElapsed, a_timerDone, a_counterLast, a_counterValue, a_counterDone, a_edgeLast, a_edgeDone, a_tokens, a_lengths, a_ends, a_worths, a_pendingPlaces, a_pendingRounds, a_pendingLimits) := by
  have hn := w.2.2
  unfold wpX_findEnds
  dsimp only
  refine ⟨vp_in_nI ha (by omega), ?_⟩
  refine nm_r (e' := nI n + (-1)) (by rw [nI_clamp (by omega), hl, cc_sm1]) ?_
  exact ⟨n + 1, cc_xfl w ha htok h n a_ends (Nat.le_refl _) hb (fun j h1 h2 => by omega)⟩
end

section
variable {f_time f_active f_running f_open f_depth f_tasks f_begun : Int32} {a_variables a_cells a_inputs a_outputs a_timerOn a_timerBegin a_timerElapsed a_timerDone a_counterLast a_counterValue a_counterDone a_edgeLast a_edgeDone a_sizes a_tokens a_ends a_wants a_numbers a_taskKind a_taskAt a_taskRounds a_taskLimit : Nat → Int32}
theorem cc_ymi {post : SY → Prop} {J : Int32 → (Nat → Int32) → (Nat → Int32) → (Nat → Int32) → (Nat → Int32) → (Nat → Int32) → (Nat → Int32) → (Nat → Int32) → (Nat → Int32) → (Nat → Int32) → (Nat → Int32) → (Nat → Int32) → (Nat → Int32) → (Nat → Int32) → (Nat → Int32) → (Nat → Int32) → (Nat → Int32) → (Nat → Int32) → (Nat → Int32) → (Nat → Int32) → (Nat → Int32) → (Nat → Int32) → (Nat → Int32) → Prop} {T : Nat → Nat} {n i a : Nat} {x1 : Int32} (w : cc_wh T n) (ha : a < 2) (hi : i < n)
    (htok : a_tokens (60 * a + i) = nI (T i))
    (he : ∀ j, i < j → j < n → a_ends (60 * a + j) = nI (60 * a + cc_en T j))
    (hJ : J (nI (60 * a + i) + (-1)) a_variables a_cells a_inputs a_outputs a_timerOn a_timerBegin a_timerElapsed a_timerDone a_counterLast a_counterValue a_counterDone a_edgeLast a_edgeDone a_sizes a_tokens (upd a_ends (60 * a + i) (nI (60 * a + cc_en T i))) a_wants a_numbers a_taskKind a_taskAt a_taskRounds a_taskLimit) :
    ∀ d k, k + d = cc_ar (T i) → wY_mark_29 post J x1 (nI (60 * a + i)) f_time f_active f_running f_open f_depth f_tasks f_begun a_variables a_cells a_inputs a_outputs a_timerOn a_timerBegin a_timerElapsed a_timerDone a_counterLast a_counterValue a_counterDone a_edgeLast a_edgeDone a_sizes a_tokens a_ends a_wants a_numbers a_taskKind a_taskAt a_taskRounds a_taskLimit (d + 1) (nI (60 * a + cc_nx T k (i + 1))) (nI k) := by
  have h4 := cc_ar_le (T i)
  have hn := w.2.2
  have hva : cc_va (T i) := (w.1 i (by omega)).2
  have ht := cc_va_lt hva
  intro d
  induction d with
  | zero =>
    intro k hk
    have e : k = cc_ar (T i) := by omega
    refine ⟨vp_in_nI (by omega) (by omega), ?_⟩
    rw [nI_clamp (by omega), htok]
    refine cc_yar (by omega) (fun x hx => ?_)
    subst hx
    subst e
    refine br_t (cc_le (cc_ar (T i)) (cc_ar (T i)) (by omega)) ?_
    refine ⟨vp_in_nI (by omega) (by omega), ?_⟩
    refine nm_r (e' := upd a_ends (60 * a + i) (nI (60 * a + cc_en T i))) (by rw [cc_nx_en w hi]) ?_
    exact nm_e hJ
  | succ d ih =>
    intro k hk
    obtain ⟨c1, c2, c3, c4⟩ := cc_ch w hi (show k < cc_ar (T i) by omega)
    refine ⟨vp_in_nI (by omega) (by omega), ?_⟩
    rw [nI_clamp (by omega), htok]
    refine cc_yar (by omega) (fun x hx => ?_)
    subst hx
    refine br_f (cc_nle (cc_ar (T i)) k (by omega)) ?_
    refine ⟨vp_in_nI (by omega) (by omega), ?_⟩
    refine nm_r (e' := nI (60 * a + cc_nx T (k + 1) (i + 1))) (by rw [nI_clamp (by omega), he _ c1 c2]; rfl) ?_
    refine nm_r (e' := nI (k + 1)) (nI_1 k) ?_
    exact ih (k + 1) (by omega)

theorem cc_yml {post : SY → Prop} {T : Nat → Nat} {n a : Nat} (w : cc_wh T n) (ha : a < 2)
    (htok : ∀ i, i < n → a_tokens (60 * a + i) = nI (T i))
    (h : ∀ e, (∀ i, i < n → e (60 * a + i) = nI (60 * a + cc_en T i)) → (∀ j, (j < 60 * a ∨ 60 * a + n ≤ j) → e j = a_ends j) → post (f_time, f_active, f_running, f_open, f_depth, f_tasks, f_begun, a_variables, a_cells, a_inputs, a_outputs, a_timerOn, a_timerBegin, a_timerElapsed, a_timerDone, a_counterLast, a_counterValue, a_counterDone, a_edgeLast, a_edgeDone, a_sizes, a_tokens, e, a_wants, a_numbers, a_taskKind, a_taskAt, a_taskRounds, a_taskLimit)) :
    ∀ i e, i ≤ n → (∀ j, i ≤ j → j < n → e (60 * a + j) = nI (60 * a + cc_en T j)) → (∀ j, (j < 60 * a + i ∨ 60 * a + n ≤ j) → e j = a_ends j) → wY_mark_14 post (nI a) f_time f_active f_running f_open f_depth f_tasks f_begun (i + 1) (nI (60 * a + i) + (-1)) a_variables a_cells a_inputs a_outputs a_timerOn a_timerBegin a_timerElapsed a_timerDone a_counterLast a_counterValue a_counterDone a_edgeLast a_edgeDone a_sizes a_tokens e a_wants a_numbers a_taskKind a_taskAt a_taskRounds a_taskLimit := by
  have hn := w.2.2
  intro i
  induction i with
  | zero =>
    intro e _ he ho
    refine br_t ?_ (h e (fun i hi => he i (by omega) hi) (fun j hj => ho j (by omega)))
    rw [cc_b60]
    exact cc_pm (by omega)
  | succ i ih =>
    intro e hi he ho
    rw [show 60 * a + (i + 1) = (60 * a + i) + 1 from rfl, pk_m1]
    refine br_f (by rw [cc_b60]; exact cc_nlt (60 * a + i) (60 * a) (by omega)) ?_
    refine nm_r (e' := nI (60 * a + (i + 1))) (nI_1 _) ?_
    refine ⟨cc_ar (T i) + 1, ?_⟩
    refine cc_ymi w ha (by omega) (htok i (by omega)) (fun j h1 h2 => he j (by omega) h2) ?_ (cc_ar (T i)) 0 (by omega)
    refine ih _ (by omega) (fun j h1 h2 => ?_) (fun j hj => ?_)
    · by_cases z : j = i
      · rw [z, cc_u_s]
      · rw [cc_u_n (by omega)]; exact he j (by omega) h2
    · rw [cc_u_n (by omega)]; exact ho j (by omega)

def cc_me (T : Nat → Nat) (n a : Nat) (en : Nat → Int32) : Nat → Int32 := fun j => if 60 * a ≤ j ∧ j < 60 * a + n then nI (60 * a + cc_en T (j - 60 * a)) else en j

theorem cc_me_in {T : Nat → Nat} {n a i : Nat} {en : Nat → Int32} (hi : i < n) : cc_me T n a en (60 * a + i) = nI (60 * a + cc_en T i) := by
  unfold cc_me
  rw [if_pos (by omega), show 60 * a + i - 60 * a = i by omega]

theorem cc_yma {post : SY → Prop} {T : Nat → Nat} {n a : Nat} (w : cc_wh T n) (ha : a < 2) (hl : a_sizes a = nI n)
    (htok : ∀ i, i < n → a_tokens (60 * a + i) = nI (T i))
    (h : post (f_time, f_active, f_running, f_open, f_depth, f_tasks, f_begun, a_variables, a_cells, a_inputs, a_outputs, a_timerOn, a_timerBegin, a_timerElapsed, a_timerDone, a_counterLast, a_counterValue, a_counterDone, a_edgeLast, a_edgeDone, a_sizes, a_tokens, cc_me T n a a_ends, a_wants, a_numbers, a_taskKind, a_taskAt, a_taskRounds, a_taskLimit)) : wpY_mark post (f_time, f_active, f_running, f_open, f_depth, f_tasks, f_begun, a_variables, a_cells, a_inputs, a_outputs, a_timerOn, a_timerBegin, a_timerElapsed, a_timerDone, a_counterLast, a_counterValue, a_counterDone, a_edgeLast, a_edgeDone, a_sizes, a_tokens, a_ends, a_wants, a_numbers, a_taskKind, a_taskAt, a_taskRounds, a_taskLimit) (nI a) := by
  have hn := w.2.2
  refine ⟨vp_in_nI ha (by omega), ?_⟩
  refine nm_r (e' := nI (60 * a + n) + (-1)) (by rw [nI_clamp (by omega), hl, cc_a60, cc_sm1]) ?_
  refine ⟨n + 1, cc_yml w ha htok (fun e he ho => ?_) n a_ends (Nat.le_refl _) (fun j h1 h2 => by omega) (fun j _ => rfl)⟩
  have ee : e = cc_me T n a a_ends := by
    funext j
    by_cases z : 60 * a ≤ j ∧ j < 60 * a + n
    · have e1 := he (j - 60 * a) (by omega)
      rw [show 60 * a + (j - 60 * a) = j by omega] at e1
      unfold cc_me
      rw [e1, if_pos z]
    · unfold cc_me
      rw [ho j (by omega), if_neg z]
  rw [ee]
  exact h
end
