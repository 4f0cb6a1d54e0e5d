section
variable {f_time f_active f_running f_pending f_roundsBegun : Int32} {a_variables a_row a_inputs a_outputs a_timerOn a_timerBegin a_timerElapsed a_timerDone a_counterLast a_counterValue a_counterDone a_edgeLast a_edgeDone a_tokens a_lengths a_ends a_worths a_pendingPlaces a_pendingRounds a_pendingLimits : Nat → Int32}
theorem cc_nk_cons (b : Bool) (l : List Bool) : nI (cc_nk (b :: l)) = if b = true then 1 else 2 := by
  cases b <;> rfl

theorem cc_xnl {post : Int32 → Prop} {T : Nat → Nat} {n p : Nat} (hp : p < 2) (hn : n ≤ 60) (ho : cc_ok T n)
    (htok : ∀ i, i < n → a_tokens (p * 61 + i) = nI (T i)) (h : post (nI (cc_nk (cc_sk T n)))) :
    ∀ i w, i + w ≤ n → cc_sk T n = (cc_sk T i).drop w → wX_neededKind_11 post (nI p) f_time f_active f_running f_pending f_roundsBegun a_variables a_row a_inputs a_outputs a_timerOn a_timerBegin a_timerElapsed a_timerDone a_counterLast a_counterValue a_counterDone a_edgeLast a_edgeDone a_tokens a_lengths a_ends a_worths a_pendingPlaces a_pendingRounds a_pendingLimits (i + 1) (nI w) (nI i + (-1)) := by
  intro i
  induction i with
  | zero =>
    intro w hw e
    refine br_t (by decide) ?_
    rw [e] at h
    refine pk_eq w 0 (fun z => ?_) (fun z => ?_)
    · subst z; exact h
    · have e2 : ([true] : List Bool).drop w = [] := by
        cases w with
        | zero => exact absurd rfl z
        | succ w => simp
      have h2 : post (nI (cc_nk (([true] : List Bool).drop w))) := h
      rw [e2] at h2
      exact h2
  | succ i ih =>
    intro w hw e
    rw [pk_m1]
    have hva : cc_va (T i) := (ho i (by omega)).2
    have hs := cc_hs (cc_hpos ho (show i < n by omega))
    refine br_f (cc_nlt i 0 (by omega)) ?_
    rw [cc_a61]
    refine ⟨vp_in_nI (by omega) (by omega), ?_⟩
    refine nm_r (e' := nI (T i)) (by rw [nI_clamp (by omega)]; exact htok i (by omega)) ?_
    have ht := cc_va_lt hva
    have h5 := cc_epsp hva
    have h6 := cc_ar_le (T i)
    refine cc_xep (by omega) (fun a ha => ?_)
    refine cc_xsp (by omega) (fun b hb => ?_)
    refine nm_r (e' := nI (cc_ar (T i))) (by rw [nI_add, ← h5, ha, hb]) ?_
    refine pk_le (cc_ar (T i)) w (fun z => ?_) (fun z => ?_)
    · refine nm_r (e' := nI (w - cc_ar (T i) + 1)) (by rw [pk_sub z, nI_1]) ?_
      refine nm_e ?_
      refine ih _ (by omega) ?_
      rw [e]
      simp only [cc_sk]
      rw [show w = (cc_ps (T i)).length + (w - cc_ar (T i)) by rw [cc_ps_len]; omega, cc_drop_app, cc_drop_tail]
      rw [cc_ps_len, show cc_ar (T i) + (w - cc_ar (T i)) - cc_ar (T i) = w - cc_ar (T i) by omega]
    · refine cc_xpk hva z ?_
      show post _
      have e2 : (cc_sk T n).head? = some (cc_ts (T i) w) := by
        rw [e, List.head?_drop]
        simp only [cc_sk]
        exact cc_ps_get _ z
      cases hl : cc_sk T n with
      | nil => rw [hl] at e2; simp at e2
      | cons b l =>
        rw [hl] at e2 h
        simp only [List.head?_cons, Option.some.injEq] at e2
        rw [cc_nk_cons, e2] at h
        exact h

theorem cc_xnk {post : Int32 → Prop} {T : Nat → Nat} {n p : Nat} (hp : p < 2) (hn : n ≤ 60) (ho : cc_ok T n) (hl : a_lengths p = nI n)
    (htok : ∀ i, i < n → a_tokens (p * 61 + i) = nI (T i)) (h : post (nI (cc_nk (cc_sk T n)))) : wpX_neededKind post (f_time, f_active, f_running, f_pending, f_roundsBegun, a_variables, a_row, a_inputs, a_outputs, a_timerOn, a_timerBegin, a_timerElapsed, a_timerDone, a_counterLast, a_counterValue, a_counterDone, a_edgeLast, a_edgeDone, a_tokens, a_lengths, a_ends, a_worths, a_pendingPlaces, a_pendingRounds, a_pendingLimits) (nI p) := by
  refine ⟨vp_in_nI hp (by omega), ?_⟩
  refine nm_r (e' := nI n + (-1)) (by rw [nI_clamp (by omega), hl, cc_sm1]) ?_
  exact ⟨n + 1, cc_xnl hp hn ho htok h n 0 (by omega) (by simp)⟩
end

section
variable {f_time f_active f_running f_open f_depth f_tasks f_begun : Int32} {a_variables a_cells a_inputs a_outputs a_timerOn a_timerBegin a_timerElapsed a_timerDone a_counterLast a_counterValue a_counterDone a_edgeLast a_edgeDone a_sizes a_tokens a_ends a_wants a_numbers a_taskKind a_taskAt a_taskRounds a_taskLimit : Nat → Int32}
theorem cc_ysi {post : SY → Prop} {J : Int32 → Int32 → (Nat → Int32) → (Nat → Int32) → (Nat → Int32) → (Nat → Int32) → (Nat → Int32) → (Nat → Int32) → (Nat → Int32) → (Nat → Int32) → (Nat → Int32) → (Nat → Int32) → (Nat → Int32) → (Nat → Int32) → (Nat → Int32) → (Nat → Int32) → (Nat → Int32) → (Nat → Int32) → (Nat → Int32) → (Nat → Int32) → (Nat → Int32) → (Nat → Int32) → (Nat → Int32) → (Nat → Int32) → Prop} {x1 : Int32} {t q m : Nat} {tl : List Bool} (hq : q < 120) (ht : t < 291) (htok : a_tokens q = nI t)
    (hm : cc_ar t + tl.length ≤ 250)
    (hJ : ∀ w, cc_sr w (cc_ps t ++ tl) → J (nI (q + 1)) (nI (cc_ar t + tl.length)) a_variables a_cells a_inputs a_outputs a_timerOn a_timerBegin a_timerElapsed a_timerDone a_counterLast a_counterValue a_counterDone a_edgeLast a_edgeDone a_sizes a_tokens a_ends w a_numbers a_taskKind a_taskAt a_taskRounds a_taskLimit) :
    ∀ i w, i ≤ cc_ar t → cc_sr w ((cc_ps t).drop i ++ tl) →
      wY_scan_55 post J x1 (nI q) f_time f_active f_running f_depth f_tasks f_begun (i + 1) (nI i + (-1)) (nI (cc_ar t - i + tl.length)) a_variables a_cells a_inputs a_outputs a_timerOn a_timerBegin a_timerElapsed a_timerDone a_counterLast a_counterValue a_counterDone a_edgeLast a_edgeDone a_sizes a_tokens a_ends w a_numbers a_taskKind a_taskAt a_taskRounds a_taskLimit := by
  intro i
  induction i with
  | zero =>
    intro w hi hw
    refine br_t (by decide) ?_
    refine nm_r (e' := nI (q + 1)) (nI_1 q) ?_
    exact hJ w hw
  | succ i ih =>
    intro w hi hw
    rw [pk_m1]
    refine br_f (cc_nlt i 0 (by omega)) ?_
    refine ⟨vp_in_nI hq (by omega), ?_⟩
    rw [nI_clamp (show q < 2 ^ 31 by omega), htok]
    refine cc_yts (by omega) (by omega) ?_
    have hlen : ((cc_ps t).drop (i + 1) ++ tl).length = cc_ar t - (i + 1) + tl.length := by
      rw [List.length_append, List.length_drop, cc_ps_len]
    refine ⟨vp_in_nI (by omega) (by omega), ?_⟩
    refine nm_r (e' := upd w ((cc_ps t).drop (i + 1) ++ tl).length (cc_bI (cc_ts t i))) (by rw [nI_clamp (by omega), cc_vb, hlen]) ?_
    refine nm_r (e' := nI (cc_ar t - i + tl.length)) (by rw [nI_1]; congr 1; omega) ?_
    refine nm_e ?_
    refine ih _ (by omega) ?_
    have e : (cc_ps t).drop i ++ tl = cc_ts t i :: ((cc_ps t).drop (i + 1) ++ tl) := by
      rw [List.drop_eq_getElem_cons (by rw [cc_ps_len]; omega)]
      simp [cc_ps]
    rw [e]
    exact ⟨cc_u_s _ _ _, cc_sr_upd (Nat.le_refl _) hw⟩

theorem cc_ysl {post : SY → Prop} {T : Nat → Nat} {n p : Nat} (hp : p < 2) (hn : n ≤ 60) (ho : cc_ok T n) (hl : a_sizes p = nI n)
    (htok : ∀ i, i < n → a_tokens (60 * p + i) = nI (T i)) (h : ∀ w, cc_sr w (cc_sk T n) → post (f_time, f_active, f_running, nI (cc_h T n), f_depth, f_tasks, f_begun, a_variables, a_cells, a_inputs, a_outputs, a_timerOn, a_timerBegin, a_timerElapsed, a_timerDone, a_counterLast, a_counterValue, a_counterDone, a_edgeLast, a_edgeDone, a_sizes, a_tokens, a_ends, w, a_numbers, a_taskKind, a_taskAt, a_taskRounds, a_taskLimit)) :
    ∀ d k w, k + d = n → cc_sr w (cc_sk T k) →
      wY_scan_17 post (nI p) f_time f_active f_running f_depth f_tasks f_begun (d + 1) (nI (60 * p + k)) (nI (cc_h T k)) a_variables a_cells a_inputs a_outputs a_timerOn a_timerBegin a_timerElapsed a_timerDone a_counterLast a_counterValue a_counterDone a_edgeLast a_edgeDone a_sizes a_tokens a_ends w a_numbers a_taskKind a_taskAt a_taskRounds a_taskLimit := by
  intro d
  induction d with
  | zero =>
    intro k w hk hw
    have e : k = n := by omega
    subst e
    refine ⟨vp_in_nI hp (by omega), ?_⟩
    rw [nI_clamp (by omega), hl, cc_a60]
    exact br_t (cc_le (60 * p + k) (60 * p + k) (by omega)) (h w hw)
  | succ d ih =>
    intro k w hk hw
    refine ⟨vp_in_nI hp (by omega), ?_⟩
    rw [nI_clamp (by omega), hl, cc_a60]
    refine br_f (cc_nle (60 * p + n) (60 * p + k) (by omega)) ?_
    have hva : cc_va (T k) := (ho k (by omega)).2
    have ht := cc_va_lt hva
    have hpos := cc_hpos ho (show k < n by omega)
    have hs := cc_hs hpos
    have hle := cc_h_le T k
    have h6 := cc_ar_le (T k)
    refine nm_r (e' := nI (cc_h T k - 1)) (cc_s1 hpos) ?_
    refine ⟨vp_in_nI (by omega) (by omega), ?_⟩
    rw [nI_clamp (by omega), htok k (by omega)]
    refine cc_yar (by omega) (fun a ha => ?_)
    refine nm_r (e' := nI a + (-1)) (cc_sm1 _) ?_
    refine ⟨a + 1, ?_⟩
    subst ha
    have htl : (cc_sk T k).tail.length = cc_h T k - 1 := by rw [List.length_tail]; rfl
    have g := cc_ysi (post := post) (J := wY_scan_17 post (nI p) f_time f_active f_running f_depth f_tasks f_begun (d + 1)) (x1 := nI p) (t := T k) (q := 60 * p + k) (m := 0) (tl := (cc_sk T k).tail)
      (f_time := f_time) (f_active := f_active) (f_running := f_running) (f_depth := f_depth) (f_tasks := f_tasks) (f_begun := f_begun)
      (a_variables := a_variables) (a_cells := a_cells) (a_inputs := a_inputs) (a_outputs := a_outputs) (a_timerOn := a_timerOn) (a_timerBegin := a_timerBegin) (a_timerElapsed := a_timerElapsed) (a_timerDone := a_timerDone) (a_counterLast := a_counterLast) (a_counterValue := a_counterValue) (a_counterDone := a_counterDone) (a_edgeLast := a_edgeLast) (a_edgeDone := a_edgeDone) (a_sizes := a_sizes) (a_tokens := a_tokens) (a_ends := a_ends) (a_numbers := a_numbers) (a_taskKind := a_taskKind) (a_taskAt := a_taskAt) (a_taskRounds := a_taskRounds) (a_taskLimit := a_taskLimit)
      (by omega) ht (htok k (by omega)) (by omega) (fun w' hw' => by
        rw [htl, show cc_ar (T k) + (cc_h T k - 1) = cc_h T (k + 1) by omega]
        exact ih (k + 1) w' (by omega) hw') (cc_ar (T k)) w (Nat.le_refl _) (by
        rw [List.drop_of_length_le (by rw [cc_ps_len]; exact Nat.le_refl _)]
        exact cc_sr_tail hw)
    rw [htl, show cc_ar (T k) - cc_ar (T k) + (cc_h T k - 1) = cc_h T k - 1 by omega] at g
    exact g

theorem cc_ysc {post : SY → Prop} {T : Nat → Nat} {n p : Nat} (hp : p < 2) (hn : n ≤ 60) (ho : cc_ok T n) (hl : a_sizes p = nI n)
    (htok : ∀ i, i < n → a_tokens (60 * p + i) = nI (T i)) (h : ∀ w, cc_sr w (cc_sk T n) → post (f_time, f_active, f_running, nI (cc_h T n), f_depth, f_tasks, f_begun, a_variables, a_cells, a_inputs, a_outputs, a_timerOn, a_timerBegin, a_timerElapsed, a_timerDone, a_counterLast, a_counterValue, a_counterDone, a_edgeLast, a_edgeDone, a_sizes, a_tokens, a_ends, w, a_numbers, a_taskKind, a_taskAt, a_taskRounds, a_taskLimit)) :
    wpY_scan post (f_time, f_active, f_running, f_open, f_depth, f_tasks, f_begun, a_variables, a_cells, a_inputs, a_outputs, a_timerOn, a_timerBegin, a_timerElapsed, a_timerDone, a_counterLast, a_counterValue, a_counterDone, a_edgeLast, a_edgeDone, a_sizes, a_tokens, a_ends, a_wants, a_numbers, a_taskKind, a_taskAt, a_taskRounds, a_taskLimit) (nI p) := by
  refine nm_e ?_
  refine nm_r (e' := nI (60 * p + 0)) (cc_b60 p) ?_
  exact ⟨n + 1, cc_ysl hp hn ho hl htok h n 0 _ (by omega) ⟨(cc_u_s a_wants 0 _).trans cc_vb1, trivial⟩⟩
end
