def cc_tOn (on : Nat → Int32) (k : Nat) (e : Bool) : Nat → Int32 := upd on k (cc_bI e)
def cc_tBe (on be : Nat → Int32) (k : Nat) (e : Bool) (tm : Int32) : Nat → Int32 := if e = true ∧ on k = 0 then upd be k tm else be
def cc_tSh (pa f : Int32) : Int32 := if pa ≤ f then pa else f
def cc_tEl (el : Nat → Int32) (k : Nat) (e : Bool) (pa f : Int32) : Nat → Int32 := upd el k (if e = true ∧ 0 < cc_tSh pa f then cc_tSh pa f else 0)
def cc_tDo (dn : Nat → Int32) (k : Nat) (e : Bool) (pa f : Int32) : Nat → Int32 := upd dn k (if e = true ∧ ¬ pa < f then 1 else 0)
def cc_cVa (la va : Nat → Int32) (k : Nat) (e f : Bool) : Nat → Int32 := if f = true then upd va k 0 else if e = true ∧ la k = 0 then upd va k (va k + 1) else va
def cc_cDo (va dn : Nat → Int32) (k : Nat) (g : Int32) : Nat → Int32 := upd dn k (if va k < g then 0 else 1)
def cc_eDo (la dn : Nat → Int32) (k : Nat) (e : Bool) : Nat → Int32 := upd dn k (if e = true ∧ la k = 0 then 1 else 0)
def cc_b01 (on : Nat → Int32) : Prop := ∀ k, on k = 0 ∨ on k = 1

theorem cc_b01_upd {on : Nat → Int32} {k : Nat} {e : Bool} (h : cc_b01 on) : cc_b01 (cc_tOn on k e) := by
  intro j
  unfold cc_tOn
  by_cases z : j = k
  · rw [z, cc_u_s]
    cases e
    · exact Or.inl rfl
    · exact Or.inr rfl
  · rw [cc_u_n z]; exact h j

theorem cc_bf : cc_bI false = 0 := rfl
theorem cc_bt : cc_bI true = 1 := rfl
theorem cc_n10 : ¬ (1 : Int32) = 0 := by decide
theorem cc_n01 : ¬ (0 : Int32) = 1 := by decide

section
variable {f_time f_active f_running f_pending f_roundsBegun : Int32} {a_variables a_row a_inputs a_outputs a_timerOn a_timerBegin a_timerElapsed a_timerDone a_counterLast a_counterValue a_counterDone a_edgeLast a_edgeDone a_tokens a_lengths a_ends a_worths a_pendingPlaces a_pendingRounds a_pendingLimits : Nat → Int32}
theorem cc_xti {post : SX → Prop} {k : Nat} {e : Bool} {f : Int32} (hk : k < 3)
    (h : post (f_time, f_active, f_running, f_pending, f_roundsBegun, a_variables, a_row, a_inputs, a_outputs, cc_tOn a_timerOn k e, cc_tBe a_timerOn a_timerBegin k e f_time, cc_tEl a_timerElapsed k e (f_time - cc_tBe a_timerOn a_timerBegin k e f_time k) f, cc_tDo a_timerDone k e (f_time - cc_tBe a_timerOn a_timerBegin k e f_time k) f, a_counterLast, a_counterValue, a_counterDone, a_edgeLast, a_edgeDone, a_tokens, a_lengths, a_ends, a_worths, a_pendingPlaces, a_pendingRounds, a_pendingLimits)) :
    wpX_runTimer post (f_time, f_active, f_running, f_pending, f_roundsBegun, a_variables, a_row, a_inputs, a_outputs, a_timerOn, a_timerBegin, a_timerElapsed, a_timerDone, a_counterLast, a_counterValue, a_counterDone, a_edgeLast, a_edgeDone, a_tokens, a_lengths, a_ends, a_worths, a_pendingPlaces, a_pendingRounds, a_pendingLimits) (nI k) (cc_bI e) f := by
  have hv : vp_in (nI k) 3 := vp_in_nI hk (by omega)
  have hc : (nI k).toNatClampNeg = k := nI_clamp (by omega)
  have core : ∀ be : Nat → Int32, cc_tBe a_timerOn a_timerBegin k e f_time = be → wX_runTimer_23 post (nI k) (cc_bI e) f f_time f_active f_running f_pending f_roundsBegun a_variables a_row a_inputs a_outputs a_timerOn be a_timerElapsed a_timerDone a_counterLast a_counterValue a_counterDone a_edgeLast a_edgeDone a_tokens a_lengths a_ends a_worths a_pendingPlaces a_pendingRounds a_pendingLimits := by
    intro be hbe
    rw [hbe] at h
    refine ⟨hv, ?_⟩
    refine nm_r (e' := cc_tOn a_timerOn k e) (by rw [hc, cc_vb]; rfl) ?_
    refine ⟨hv, ?_⟩
    refine nm_r (e' := f_time - be k) (by rw [hc]) ?_
    have c55 : wX_runTimer_55 post (nI k) (cc_bI e) f (f_time - be k) (cc_tSh (f_time - be k) f) f_time f_active f_running f_pending f_roundsBegun a_variables a_row a_inputs a_outputs (cc_tOn a_timerOn k e) be a_timerElapsed a_timerDone a_counterLast a_counterValue a_counterDone a_edgeLast a_edgeDone a_tokens a_lengths a_ends a_worths a_pendingPlaces a_pendingRounds a_pendingLimits := by
      cases e with
      | false =>
        refine br_t cc_bf ?_
        refine ⟨hv, ?_⟩
        refine nm_r (e' := cc_tEl a_timerElapsed k false (f_time - be k) f) (by rw [hc]; unfold cc_tEl; rw [if_neg (fun z => by cases z.1)]) ?_
        refine br_t cc_bf ?_
        refine ⟨hv, ?_⟩
        refine nm_r (e' := cc_tDo a_timerDone k false (f_time - be k) f) (by rw [hc]; unfold cc_tDo; rw [if_neg (fun z => by cases z.1)]) ?_
        exact h
      | true =>
        refine br_f cc_n10 ?_
        have c77 : wX_runTimer_77 post (nI k) (cc_bI true) f (f_time - be k) (if true = true ∧ 0 < cc_tSh (f_time - be k) f then cc_tSh (f_time - be k) f else 0) (nI k) f_time f_active f_running f_pending f_roundsBegun a_variables a_row a_inputs a_outputs (cc_tOn a_timerOn k true) be a_timerElapsed a_timerDone a_counterLast a_counterValue a_counterDone a_edgeLast a_edgeDone a_tokens a_lengths a_ends a_worths a_pendingPlaces a_pendingRounds a_pendingLimits := by
          refine ⟨hv, ?_⟩
          refine nm_r (e' := cc_tEl a_timerElapsed k true (f_time - be k) f) (by rw [hc]; rfl) ?_
          refine br_f cc_n10 ?_
          refine br_c (fun z => ?_) (fun z => ?_)
          · refine ⟨hv, ?_⟩
            refine nm_r (e' := cc_tDo a_timerDone k true (f_time - be k) f) (by rw [hc]; unfold cc_tDo; rw [if_neg (fun y => y.2 z)]) ?_
            exact h
          · refine ⟨hv, ?_⟩
            refine nm_r (e' := cc_tDo a_timerDone k true (f_time - be k) f) (by rw [hc]; unfold cc_tDo; rw [if_pos ⟨rfl, z⟩]) ?_
            exact h
        refine br_c (fun z => ?_) (fun z => ?_)
        · rw [if_neg (fun y => absurd z (Int32.not_le.mpr y.2))] at c77
          exact c77
        · rw [if_pos ⟨rfl, Int32.not_le.mp z⟩] at c77
          exact c77
    unfold cc_tSh at c55
    refine br_c (fun z => ?_) (fun z => ?_)
    · rw [if_pos z] at c55; exact c55
    · rw [if_neg z] at c55; exact c55
  cases e with
  | false =>
    refine br_t cc_bf ?_
    exact core a_timerBegin (if_neg (fun z => by cases z.1))
  | true =>
    refine br_f cc_n10 ⟨hv, ?_⟩
    rw [hc]
    refine br_c (fun z => ⟨hv, ?_⟩) (fun z => ?_)
    · refine nm_e ?_
      exact core _ (if_pos ⟨rfl, z⟩)
    · exact core a_timerBegin (if_neg (fun y => z y.2))

theorem cc_xcn {post : SX → Prop} {k : Nat} {e f : Bool} {g : Int32} (hk : k < 3)
    (h : post (f_time, f_active, f_running, f_pending, f_roundsBegun, a_variables, a_row, a_inputs, a_outputs, a_timerOn, a_timerBegin, a_timerElapsed, a_timerDone, upd a_counterLast k (cc_bI e), cc_cVa a_counterLast a_counterValue k e f, cc_cDo (cc_cVa a_counterLast a_counterValue k e f) a_counterDone k g, a_edgeLast, a_edgeDone, a_tokens, a_lengths, a_ends, a_worths, a_pendingPlaces, a_pendingRounds, a_pendingLimits)) :
    wpX_runCounter post (f_time, f_active, f_running, f_pending, f_roundsBegun, a_variables, a_row, a_inputs, a_outputs, a_timerOn, a_timerBegin, a_timerElapsed, a_timerDone, a_counterLast, a_counterValue, a_counterDone, a_edgeLast, a_edgeDone, a_tokens, a_lengths, a_ends, a_worths, a_pendingPlaces, a_pendingRounds, a_pendingLimits) (nI k) (cc_bI e) (cc_bI f) g := by
  have hv : vp_in (nI k) 3 := vp_in_nI hk (by omega)
  have hc : (nI k).toNatClampNeg = k := nI_clamp (by omega)
  have core : ∀ va : Nat → Int32, cc_cVa a_counterLast a_counterValue k e f = va → wX_runCounter_37 post (nI k) (cc_bI e) g f_time f_active f_running f_pending f_roundsBegun a_variables a_row a_inputs a_outputs a_timerOn a_timerBegin a_timerElapsed a_timerDone a_counterLast va a_counterDone a_edgeLast a_edgeDone a_tokens a_lengths a_ends a_worths a_pendingPlaces a_pendingRounds a_pendingLimits := by
    intro va hva
    rw [hva] at h
    refine ⟨hv, ?_⟩
    refine nm_r (e' := upd a_counterLast k (cc_bI e)) (by rw [hc, cc_vb]) ?_
    refine ⟨hv, ?_⟩
    rw [hc]
    refine br_c (fun z => ?_) (fun z => ?_)
    · refine ⟨hv, ?_⟩
      refine nm_r (e' := cc_cDo va a_counterDone k g) (by unfold cc_cDo; rw [if_pos z]) ?_
      exact h
    · refine ⟨hv, ?_⟩
      refine nm_r (e' := cc_cDo va a_counterDone k g) (by unfold cc_cDo; rw [if_neg z]) ?_
      exact h
  cases f with
  | true =>
    refine br_f cc_n10 ⟨hv, ?_⟩
    refine nm_e ?_
    rw [hc]
    exact core _ rfl
  | false =>
    refine br_t cc_bf ?_
    cases e with
    | false => exact br_t cc_bf (core a_counterValue (by unfold cc_cVa; rw [if_neg (fun z => by cases z), if_neg (fun z => by cases z.1)]))
    | true =>
      refine br_f cc_n10 ⟨hv, ?_⟩
      rw [hc]
      refine br_c (fun z => ⟨hv, hv, ?_⟩) (fun z => ?_)
      · refine nm_e ?_
        exact core _ (by unfold cc_cVa; rw [if_neg (fun z => by cases z), if_pos ⟨rfl, z⟩])
      · exact core a_counterValue (by unfold cc_cVa; rw [if_neg (fun z => by cases z), if_neg (fun y => z y.2)])

theorem cc_xed {post : SX → Prop} {k : Nat} {e : Bool} (hk : k < 3)
    (h : post (f_time, f_active, f_running, f_pending, f_roundsBegun, a_variables, a_row, a_inputs, a_outputs, a_timerOn, a_timerBegin, a_timerElapsed, a_timerDone, a_counterLast, a_counterValue, a_counterDone, upd a_edgeLast k (cc_bI e), cc_eDo a_edgeLast a_edgeDone k e, a_tokens, a_lengths, a_ends, a_worths, a_pendingPlaces, a_pendingRounds, a_pendingLimits)) : wpX_runEdge post (f_time, f_active, f_running, f_pending, f_roundsBegun, a_variables, a_row, a_inputs, a_outputs, a_timerOn, a_timerBegin, a_timerElapsed, a_timerDone, a_counterLast, a_counterValue, a_counterDone, a_edgeLast, a_edgeDone, a_tokens, a_lengths, a_ends, a_worths, a_pendingPlaces, a_pendingRounds, a_pendingLimits) (nI k) (cc_bI e) := by
  have hv : vp_in (nI k) 3 := vp_in_nI hk (by omega)
  have hc : (nI k).toNatClampNeg = k := nI_clamp (by omega)
  have c22 : ¬ (e = true ∧ a_edgeLast k = 0) → wX_runEdge_22 post (nI k) (cc_bI e) (nI k) f_time f_active f_running f_pending f_roundsBegun a_variables a_row a_inputs a_outputs a_timerOn a_timerBegin a_timerElapsed a_timerDone a_counterLast a_counterValue a_counterDone a_edgeLast a_edgeDone a_tokens a_lengths a_ends a_worths a_pendingPlaces a_pendingRounds a_pendingLimits := by
    intro z
    refine ⟨hv, ?_⟩
    refine nm_r (e' := cc_eDo a_edgeLast a_edgeDone k e) (by rw [hc]; unfold cc_eDo; rw [if_neg z]) ?_
    refine ⟨hv, ?_⟩
    refine nm_r (e' := upd a_edgeLast k (cc_bI e)) (by rw [hc, cc_vb]) ?_
    exact h
  cases e with
  | false => exact br_t cc_bf (c22 (fun z => by cases z.1))
  | true =>
    refine br_f cc_n10 ⟨hv, ?_⟩
    rw [hc]
    refine br_c (fun z => ⟨hv, ?_⟩) (fun z => c22 (fun y => z y.2))
    refine nm_r (e' := cc_eDo a_edgeLast a_edgeDone k true) (by unfold cc_eDo; rw [if_pos ⟨rfl, z⟩]) ?_
    refine ⟨hv, ?_⟩
    refine nm_r (e' := upd a_edgeLast k (cc_bI true)) (by rw [cc_vb]) ?_
    exact h

theorem cc_xpu {post : SX → Prop} {m : Nat} {x y z : Int32} (hm : m < 61)
    (h : post (f_time, f_active, f_running, nI (m + 1), f_roundsBegun, a_variables, a_row, a_inputs, a_outputs, a_timerOn, a_timerBegin, a_timerElapsed, a_timerDone, a_counterLast, a_counterValue, a_counterDone, a_edgeLast, a_edgeDone, a_tokens, a_lengths, a_ends, a_worths, upd a_pendingPlaces m x, upd a_pendingRounds m y, upd a_pendingLimits m z)) :
    wpX_push post (f_time, f_active, f_running, nI m, f_roundsBegun, a_variables, a_row, a_inputs, a_outputs, a_timerOn, a_timerBegin, a_timerElapsed, a_timerDone, a_counterLast, a_counterValue, a_counterDone, a_edgeLast, a_edgeDone, a_tokens, a_lengths, a_ends, a_worths, a_pendingPlaces, a_pendingRounds, a_pendingLimits) x y z := by
  have hv : vp_in (nI m) 61 := vp_in_nI hm (by omega)
  have hc : (nI m).toNatClampNeg = m := nI_clamp (by omega)
  refine br_f (cc_nle 61 m hm) ⟨hv, ?_⟩
  rw [hc]
  refine nm_e ⟨hv, ?_⟩
  refine nm_e ⟨hv, ?_⟩
  refine nm_e ?_
  refine nm_r (e' := nI (m + 1)) (nI_1 m) ?_
  exact h

theorem cc_m1n {m : Nat} (h : m < 2 ^ 31) : ¬ nI m = -1 := by
  intro e
  have := nI_pos h
  rw [e] at this
  exact this (by decide)

theorem cc_xll {post : SX → Prop} {L : List (Nat × Nat × Int32)} (hlen : L.length ≤ 60) (hcode : ∀ e, e ∈ L → e.2.1 ≤ 21)
    (hxs : cc_xs a_pendingPlaces a_pendingRounds a_pendingLimits L)
    (h : post (f_time, f_active, f_running, nI (cc_lv L).length, f_roundsBegun, a_variables, a_row, a_inputs, a_outputs, a_timerOn, a_timerBegin, a_timerElapsed, a_timerDone, a_counterLast, a_counterValue, a_counterDone, a_edgeLast, a_edgeDone, a_tokens, a_lengths, a_ends, a_worths, a_pendingPlaces, a_pendingRounds, a_pendingLimits)) :
    wX_leaveLoop_9 post f_time f_active f_running f_roundsBegun a_variables a_row a_inputs a_outputs a_timerOn a_timerBegin a_timerElapsed a_timerDone a_counterLast a_counterValue a_counterDone a_edgeLast a_edgeDone a_tokens a_lengths a_ends a_worths a_pendingPlaces a_pendingRounds a_pendingLimits (L.length + 2) 0 (nI L.length + (-1)) (nI L.length) := by
  induction L with
  | nil => exact br_t (by decide) h
  | cons e L ih =>
    simp only [List.length_cons] at hlen ⊢
    rw [pk_m1]
    have hc : (nI L.length).toNatClampNeg = L.length := nI_clamp (by omega)
    refine br_f (cc_nlt L.length 0 (by omega)) ?_
    refine br_t rfl ⟨vp_in_nI (by omega) (by omega), ?_⟩
    have h1 := hxs.2.1
    have h2 := hcode e (List.mem_cons_self)
    rw [hc, h1]
    by_cases z : e.2.1 = 0
    · refine br_t (by rw [z]; decide) ?_
      refine nm_e ?_
      refine ih (by omega) (fun x hx => hcode x (List.mem_cons_of_mem _ hx)) hxs.2.2.2 ?_
      simp only [cc_lv, z, if_true] at h
      exact h
    · refine br_f (by rw [cc_s1 (by omega)]; exact cc_m1n (by omega)) ?_
      refine nm_e ?_
      simp only [cc_lv, z, if_false] at h
      refine br_c (fun y => h) (fun y => br_f cc_n10 h)

theorem cc_xle {post : SX → Prop} {L : List (Nat × Nat × Int32)} (hlen : L.length ≤ 60) (hcode : ∀ e, e ∈ L → e.2.1 ≤ 21)
    (hxs : cc_xs a_pendingPlaces a_pendingRounds a_pendingLimits L)
    (h : post (f_time, f_active, f_running, nI (cc_lv L).length, f_roundsBegun, a_variables, a_row, a_inputs, a_outputs, a_timerOn, a_timerBegin, a_timerElapsed, a_timerDone, a_counterLast, a_counterValue, a_counterDone, a_edgeLast, a_edgeDone, a_tokens, a_lengths, a_ends, a_worths, a_pendingPlaces, a_pendingRounds, a_pendingLimits)) : wpX_leaveLoop post (f_time, f_active, f_running, nI L.length, f_roundsBegun, a_variables, a_row, a_inputs, a_outputs, a_timerOn, a_timerBegin, a_timerElapsed, a_timerDone, a_counterLast, a_counterValue, a_counterDone, a_edgeLast, a_edgeDone, a_tokens, a_lengths, a_ends, a_worths, a_pendingPlaces, a_pendingRounds, a_pendingLimits) := by
  unfold wpX_leaveLoop
  dsimp only
  refine nm_r (e' := nI L.length + (-1)) (cc_sm1 _) ?_
  exact ⟨L.length + 2, cc_xll hlen hcode hxs h⟩
end

section
variable {f_time f_active f_running f_open f_depth f_tasks f_begun : Int32} {a_variables a_cells a_inputs a_outputs a_timerOn a_timerBegin a_timerElapsed a_timerDone a_counterLast a_counterValue a_counterDone a_edgeLast a_edgeDone a_sizes a_tokens a_ends a_wants a_numbers a_taskKind a_taskAt a_taskRounds a_taskLimit : Nat → Int32}
theorem cc_yti {post : SY → Prop} {k : Nat} {e : Bool} {f : Int32} (hk : k < 3) (hb : cc_b01 a_timerOn)
    (h : post (f_time, f_active, f_running, f_open, f_depth, f_tasks, f_begun, a_variables, a_cells, a_inputs, a_outputs, cc_tOn a_timerOn k e, cc_tBe a_timerOn a_timerBegin k e f_time, cc_tEl a_timerElapsed k e (f_time - cc_tBe a_timerOn a_timerBegin k e f_time k) f, cc_tDo a_timerDone k e (f_time - cc_tBe a_timerOn a_timerBegin k e f_time k) f, a_counterLast, a_counterValue, a_counterDone, a_edgeLast, a_edgeDone, a_sizes, a_tokens, a_ends, a_wants, a_numbers, a_taskKind, a_taskAt, a_taskRounds, a_taskLimit)) :
    wpY_timer post (f_time, f_active, f_running, f_open, f_depth, f_tasks, f_begun, a_variables, a_cells, a_inputs, a_outputs, a_timerOn, a_timerBegin, a_timerElapsed, a_timerDone, a_counterLast, a_counterValue, a_counterDone, a_edgeLast, a_edgeDone, a_sizes, a_tokens, a_ends, a_wants, a_numbers, a_taskKind, a_taskAt, a_taskRounds, a_taskLimit) (nI k) (cc_bI e) f := by
  have hv : vp_in (nI k) 3 := vp_in_nI hk (by omega)
  have hc : (nI k).toNatClampNeg = k := nI_clamp (by omega)
  cases e with
  | false =>
    have e1 : cc_tBe a_timerOn a_timerBegin k false f_time = a_timerBegin := if_neg (fun z => by cases z.1)
    rw [e1] at h
    refine br_t cc_bf ⟨hv, ?_⟩
    refine nm_r (e' := cc_tOn a_timerOn k false) (by rw [hc, cc_vb0]; rfl) ⟨hv, ?_⟩
    refine nm_r (e' := cc_tEl a_timerElapsed k false (f_time - a_timerBegin k) f) (by rw [hc]; unfold cc_tEl; rw [if_neg (fun z => by cases z.1)]) ⟨hv, ?_⟩
    refine nm_r (e' := cc_tDo a_timerDone k false (f_time - a_timerBegin k) f) (by rw [hc]; unfold cc_tDo; rw [if_neg (fun z => by cases z.1)]) ?_
    exact h
  | true =>
    have core : ∀ be on : Nat → Int32, cc_tBe a_timerOn a_timerBegin k true f_time = be → cc_tOn a_timerOn k true = on → wY_timer_52 post (nI k) f f_time f_active f_running f_open f_depth f_tasks f_begun a_variables a_cells a_inputs a_outputs on be a_timerElapsed a_timerDone a_counterLast a_counterValue a_counterDone a_edgeLast a_edgeDone a_sizes a_tokens a_ends a_wants a_numbers a_taskKind a_taskAt a_taskRounds a_taskLimit := by
      intro be on hbe hon
      rw [hbe, hon] at h
      refine ⟨hv, ?_⟩
      refine nm_r (e' := f_time - be k) (by rw [hc]) ?_
      have c77 : wY_timer_77 post (nI k) f (f_time - be k) (cc_tSh (f_time - be k) f) f_time f_active f_running f_open f_depth f_tasks f_begun a_variables a_cells a_inputs a_outputs on be a_timerElapsed a_timerDone a_counterLast a_counterValue a_counterDone a_edgeLast a_edgeDone a_sizes a_tokens a_ends a_wants a_numbers a_taskKind a_taskAt a_taskRounds a_taskLimit := by
        have c95 : wY_timer_95 post (nI k) f (f_time - be k) (if true = true ∧ 0 < cc_tSh (f_time - be k) f then cc_tSh (f_time - be k) f else 0) (nI k) f_time f_active f_running f_open f_depth f_tasks f_begun a_variables a_cells a_inputs a_outputs on be a_timerElapsed a_timerDone a_counterLast a_counterValue a_counterDone a_edgeLast a_edgeDone a_sizes a_tokens a_ends a_wants a_numbers a_taskKind a_taskAt a_taskRounds a_taskLimit := by
          refine ⟨hv, ?_⟩
          refine nm_r (e' := cc_tEl a_timerElapsed k true (f_time - be k) f) (by rw [hc]; rfl) ?_
          refine br_c (fun z => br_t rfl ⟨hv, ?_⟩) (fun z => br_f cc_n10 ⟨hv, ?_⟩)
          · refine nm_r (e' := cc_tDo a_timerDone k true (f_time - be k) f) (by rw [hc]; unfold cc_tDo; rw [if_neg (fun y => y.2 z)]) ?_
            exact h
          · refine nm_r (e' := cc_tDo a_timerDone k true (f_time - be k) f) (by rw [hc]; unfold cc_tDo; rw [if_pos ⟨rfl, z⟩]) ?_
            exact h
        refine br_c (fun z => ?_) (fun z => ?_)
        · by_cases y : 0 < cc_tSh (f_time - be k) f
          · rw [if_pos ⟨rfl, y⟩] at c95; exact c95
          · rw [if_neg (fun x => y x.2)] at c95
            have ee : cc_tSh (f_time - be k) f = 0 := Int32.le_antisymm (Int32.not_lt.mp y) z
            rw [ee]; exact c95
        · rw [if_neg (fun x => z (Int32.le_of_lt x.2))] at c95
          exact c95
      unfold cc_tSh at c77
      refine br_c (fun z => ?_) (fun z => ?_)
      · rw [if_pos z] at c77; exact c77
      · rw [if_neg z] at c77; exact c77
    refine br_f cc_n10 ⟨hv, ?_⟩
    rw [hc]
    refine br_c (fun z => ⟨hv, ?_⟩) (fun z => ?_)
    · refine nm_r (e' := cc_tOn a_timerOn k true) (by rw [cc_vb1]; rfl) ⟨hv, ?_⟩
      refine nm_e ?_
      exact core _ _ (if_pos ⟨rfl, z⟩) rfl
    · exact core a_timerBegin a_timerOn (if_neg (fun y => z y.2)) (cc_u_id ((hb k).resolve_left z))

theorem cc_ycn {post : SY → Prop} {k : Nat} {e f : Bool} {g : Int32} (hk : k < 3)
    (h : post (f_time, f_active, f_running, f_open, f_depth, f_tasks, f_begun, a_variables, a_cells, a_inputs, a_outputs, a_timerOn, a_timerBegin, a_timerElapsed, a_timerDone, upd a_counterLast k (cc_bI e), cc_cVa a_counterLast a_counterValue k e f, cc_cDo (cc_cVa a_counterLast a_counterValue k e f) a_counterDone k g, a_edgeLast, a_edgeDone, a_sizes, a_tokens, a_ends, a_wants, a_numbers, a_taskKind, a_taskAt, a_taskRounds, a_taskLimit)) :
    wpY_counter post (f_time, f_active, f_running, f_open, f_depth, f_tasks, f_begun, a_variables, a_cells, a_inputs, a_outputs, a_timerOn, a_timerBegin, a_timerElapsed, a_timerDone, a_counterLast, a_counterValue, a_counterDone, a_edgeLast, a_edgeDone, a_sizes, a_tokens, a_ends, a_wants, a_numbers, a_taskKind, a_taskAt, a_taskRounds, a_taskLimit) (nI k) (cc_bI e) (cc_bI f) g := by
  have hv : vp_in (nI k) 3 := vp_in_nI hk (by omega)
  have hc : (nI k).toNatClampNeg = k := nI_clamp (by omega)
  have core : ∀ va : Nat → Int32, cc_cVa a_counterLast a_counterValue k e f = va → wY_counter_37 post (nI k) (cc_bI e) g f_time f_active f_running f_open f_depth f_tasks f_begun a_variables a_cells a_inputs a_outputs a_timerOn a_timerBegin a_timerElapsed a_timerDone a_counterLast va a_counterDone a_edgeLast a_edgeDone a_sizes a_tokens a_ends a_wants a_numbers a_taskKind a_taskAt a_taskRounds a_taskLimit := by
    intro va hva
    rw [hva] at h
    refine ⟨hv, ?_⟩
    refine nm_r (e' := upd a_counterLast k (cc_bI e)) (by rw [hc, cc_vb]) ?_
    refine ⟨hv, ?_⟩
    rw [hc]
    refine br_c (fun z => br_t rfl ⟨hv, ?_⟩) (fun z => br_f cc_n10 ⟨hv, ?_⟩)
    · refine nm_r (e' := cc_cDo va a_counterDone k g) (by rw [hc]; unfold cc_cDo; rw [if_pos z]) ?_
      exact h
    · refine nm_r (e' := cc_cDo va a_counterDone k g) (by rw [hc]; unfold cc_cDo; rw [if_neg z]) ?_
      exact h
  cases f with
  | true =>
    refine br_f cc_n10 ⟨hv, ?_⟩
    refine nm_e ?_
    rw [hc]
    exact core _ rfl
  | false =>
    refine br_t cc_bf ?_
    cases e with
    | false => exact br_t cc_bf (core a_counterValue (by unfold cc_cVa; rw [if_neg (fun z => by cases z), if_neg (fun z => by cases z.1)]))
    | true =>
      refine br_f cc_n10 ⟨hv, ?_⟩
      rw [hc]
      refine br_c (fun z => ⟨hv, hv, ?_⟩) (fun z => ?_)
      · refine nm_e ?_
        exact core _ (by unfold cc_cVa; rw [if_neg (fun z => by cases z), if_pos ⟨rfl, z⟩])
      · exact core a_counterValue (by unfold cc_cVa; rw [if_neg (fun z => by cases z), if_neg (fun y => z y.2)])

theorem cc_yed {post : SY → Prop} {k : Nat} {e : Bool} (hk : k < 3)
    (h : post (f_time, f_active, f_running, f_open, f_depth, f_tasks, f_begun, a_variables, a_cells, a_inputs, a_outputs, a_timerOn, a_timerBegin, a_timerElapsed, a_timerDone, a_counterLast, a_counterValue, a_counterDone, upd a_edgeLast k (cc_bI e), cc_eDo a_edgeLast a_edgeDone k e, a_sizes, a_tokens, a_ends, a_wants, a_numbers, a_taskKind, a_taskAt, a_taskRounds, a_taskLimit)) : wpY_edge post (f_time, f_active, f_running, f_open, f_depth, f_tasks, f_begun, a_variables, a_cells, a_inputs, a_outputs, a_timerOn, a_timerBegin, a_timerElapsed, a_timerDone, a_counterLast, a_counterValue, a_counterDone, a_edgeLast, a_edgeDone, a_sizes, a_tokens, a_ends, a_wants, a_numbers, a_taskKind, a_taskAt, a_taskRounds, a_taskLimit) (nI k) (cc_bI e) := by
  have hv : vp_in (nI k) 3 := vp_in_nI hk (by omega)
  have hc : (nI k).toNatClampNeg = k := nI_clamp (by omega)
  have c23 : ¬ (e = true ∧ a_edgeLast k = 0) → wY_edge_23 post (nI k) (cc_bI e) (nI k) f_time f_active f_running f_open f_depth f_tasks f_begun a_variables a_cells a_inputs a_outputs a_timerOn a_timerBegin a_timerElapsed a_timerDone a_counterLast a_counterValue a_counterDone a_edgeLast a_edgeDone a_sizes a_tokens a_ends a_wants a_numbers a_taskKind a_taskAt a_taskRounds a_taskLimit := by
    intro z
    refine br_t rfl ⟨hv, ?_⟩
    refine nm_r (e' := cc_eDo a_edgeLast a_edgeDone k e) (by rw [hc]; unfold cc_eDo; rw [if_neg z]) ?_
    refine ⟨hv, ?_⟩
    refine nm_r (e' := upd a_edgeLast k (cc_bI e)) (by rw [hc, cc_vb]) ?_
    exact h
  cases e with
  | false => exact br_t cc_bf (c23 (fun z => by cases z.1))
  | true =>
    refine br_f cc_n10 ⟨hv, ?_⟩
    rw [hc]
    refine br_c (fun z => br_f cc_n10 ⟨hv, ?_⟩) (fun z => c23 (fun y => z y.2))
    refine nm_r (e' := cc_eDo a_edgeLast a_edgeDone k true) (by rw [hc]; unfold cc_eDo; rw [if_pos ⟨rfl, z⟩]) ?_
    refine ⟨hv, ?_⟩
    refine nm_r (e' := upd a_edgeLast k (cc_bI true)) (by rw [hc, cc_vb]) ?_
    exact h

theorem cc_ytd {post : SY → Prop} {m : Nat} {x y z u : Int32} (hm : m < 256)
    (h : post (f_time, f_active, f_running, f_open, f_depth, nI (m + 1), f_begun, a_variables, a_cells, a_inputs, a_outputs, a_timerOn, a_timerBegin, a_timerElapsed, a_timerDone, a_counterLast, a_counterValue, a_counterDone, a_edgeLast, a_edgeDone, a_sizes, a_tokens, a_ends, a_wants, a_numbers, upd a_taskKind m x, upd a_taskAt m y, upd a_taskRounds m z, upd a_taskLimit m u)) :
    wpY_toDo post (f_time, f_active, f_running, f_open, f_depth, nI m, f_begun, a_variables, a_cells, a_inputs, a_outputs, a_timerOn, a_timerBegin, a_timerElapsed, a_timerDone, a_counterLast, a_counterValue, a_counterDone, a_edgeLast, a_edgeDone, a_sizes, a_tokens, a_ends, a_wants, a_numbers, a_taskKind, a_taskAt, a_taskRounds, a_taskLimit) x y z u := by
  have hv : vp_in (nI m) 256 := vp_in_nI hm (by omega)
  have hc : (nI m).toNatClampNeg = m := nI_clamp (by omega)
  refine ⟨hv, ?_⟩
  rw [hc]
  refine nm_e ⟨hv, ?_⟩
  refine nm_e ⟨hv, ?_⟩
  refine nm_e ⟨hv, ?_⟩
  refine nm_e ?_
  refine nm_r (e' := nI (m + 1)) (nI_1 m) ?_
  exact h

theorem cc_yll {post : SY → Prop} {a : Nat} {L : List (Nat × Nat × Int32)} (hlen : L.length ≤ 60) (hn1 : cc_n1 L)
    (hys : cc_ys a a_taskKind a_taskAt a_taskRounds a_taskLimit L)
    (h : post (f_time, f_active, f_running, f_open, f_depth, nI (cc_lv L).length, f_begun, a_variables, a_cells, a_inputs, a_outputs, a_timerOn, a_timerBegin, a_timerElapsed, a_timerDone, a_counterLast, a_counterValue, a_counterDone, a_edgeLast, a_edgeDone, a_sizes, a_tokens, a_ends, a_wants, a_numbers, a_taskKind, a_taskAt, a_taskRounds, a_taskLimit)) :
    wY_leave_2 post f_time f_active f_running f_open f_depth f_begun a_variables a_cells a_inputs a_outputs a_timerOn a_timerBegin a_timerElapsed a_timerDone a_counterLast a_counterValue a_counterDone a_edgeLast a_edgeDone a_sizes a_tokens a_ends a_wants a_numbers a_taskKind a_taskAt a_taskRounds a_taskLimit (L.length + 2) 0 (nI L.length) := by
  induction L with
  | nil => exact br_t (by decide) h
  | cons e L ih =>
    simp only [List.length_cons] at hlen ⊢
    have hc : (nI L.length).toNatClampNeg = L.length := nI_clamp (by omega)
    refine br_f (cc_nle (L.length + 1) 0 (by omega)) ?_
    refine br_t rfl ?_
    refine nm_r (e' := nI L.length) (nI_pred _) ⟨vp_in_nI (by omega) (by omega), ?_⟩
    have h1 := hys.1
    have h2 := hn1 e (List.mem_cons_self)
    rw [hc, h1]
    by_cases z : e.2.1 = 0
    · refine br_f (by rw [z]; decide) ?_
      refine ih (by omega) (fun x hx => hn1 x (List.mem_cons_of_mem _ hx)) hys.2.2.2.2 ?_
      simp only [cc_lv, z, if_true] at h
      exact h
    · refine br_t (by unfold cc_yk; rw [if_neg z, if_neg h2]) ?_
      simp only [cc_lv, z, if_false] at h
      refine br_c (fun y => h) (fun y => br_f cc_n10 h)

theorem cc_yle {post : SY → Prop} {a : Nat} {L : List (Nat × Nat × Int32)} (hlen : L.length ≤ 60) (hn1 : cc_n1 L)
    (hys : cc_ys a a_taskKind a_taskAt a_taskRounds a_taskLimit L)
    (h : post (f_time, f_active, f_running, f_open, f_depth, nI (cc_lv L).length, f_begun, a_variables, a_cells, a_inputs, a_outputs, a_timerOn, a_timerBegin, a_timerElapsed, a_timerDone, a_counterLast, a_counterValue, a_counterDone, a_edgeLast, a_edgeDone, a_sizes, a_tokens, a_ends, a_wants, a_numbers, a_taskKind, a_taskAt, a_taskRounds, a_taskLimit)) : wpY_leave post (f_time, f_active, f_running, f_open, f_depth, nI L.length, f_begun, a_variables, a_cells, a_inputs, a_outputs, a_timerOn, a_timerBegin, a_timerElapsed, a_timerDone, a_counterLast, a_counterValue, a_counterDone, a_edgeLast, a_edgeDone, a_sizes, a_tokens, a_ends, a_wants, a_numbers, a_taskKind, a_taskAt, a_taskRounds, a_taskLimit) :=
  ⟨L.length + 2, cc_yll hlen hn1 hys h⟩
end
