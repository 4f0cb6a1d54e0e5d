section
variable {f_time f_active f_running f_pending f_roundsBegun : Int32} {a_variables a_row a_inputs a_outputs a_timerOn a_timerBegin a_timerElapsed a_timerDone a_counterLast a_counterValue a_counterDone a_edgeLast a_edgeDone a_tokens a_lengths a_ends a_worths a_pendingPlaces a_pendingRounds a_pendingLimits : Nat → Int32}
theorem cc_xip {post : Int32 → Prop} {p : Nat} (hp : p < 2) (h : post 1) : wpX_isProgram post (nI p) :=
  br_f (cc_nlt p 0 (by omega)) (br_f (cc_nle 2 p hp) h)
theorem cc_xlT {post : Int32 → Prop} {x : Int32} (h1 : ¬ f_running = 0) (h2 : x = f_active) (h : post 1) : wpX_isLocked post (f_time, f_active, f_running, f_pending, f_roundsBegun, a_variables, a_row, a_inputs, a_outputs, a_timerOn, a_timerBegin, a_timerElapsed, a_timerDone, a_counterLast, a_counterValue, a_counterDone, a_edgeLast, a_edgeDone, a_tokens, a_lengths, a_ends, a_worths, a_pendingPlaces, a_pendingRounds, a_pendingLimits) x := br_f h1 (br_t h2 h)
theorem cc_xlF {post : Int32 → Prop} {x : Int32} (h1 : ¬ (¬ f_running = 0 ∧ x = f_active)) (h : post 0) : wpX_isLocked post (f_time, f_active, f_running, f_pending, f_roundsBegun, a_variables, a_row, a_inputs, a_outputs, a_timerOn, a_timerBegin, a_timerElapsed, a_timerDone, a_counterLast, a_counterValue, a_counterDone, a_edgeLast, a_edgeDone, a_tokens, a_lengths, a_ends, a_worths, a_pendingPlaces, a_pendingRounds, a_pendingLimits) x :=
  br_c (fun _ => h) (fun z => br_f (fun y => h1 ⟨z, y⟩) h)
end
section
variable {f_time f_active f_running f_open f_depth f_tasks f_begun : Int32} {a_variables a_cells a_inputs a_outputs a_timerOn a_timerBegin a_timerElapsed a_timerDone a_counterLast a_counterValue a_counterDone a_edgeLast a_edgeDone a_sizes a_tokens a_ends a_wants a_numbers a_taskKind a_taskAt a_taskRounds a_taskLimit : Nat → Int32}
theorem cc_ybp {post : Int32 → Prop} {p : Nat} (hp : p < 2) (h : post 0) : wpY_badProgram post (f_time, f_active, f_running, f_open, f_depth, f_tasks, f_begun, a_variables, a_cells, a_inputs, a_outputs, a_timerOn, a_timerBegin, a_timerElapsed, a_timerDone, a_counterLast, a_counterValue, a_counterDone, a_edgeLast, a_edgeDone, a_sizes, a_tokens, a_ends, a_wants, a_numbers, a_taskKind, a_taskAt, a_taskRounds, a_taskLimit) (nI p) :=
  br_f (cc_nlt p 0 (by omega)) (br_t (cc_le p 1 (by omega)) h)
theorem cc_ylT {post : Int32 → Prop} {x : Int32} (h1 : ¬ f_running = 0) (h2 : x = f_active) (h : post 1) : wpY_isBusy post (f_time, f_active, f_running, f_open, f_depth, f_tasks, f_begun, a_variables, a_cells, a_inputs, a_outputs, a_timerOn, a_timerBegin, a_timerElapsed, a_timerDone, a_counterLast, a_counterValue, a_counterDone, a_edgeLast, a_edgeDone, a_sizes, a_tokens, a_ends, a_wants, a_numbers, a_taskKind, a_taskAt, a_taskRounds, a_taskLimit) x := br_f h1 (br_t h2 h)
theorem cc_ylF {post : Int32 → Prop} {x : Int32} (h1 : ¬ (¬ f_running = 0 ∧ x = f_active)) (h : post 0) : wpY_isBusy post (f_time, f_active, f_running, f_open, f_depth, f_tasks, f_begun, a_variables, a_cells, a_inputs, a_outputs, a_timerOn, a_timerBegin, a_timerElapsed, a_timerDone, a_counterLast, a_counterValue, a_counterDone, a_edgeLast, a_edgeDone, a_sizes, a_tokens, a_ends, a_wants, a_numbers, a_taskKind, a_taskAt, a_taskRounds, a_taskLimit) x :=
  br_c (fun _ => h) (fun z => br_f (fun y => h1 ⟨z, y⟩) h)
end

def cc_uN (N : Nat → Nat) (p x : Nat) : Nat → Nat := fun q => if q = p then x else N q
def cc_uT (T : Nat → Nat → Nat) (p m t : Nat) : Nat → Nat → Nat := fun q i => if q = p ∧ i = m then t else T q i
theorem cc_uNs (N : Nat → Nat) (p x : Nat) : cc_uN N p x p = x := if_pos rfl
theorem cc_uNn {N : Nat → Nat} {p q x : Nat} (h : q ≠ p) : cc_uN N p x q = N q := if_neg h
theorem cc_uTo {T : Nat → Nat → Nat} {p q m t : Nat} (h : q ≠ p) : cc_uT T p m t q = T q := by
  funext i
  exact if_neg (fun z => h z.1)
theorem cc_uTs {T : Nat → Nat → Nat} {p m t : Nat} : cc_uT T p m t p m = t := if_pos ⟨rfl, rfl⟩
theorem cc_uTb {T : Nat → Nat → Nat} {p m t i : Nat} (h : i < m) : cc_uT T p m t p i = T p i := if_neg (fun z => by omega)

theorem cc_I_less {T : Nat → Nat → Nat} {N : Nat → Nat} {a p x : Nat} {f_running : Int32} {a_timerOn a_tokens a_lengths a_ends b_tokens : Nat → Int32}
    (hI : cc_I T N a f_running a_timerOn a_tokens a_lengths a_ends b_tokens) (hp : p < 2) (hx : x ≤ N p) (hun : ¬ (¬ f_running = 0 ∧ nI p = nI a)) :
    cc_I T (cc_uN N p x) a f_running a_timerOn a_tokens (upd a_lengths p (nI x)) a_ends b_tokens := by
  obtain ⟨ha, hb01, heb, hpr, hrun⟩ := hI
  refine ⟨ha, hb01, heb, fun q hq => ?_, fun z => ?_⟩
  · obtain ⟨p1, p2, p3, p4, p5⟩ := hpr q hq
    by_cases e : q = p
    · subst e
      rw [cc_uNs, cc_u_s]
      exact ⟨by omega, rfl, cc_ok_le hx p3, fun i hi => p4 i (by omega), fun i hi => p5 i (by omega)⟩
    · rw [cc_uNn e, cc_u_n e]
      exact ⟨p1, p2, p3, p4, p5⟩
  · have e : a ≠ p := fun y => hun ⟨z, by rw [y]⟩
    rw [cc_uNn e]
    exact hrun z

theorem i_vc_back {k : Nat} {u : SX} {v : SY} (I : i_Rel k u v) (hk : k + 3 ≤ 1536) (v1 : Int32) : wpX_back (fun r u' => wpY_back (fun r' v' => r' = r ∧ i_Rel (k + 3) u' v') v v1) u v1 := by
  obtain ⟨T, N, a, f_time, f_running, f_pending, f_roundsBegun, f_open, f_depth, f_tasks, f_begun, a_variables, a_row, a_inputs, a_outputs, a_timerOn, a_timerBegin, a_timerElapsed, a_timerDone, a_counterLast, a_counterValue, a_counterDone, a_edgeLast, a_edgeDone, a_tokens, a_lengths, a_ends, a_worths, a_pendingPlaces, a_pendingRounds, a_pendingLimits, b_tokens, b_ends, b_wants, a_numbers, a_taskKind, a_taskAt, a_taskRounds, a_taskLimit, rfl, rfl, ⟨ha, hb01, heb, hpr, hrun⟩⟩ := I
  have hI : cc_I T N a f_running a_timerOn a_tokens a_lengths a_ends b_tokens := ⟨ha, hb01, heb, hpr, hrun⟩
  rcases pk_ix v1 (n := 2) (by omega) with h | h | ⟨p, hp, rfl⟩
  · exact br_t h (br_t rfl (br_t h (br_f cc_n10 ⟨rfl, cc_rel hI⟩)))
  · obtain ⟨b1, b2, b3⟩ := cc_big h (by omega)
    exact br_f b1 (br_t h (br_t rfl (br_f b1 (br_f (b3 1 (by omega)) (br_f cc_n10 ⟨rfl, cc_rel hI⟩)))))
  · have hv : vp_in (nI p) 2 := vp_in_nI hp (by omega)
    have hc : (nI p).toNatClampNeg = p := nI_clamp (by omega)
    obtain ⟨p1, p2, p3, p4, p5⟩ := hpr p hp
    unfold wpX_back
    dsimp only
    refine cc_xip hp ?_
    refine br_f cc_n10 ?_
    by_cases hlk : ¬ f_running = 0 ∧ nI p = nI a
    · refine cc_xlT hlk.1 hlk.2 ?_
      refine br_f cc_n10 ?_
      unfold wpY_back
      dsimp only
      refine cc_ybp hp ?_
      refine br_t rfl ?_
      refine cc_ylT hlk.1 hlk.2 ?_
      exact br_f cc_n10 ⟨rfl, cc_rel hI⟩
    · refine cc_xlF hlk ?_
      refine br_t rfl ⟨hv, ?_⟩
      rw [hc, p2]
      refine pk_eq (N p) 0 (fun z => ?_) (fun z => ⟨hv, hv, ?_⟩)
      · unfold wpY_back
        dsimp only
        refine cc_ybp hp ?_
        refine br_t rfl ?_
        refine cc_ylF hlk ?_
        refine br_t rfl ⟨hv, ?_⟩
        rw [hc, p2]
        exact br_t (cc_eq (N p) 0 z) ⟨rfl, cc_rel hI⟩
      · refine nm_r (e' := upd a_lengths p (nI (N p - 1))) (by rw [cc_s1 (by omega)]) ⟨hv, ?_⟩
        unfold wpY_back
        dsimp only
        refine cc_ybp hp ?_
        refine br_t rfl ?_
        refine cc_ylF hlk ?_
        refine br_t rfl ⟨hv, ?_⟩
        rw [hc, p2]
        refine br_f (cc_ne (N p) 0 z) ⟨hv, hv, ?_⟩
        refine nm_r (e' := upd a_lengths p (nI (N p - 1))) (by rw [cc_s1 (by omega)]) ⟨hv, rfl, ?_⟩
        exact cc_rel (cc_I_less hI hp (by omega) hlk)

theorem i_vc_erase {k : Nat} {u : SX} {v : SY} (I : i_Rel k u v) (hk : k + 3 ≤ 1536) (v1 : Int32) : wpX_erase (fun r u' => wpY_erase (fun r' v' => r' = r ∧ i_Rel (k + 3) u' v') v v1) u v1 := by
  obtain ⟨T, N, a, f_time, f_running, f_pending, f_roundsBegun, f_open, f_depth, f_tasks, f_begun, a_variables, a_row, a_inputs, a_outputs, a_timerOn, a_timerBegin, a_timerElapsed, a_timerDone, a_counterLast, a_counterValue, a_counterDone, a_edgeLast, a_edgeDone, a_tokens, a_lengths, a_ends, a_worths, a_pendingPlaces, a_pendingRounds, a_pendingLimits, b_tokens, b_ends, b_wants, a_numbers, a_taskKind, a_taskAt, a_taskRounds, a_taskLimit, rfl, rfl, ⟨ha, hb01, heb, hpr, hrun⟩⟩ := I
  have hI : cc_I T N a f_running a_timerOn a_tokens a_lengths a_ends b_tokens := ⟨ha, hb01, heb, hpr, hrun⟩
  rcases pk_ix v1 (n := 2) (by omega) with h | h | ⟨p, hp, rfl⟩
  · exact br_t h (br_t rfl (br_t h (br_f cc_n10 ⟨rfl, cc_rel hI⟩)))
  · obtain ⟨b1, b2, b3⟩ := cc_big h (by omega)
    exact br_f b1 (br_t h (br_t rfl (br_f b1 (br_f (b3 1 (by omega)) (br_f cc_n10 ⟨rfl, cc_rel hI⟩)))))
  · have hv : vp_in (nI p) 2 := vp_in_nI hp (by omega)
    have hc : (nI p).toNatClampNeg = p := nI_clamp (by omega)
    unfold wpX_erase
    dsimp only
    refine cc_xip hp ?_
    refine br_f cc_n10 ?_
    by_cases hlk : ¬ f_running = 0 ∧ nI p = nI a
    · refine cc_xlT hlk.1 hlk.2 ?_
      refine br_f cc_n10 ?_
      unfold wpY_erase
      dsimp only
      refine cc_ybp hp ?_
      refine br_t rfl ?_
      refine cc_ylT hlk.1 hlk.2 ?_
      exact br_f cc_n10 ⟨rfl, cc_rel hI⟩
    · refine cc_xlF hlk ?_
      refine br_t rfl ⟨hv, ?_⟩
      refine nm_e ⟨hv, ?_⟩
      refine nm_r (e' := upd a_lengths p (nI 0)) (by rw [hc]; rfl) ?_
      unfold wpY_erase
      dsimp only
      refine cc_ybp hp ?_
      refine br_t rfl ?_
      refine cc_ylF hlk ?_
      refine br_t rfl ⟨hv, ?_⟩
      refine nm_e ⟨hv, ?_⟩
      refine nm_r (e' := upd a_lengths p (nI 0)) (by rw [hc]; rfl) ⟨rfl, ?_⟩
      exact cc_rel (cc_I_less hI hp (Nat.zero_le _) hlk)

theorem cc_nk0 {T : Nat → Nat} {n : Nat} : cc_nk (cc_sk T n) = 0 ↔ cc_h T n = 0 := by
  unfold cc_h
  cases cc_sk T n with
  | nil => simp [cc_nk]
  | cons b l => cases b <;> simp [cc_nk]

theorem cc_nkle (l : List Bool) : cc_nk l ≤ 2 := by
  unfold cc_nk
  split
  · omega
  · split <;> omega

theorem i_vc_complete {k : Nat} {u : SX} {v : SY} (I : i_Rel k u v) (hk : k + 3 ≤ 1536) (v1 : Int32) : wpX_complete (fun r => wpY_complete (fun r' v' => r' = r ∧ i_Rel (k + 3) u v') v v1) u v1 := by
  obtain ⟨T, N, a, f_time, f_running, f_pending, f_roundsBegun, f_open, f_depth, f_tasks, f_begun, a_variables, a_row, a_inputs, a_outputs, a_timerOn, a_timerBegin, a_timerElapsed, a_timerDone, a_counterLast, a_counterValue, a_counterDone, a_edgeLast, a_edgeDone, a_tokens, a_lengths, a_ends, a_worths, a_pendingPlaces, a_pendingRounds, a_pendingLimits, b_tokens, b_ends, b_wants, a_numbers, a_taskKind, a_taskAt, a_taskRounds, a_taskLimit, rfl, rfl, ⟨ha, hb01, heb, hpr, hrun⟩⟩ := I
  have hI : cc_I T N a f_running a_timerOn a_tokens a_lengths a_ends b_tokens := ⟨ha, hb01, heb, hpr, hrun⟩
  rcases pk_ix v1 (n := 2) (by omega) with h | h | ⟨p, hp, rfl⟩
  · exact br_t h (br_t rfl (br_t h (br_f cc_n10 ⟨rfl, cc_rel hI⟩)))
  · obtain ⟨b1, b2, b3⟩ := cc_big h (by omega)
    exact br_f b1 (br_t h (br_t rfl (br_f b1 (br_f (b3 1 (by omega)) (br_f cc_n10 ⟨rfl, cc_rel hI⟩)))))
  · obtain ⟨p1, p2, p3, p4, p5⟩ := hpr p hp
    have hle := cc_h_le (T p) (N p)
    have hkl := cc_nkle (cc_sk (T p) (N p))
    unfold wpX_complete
    dsimp only
    refine cc_xip hp ?_
    refine br_f cc_n10 ?_
    refine cc_xnk hp p1 p3 p2 p4 ?_
    refine pk_eq (cc_nk (cc_sk (T p) (N p))) 0 (fun z => ?_) (fun z => ?_)
    · unfold wpY_complete
      dsimp only
      refine cc_ybp hp ?_
      refine br_t rfl ?_
      refine cc_ysc hp p1 p3 p2 p5 (fun w hw => ?_)
      exact br_t (cc_eq (cc_h (T p) (N p)) 0 (cc_nk0.mp z)) ⟨rfl, cc_rel hI⟩
    · unfold wpY_complete
      dsimp only
      refine cc_ybp hp ?_
      refine br_t rfl ?_
      refine cc_ysc hp p1 p3 p2 p5 (fun w hw => ?_)
      exact br_f (cc_ne (cc_h (T p) (N p)) 0 (fun y => z (cc_nk0.mpr y))) ⟨rfl, cc_rel hI⟩

theorem i_vc_activate {k : Nat} {u : SX} {v : SY} (I : i_Rel k u v) (hk : k + 3 ≤ 1536) (v1 : Int32) : wpX_activate (fun r u' => wpY_activate (fun r' v' => r' = r ∧ i_Rel (k + 3) u' v') v v1) u v1 := by
  obtain ⟨T, N, a, f_time, f_running, f_pending, f_roundsBegun, f_open, f_depth, f_tasks, f_begun, a_variables, a_row, a_inputs, a_outputs, a_timerOn, a_timerBegin, a_timerElapsed, a_timerDone, a_counterLast, a_counterValue, a_counterDone, a_edgeLast, a_edgeDone, a_tokens, a_lengths, a_ends, a_worths, a_pendingPlaces, a_pendingRounds, a_pendingLimits, b_tokens, b_ends, b_wants, a_numbers, a_taskKind, a_taskAt, a_taskRounds, a_taskLimit, rfl, rfl, ⟨ha, hb01, heb, hpr, hrun⟩⟩ := I
  have hI : cc_I T N a f_running a_timerOn a_tokens a_lengths a_ends b_tokens := ⟨ha, hb01, heb, hpr, hrun⟩
  rcases pk_ix v1 (n := 2) (by omega) with h | h | ⟨p, hp, rfl⟩
  · exact br_t h (br_t rfl (br_t h (br_f cc_n10 ⟨rfl, cc_rel hI⟩)))
  · obtain ⟨b1, b2, b3⟩ := cc_big h (by omega)
    exact br_f b1 (br_t h (br_t rfl (br_f b1 (br_f (b3 1 (by omega)) (br_f cc_n10 ⟨rfl, cc_rel hI⟩)))))
  · obtain ⟨p1, p2, p3, p4, p5⟩ := hpr p hp
    have hle := cc_h_le (T p) (N p)
    have hkl := cc_nkle (cc_sk (T p) (N p))
    unfold wpX_activate
    dsimp only
    refine cc_xip hp ?_
    refine br_f cc_n10 ?_
    refine cc_xnk hp p1 p3 p2 p4 ?_
    refine pk_eq (cc_nk (cc_sk (T p) (N p))) 0 (fun z => ?_) (fun z => ?_)
    · have hz := cc_nk0.mp z
      refine cc_xfe (T := T p) (n := N p) (a := p) ⟨p3, hz, p1⟩ hp p2 p4 heb (fun e he1 he2 => ?_)
      unfold wpY_activate
      dsimp only
      refine cc_ybp hp ?_
      refine br_t rfl ?_
      unfold wpY_complete
      dsimp only
      refine cc_ybp hp ?_
      refine br_t rfl ?_
      refine cc_ysc hp p1 p3 p2 p5 (fun w hw => ?_)
      refine br_t (cc_eq (cc_h (T p) (N p)) 0 hz) ?_
      refine br_f cc_n10 ⟨rfl, ?_⟩
      exact cc_rel (a := p) ⟨hp, hb01, he1, hpr, fun _ => ⟨hz, he2⟩⟩
    · unfold wpY_activate
      dsimp only
      refine cc_ybp hp ?_
      refine br_t rfl ?_
      unfold wpY_complete
      dsimp only
      refine cc_ybp hp ?_
      refine br_t rfl ?_
      refine cc_ysc hp p1 p3 p2 p5 (fun w hw => ?_)
      refine br_f (cc_ne (cc_h (T p) (N p)) 0 (fun y => z (cc_nk0.mpr y))) ?_
      exact br_t rfl ⟨rfl, cc_rel hI⟩

theorem cc_I_feed {T : Nat → Nat → Nat} {N : Nat → Nat} {a p t : Nat} {b : Bool} {l : List Bool} {f_running : Int32} {a_timerOn a_tokens a_lengths a_ends b_tokens : Nat → Int32}
    (hI : cc_I T N a f_running a_timerOn a_tokens a_lengths a_ends b_tokens) (hp : p < 2) (hN : N p < 60) (hun : ¬ (¬ f_running = 0 ∧ nI p = nI a))
    (hsk : cc_sk (T p) (N p) = b :: l) (hst : cc_st t = b) (hva : cc_st t = true ∨ cc_ex t = true) :
    cc_I (cc_uT T p (N p) t) (cc_uN N p (N p + 1)) a f_running a_timerOn (upd a_tokens (p * 61 + N p) (nI t)) (upd a_lengths p (nI (N p + 1))) a_ends (upd b_tokens (60 * p + N p) (nI t)) := by
  obtain ⟨ha, hb01, heb, hpr, hrun⟩ := hI
  refine ⟨ha, hb01, heb, fun q hq => ?_, fun z => ?_⟩
  · obtain ⟨p1, p2, p3, p4, p5⟩ := hpr q hq
    by_cases e : q = p
    · subst e
      rw [cc_uNs, cc_u_s]
      refine ⟨by omega, rfl, ?_, fun i hi => ?_, fun i hi => ?_⟩
      · have ag : ∀ i, i < N q → T q i = cc_uT T q (N q) t q i := fun i hi => (cc_uTb hi).symm
        intro k hk
        by_cases e : k = N q
        · subst e
          rw [← cc_sk_congr ag, cc_uTs, hsk, hst]
          exact ⟨rfl, by rw [← hst]; exact hva⟩
        · exact cc_ok_congr ag p3 k (by omega)
      · by_cases e : i = N q
        · subst e; rw [cc_u_s, cc_uTs]
        · rw [cc_u_n (by omega), cc_uTb (by omega)]; exact p4 i (by omega)
      · by_cases e : i = N q
        · subst e; rw [cc_u_s, cc_uTs]
        · rw [cc_u_n (by omega), cc_uTb (by omega)]; exact p5 i (by omega)
    · rw [cc_uNn e, cc_u_n e, cc_uTo e]
      refine ⟨p1, p2, p3, fun i hi => ?_, fun i hi => ?_⟩
      · rw [cc_u_n (by omega)]; exact p4 i hi
      · rw [cc_u_n (by omega)]; exact p5 i hi
  · have e : a ≠ p := fun y => hun ⟨z, by rw [y]⟩
    rw [cc_uNn e, cc_uTo e]
    exact hrun z

theorem i_vc_feed {k : Nat} {u : SX} {v : SY} (I : i_Rel k u v) (hk : k + 3 ≤ 1536) (v1 : Int32) (v2 : Int32) : wpX_feed (fun r u' => wpY_feed (fun r' v' => r' = r ∧ i_Rel (k + 3) u' v') v v1 v2) u v1 v2 := by
  obtain ⟨T, N, a, f_time, f_running, f_pending, f_roundsBegun, f_open, f_depth, f_tasks, f_begun, a_variables, a_row, a_inputs, a_outputs, a_timerOn, a_timerBegin, a_timerElapsed, a_timerDone, a_counterLast, a_counterValue, a_counterDone, a_edgeLast, a_edgeDone, a_tokens, a_lengths, a_ends, a_worths, a_pendingPlaces, a_pendingRounds, a_pendingLimits, b_tokens, b_ends, b_wants, a_numbers, a_taskKind, a_taskAt, a_taskRounds, a_taskLimit, rfl, rfl, ⟨ha, hb01, heb, hpr, hrun⟩⟩ := I
  have hI : cc_I T N a f_running a_timerOn a_tokens a_lengths a_ends b_tokens := ⟨ha, hb01, heb, hpr, hrun⟩
  rcases pk_ix v1 (n := 2) (by omega) with h | h | ⟨p, hp, rfl⟩
  · exact br_t h (br_t rfl (br_t h (br_f cc_n10 ⟨rfl, cc_rel hI⟩)))
  · obtain ⟨b1, b2, b3⟩ := cc_big h (by omega)
    exact br_f b1 (br_t h (br_t rfl (br_f b1 (br_f (b3 1 (by omega)) (br_f cc_n10 ⟨rfl, cc_rel hI⟩)))))
  · have hv : vp_in (nI p) 2 := vp_in_nI hp (by omega)
    have hc : (nI p).toNatClampNeg = p := nI_clamp (by omega)
    obtain ⟨p1, p2, p3, p4, p5⟩ := hpr p hp
    have hle := cc_h_le (T p) (N p)
    have hkl := cc_nkle (cc_sk (T p) (N p))
    unfold wpX_feed
    dsimp only
    refine cc_xip hp ?_
    refine br_f cc_n10 ?_
    by_cases hlk : ¬ f_running = 0 ∧ nI p = nI a
    · refine cc_xlT hlk.1 hlk.2 ?_
      refine br_f cc_n10 ?_
      unfold wpY_feed
      dsimp only
      refine cc_ybp hp ?_
      refine br_t rfl ?_
      refine cc_ylT hlk.1 hlk.2 ?_
      exact br_f cc_n10 ⟨rfl, cc_rel hI⟩
    · refine cc_xlF hlk ?_
      refine br_t rfl ?_
      refine cc_xnk hp p1 p3 p2 p4 ?_
      refine pk_eq (cc_nk (cc_sk (T p) (N p))) 0 (fun z => ?_) (fun z => ⟨hv, ?_⟩)
      · unfold wpY_feed
        dsimp only
        refine cc_ybp hp ?_
        refine br_t rfl ?_
        refine cc_ylF hlk ?_
        refine br_t rfl ?_
        refine cc_ysc hp p1 p3 p2 p5 (fun w hw => ?_)
        exact br_t (cc_eq (cc_h (T p) (N p)) 0 (cc_nk0.mp z)) ⟨rfl, cc_rel hI⟩
      · have hnz : cc_h (T p) (N p) ≠ 0 := fun y => z (cc_nk0.mpr y)
        rw [hc, p2]
        refine pk_lt (N p) 60 (fun y => ?_) (fun y => ?_)
        · obtain ⟨b, l, hsk⟩ : ∃ b l, cc_sk (T p) (N p) = b :: l := by
            cases hl : cc_sk (T p) (N p) with
            | nil => exact absurd (by unfold cc_h; rw [hl]; rfl) hnz
            | cons b l => exact ⟨b, l, rfl⟩
          have hhl : cc_h (T p) (N p) = l.length + 1 := by unfold cc_h; rw [hsk]; rfl
          refine cc_xko (fun kk hkk => ?_)
          have hnkb : cc_nk (cc_sk (T p) (N p)) = if b = true then 1 else 2 := by rw [hsk]; rfl
          have hkk2 : kk ≤ 2 := by
            rw [← hkk]
            unfold cc_kI
            repeat' split
            all_goals omega
          have yw : ∀ P : Int32 → SY → Prop, (∀ w, (kk = (if b = true then 1 else 2) → wY_feed_82 P (nI p) v2 f_time (nI a) f_running (nI (cc_h (T p) (N p))) f_depth f_tasks f_begun a_variables a_row a_inputs a_outputs a_timerOn a_timerBegin a_timerElapsed a_timerDone a_counterLast a_counterValue a_counterDone a_edgeLast a_edgeDone a_lengths b_tokens b_ends w a_numbers a_taskKind a_taskAt a_taskRounds a_taskLimit) ∧ (¬ kk = (if b = true then 1 else 2) → P (-1) (f_time, nI a, f_running, nI (cc_h (T p) (N p)), f_depth, f_tasks, f_begun, a_variables, a_row, a_inputs, a_outputs, a_timerOn, a_timerBegin, a_timerElapsed, a_timerDone, a_counterLast, a_counterValue, a_counterDone, a_edgeLast, a_edgeDone, a_lengths, b_tokens, b_ends, w, a_numbers, a_taskKind, a_taskAt, a_taskRounds, a_taskLimit))) → wpY_feed P (f_time, nI a, f_running, f_open, f_depth, f_tasks, f_begun, a_variables, a_row, a_inputs, a_outputs, a_timerOn, a_timerBegin, a_timerElapsed, a_timerDone, a_counterLast, a_counterValue, a_counterDone, a_edgeLast, a_edgeDone, a_lengths, b_tokens, b_ends, b_wants, a_numbers, a_taskKind, a_taskAt, a_taskRounds, a_taskLimit) (nI p) v2 := by
            intro P hP
            unfold wpY_feed
            dsimp only
            refine cc_ybp hp ?_
            refine br_t rfl ?_
            refine cc_ylF hlk ?_
            refine br_t rfl ?_
            refine cc_ysc hp p1 p3 p2 p5 (fun w hw => ?_)
            have hPw := hP w
            refine br_f (cc_ne (cc_h (T p) (N p)) 0 hnz) ⟨hv, ?_⟩
            dsimp only
            rw [hc, p2]
            refine br_f (cc_ne (N p) 60 (by omega)) ?_
            rw [show nI (cc_h (T p) (N p)) - 1 = nI l.length from by rw [hhl]; exact nI_pred _]
            refine ⟨vp_in_nI (by omega) (by omega), ?_⟩
            rw [hsk] at hw
            rw [nI_clamp (show l.length < 2 ^ 31 by omega), hw.1]
            cases b with
            | true =>
              refine br_f cc_n10 ?_
              refine cc_yst ?_
              rw [hkk]
              by_cases e : kk = 1
              · rw [if_pos e]; exact br_f cc_n10 (hPw.1 e)
              · rw [if_neg e]; exact br_t rfl (hPw.2 e)
            | false =>
              refine br_t rfl ?_
              refine cc_yex ?_
              rw [hkk]
              by_cases e : kk = 2
              · rw [if_pos e]; exact br_f cc_n10 (hPw.1 e)
              · rw [if_neg e]; exact br_t rfl (hPw.2 e)
          refine pk_eq kk (cc_nk (cc_sk (T p) (N p))) (fun e => ?_) (fun e => ?_)
          · rw [hnkb] at e
            obtain ⟨t, ht, hx, k1, k2⟩ := cc_kI_va (x := v2) (by rw [hkk, e]; split <;> omega)
            have hva : cc_st t = true ∨ cc_ex t = true := by
              cases b with
              | true => exact Or.inl (k1 (hkk.trans e))
              | false => exact Or.inr (k2 (hkk.trans e))
            have hstb : cc_st t = b := by
              cases b with
              | true => exact k1 (hkk.trans e)
              | false => exact cc_st_ex (k2 (hkk.trans e))
            refine ⟨hv, ?_⟩
            rw [cc_a61]
            refine ⟨vp_in_nI (by omega) (by omega), ?_⟩
            refine nm_r (e' := upd a_tokens (p * 61 + N p) (nI t)) (by rw [nI_clamp (by omega), hx]) ⟨hv, hv, ?_⟩
            refine nm_r (e' := upd a_lengths p (nI (N p + 1))) (by rw [nI_1]) ⟨hv, ?_⟩
            refine yw _ (fun w => ⟨fun _ => ?_, fun e' => absurd e e'⟩)
            refine ⟨hv, ?_⟩
            rw [hc, p2, cc_a60]
            refine ⟨vp_in_nI (by omega) (by omega), ?_⟩
            refine nm_r (e' := upd b_tokens (60 * p + N p) (nI t)) (by rw [nI_clamp (by omega), hx]) ⟨hv, hv, ?_⟩
            refine nm_r (e' := upd a_lengths p (nI (N p + 1))) (by rw [nI_1]) ⟨hv, rfl, ?_⟩
            exact cc_rel (cc_I_feed hI hp y hlk hsk hstb hva)
          · rw [hnkb] at e
            refine yw _ (fun w => ⟨fun e' => absurd e' e, fun _ => ⟨rfl, cc_rel hI⟩⟩)
        · unfold wpY_feed
          dsimp only
          refine cc_ybp hp ?_
          refine br_t rfl ?_
          refine cc_ylF hlk ?_
          refine br_t rfl ?_
          refine cc_ysc hp p1 p3 p2 p5 (fun w hw => ?_)
          refine br_f (cc_ne (cc_h (T p) (N p)) 0 hnz) ⟨hv, ?_⟩
          dsimp only
          rw [hc, p2]
          exact br_t (cc_eq (N p) 60 (by omega)) ⟨rfl, cc_rel hI⟩
