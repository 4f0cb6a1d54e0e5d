def cc_zr : (Nat → Int32) → Nat → Nat → (Nat → Int32)
  | f, 0, _ => f
  | f, d + 1, i => cc_zr (upd f i 0) d (i + 1)

theorem cc_zr_b01 {f : Nat → Int32} (h : cc_b01 f) (d i : Nat) : cc_b01 (cc_zr f d i) := by
  induction d generalizing f i with
  | zero => exact h
  | succ d ih =>
    refine ih (fun j => ?_) (i + 1)
    by_cases z : j = i
    · rw [z, cc_u_s]; exact Or.inl rfl
    · rw [cc_u_n z]; exact h j

def cc_sm (f : Nat → Int32) : Nat → Nat → Int32 → Int32
  | 0, _, acc => acc
  | d + 1, i, acc => cc_sm f d (i + 1) (acc + f i)

theorem cc_sm_add (f : Nat → Int32) (d e i : Nat) (acc : Int32) : cc_sm f (d + e) i acc = cc_sm f e (i + d) (cc_sm f d i acc) := by
  induction d generalizing i acc with
  | zero => simp [cc_sm]
  | succ d ih =>
    rw [show d + 1 + e = (d + e) + 1 by omega]
    simp only [cc_sm]
    rw [ih, show i + 1 + d = i + (d + 1) by omega]

section
variable {f_time f_active f_running f_pending f_roundsBegun : Int32} {a_variables a_row a_inputs a_outputs a_timerOn a_timerBegin a_timerElapsed a_timerDone a_counterLast a_counterValue a_counterDone a_edgeLast a_edgeDone a_tokens a_lengths a_ends a_worths a_pendingPlaces a_pendingRounds a_pendingLimits : Nat → Int32}

theorem cc_xr2 {post : SX → Prop} : ∀ (d i : Nat) (f : Nat → Int32), i + d = 16 → (∃ m, wX_restart_23 post f_time f_active f_running f_pending f_roundsBegun m 0 (cc_zr f d i) a_row a_inputs a_outputs a_timerOn a_timerBegin a_timerElapsed a_timerDone a_counterLast a_counterValue a_counterDone a_edgeLast a_edgeDone a_tokens a_lengths a_ends a_worths a_pendingPlaces a_pendingRounds a_pendingLimits) → wX_restart_2 post f_time f_active f_running f_pending f_roundsBegun (d + 1) (nI i) f a_row a_inputs a_outputs a_timerOn a_timerBegin a_timerElapsed a_timerDone a_counterLast a_counterValue a_counterDone a_edgeLast a_edgeDone a_tokens a_lengths a_ends a_worths a_pendingPlaces a_pendingRounds a_pendingLimits := by
  intro d
  induction d with
  | zero =>
    intro i f hi h
    exact br_t (cc_le 16 i (by omega)) h
  | succ d ih =>
    intro i f hi h
    refine br_f (cc_nle 16 i (by omega)) ⟨vp_in_nI (by omega) (by omega), ?_⟩
    refine nm_r (e' := upd f i 0) (by rw [nI_clamp (by omega)]) ?_
    refine nm_r (e' := nI (i + 1)) (nI_1 i) ?_
    exact ih (i + 1) (upd f i 0) (by omega) h

theorem cc_xr23 {post : SX → Prop} : ∀ (d i : Nat) (f : Nat → Int32), i + d = 8 → (∃ m, wX_restart_44 post f_time f_active f_running f_pending f_roundsBegun m 0 a_variables (cc_zr f d i) a_inputs a_outputs a_timerOn a_timerBegin a_timerElapsed a_timerDone a_counterLast a_counterValue a_counterDone a_edgeLast a_edgeDone a_tokens a_lengths a_ends a_worths a_pendingPlaces a_pendingRounds a_pendingLimits) → wX_restart_23 post f_time f_active f_running f_pending f_roundsBegun (d + 1) (nI i) a_variables f a_inputs a_outputs a_timerOn a_timerBegin a_timerElapsed a_timerDone a_counterLast a_counterValue a_counterDone a_edgeLast a_edgeDone a_tokens a_lengths a_ends a_worths a_pendingPlaces a_pendingRounds a_pendingLimits := by
  intro d
  induction d with
  | zero =>
    intro i f hi h
    exact br_t (cc_le 8 i (by omega)) h
  | succ d ih =>
    intro i f hi h
    refine br_f (cc_nle 8 i (by omega)) ⟨vp_in_nI (by omega) (by omega), ?_⟩
    refine nm_r (e' := upd f i 0) (by rw [nI_clamp (by omega)]) ?_
    refine nm_r (e' := nI (i + 1)) (nI_1 i) ?_
    exact ih (i + 1) (upd f i 0) (by omega) h

theorem cc_xr44 {post : SX → Prop} : ∀ (d i : Nat) (f : Nat → Int32), i + d = 4 → (∃ n64, wX_restart_64 post n64 0 f_time f_active f_running f_pending f_roundsBegun a_variables a_row a_inputs (cc_zr f d i) a_timerOn a_timerBegin a_timerElapsed a_timerDone a_counterLast a_counterValue a_counterDone a_edgeLast a_edgeDone a_tokens a_lengths a_ends a_worths a_pendingPlaces a_pendingRounds a_pendingLimits) → wX_restart_44 post f_time f_active f_running f_pending f_roundsBegun (d + 1) (nI i) a_variables a_row a_inputs f a_timerOn a_timerBegin a_timerElapsed a_timerDone a_counterLast a_counterValue a_counterDone a_edgeLast a_edgeDone a_tokens a_lengths a_ends a_worths a_pendingPlaces a_pendingRounds a_pendingLimits := by
  intro d
  induction d with
  | zero =>
    intro i f hi h
    exact br_t (cc_le 4 i (by omega)) h
  | succ d ih =>
    intro i f hi h
    refine br_f (cc_nle 4 i (by omega)) ⟨vp_in_nI (by omega) (by omega), ?_⟩
    refine nm_r (e' := upd f i 0) (by rw [nI_clamp (by omega)]) ?_
    refine nm_r (e' := nI (i + 1)) (nI_1 i) ?_
    exact ih (i + 1) (upd f i 0) (by omega) h

theorem cc_xr64 {post : SX → Prop} : ∀ (d i : Nat) (f0 f1 f2 f3 f4 f5 f6 f7 f8 : Nat → Int32), i + d = 3 → post (f_time, f_active, f_running, f_pending, f_roundsBegun, a_variables, a_row, a_inputs, a_outputs, cc_zr f0 d i, cc_zr f1 d i, cc_zr f2 d i, cc_zr f3 d i, cc_zr f4 d i, cc_zr f5 d i, cc_zr f6 d i, cc_zr f7 d i, cc_zr f8 d i, a_tokens, a_lengths, a_ends, a_worths, a_pendingPlaces, a_pendingRounds, a_pendingLimits) → wX_restart_64 post (d + 1) (nI i) f_time f_active f_running f_pending f_roundsBegun a_variables a_row a_inputs a_outputs f0 f1 f2 f3 f4 f5 f6 f7 f8 a_tokens a_lengths a_ends a_worths a_pendingPlaces a_pendingRounds a_pendingLimits := by
  intro d
  induction d with
  | zero =>
    intro i f0 f1 f2 f3 f4 f5 f6 f7 f8 hi h
    exact br_t (cc_le 3 i (by omega)) h
  | succ d ih =>
    intro i f0 f1 f2 f3 f4 f5 f6 f7 f8 hi h
    refine br_f (cc_nle 3 i (by omega)) ?_
    have hv : vp_in (nI i) 3 := vp_in_nI (by omega) (by omega)
    have hc : (nI i).toNatClampNeg = i := nI_clamp (by omega)
    refine ⟨hv, ?_⟩
    refine nm_r (e' := upd f0 i 0) (by rw [hc]; rw [cc_vb0]) ?_
    refine ⟨hv, ?_⟩
    refine nm_r (e' := upd f1 i 0) (by rw [hc]) ?_
    refine ⟨hv, ?_⟩
    refine nm_r (e' := upd f2 i 0) (by rw [hc]) ?_
    refine ⟨hv, ?_⟩
    refine nm_r (e' := upd f3 i 0) (by rw [hc]) ?_
    refine ⟨hv, ?_⟩
    refine nm_r (e' := upd f4 i 0) (by rw [hc]; rw [cc_vb0]) ?_
    refine ⟨hv, ?_⟩
    refine nm_r (e' := upd f5 i 0) (by rw [hc]) ?_
    refine ⟨hv, ?_⟩
    refine nm_r (e' := upd f6 i 0) (by rw [hc]) ?_
    refine ⟨hv, ?_⟩
    refine nm_r (e' := upd f7 i 0) (by rw [hc]; rw [cc_vb0]) ?_
    refine ⟨hv, ?_⟩
    refine nm_r (e' := upd f8 i 0) (by rw [hc]) ?_
    refine nm_r (e' := nI (i + 1)) (nI_1 i) ?_
    exact ih (i + 1) (upd f0 i 0) (upd f1 i 0) (upd f2 i 0) (upd f3 i 0) (upd f4 i 0) (upd f5 i 0) (upd f6 i 0) (upd f7 i 0) (upd f8 i 0) (by omega) h

theorem cc_xres {post : SX → Prop} (h : post (f_time, f_active, f_running, f_pending, f_roundsBegun, cc_zr a_variables 12 4, cc_zr a_row 8 0, a_inputs, cc_zr a_outputs 4 0, cc_zr a_timerOn 3 0, cc_zr a_timerBegin 3 0, cc_zr a_timerElapsed 3 0, cc_zr a_timerDone 3 0, cc_zr a_counterLast 3 0, cc_zr a_counterValue 3 0, cc_zr a_counterDone 3 0, cc_zr a_edgeLast 3 0, cc_zr a_edgeDone 3 0, a_tokens, a_lengths, a_ends, a_worths, a_pendingPlaces, a_pendingRounds, a_pendingLimits)) : wpX_restart post (f_time, f_active, f_running, f_pending, f_roundsBegun, a_variables, a_row, a_inputs, a_outputs, a_timerOn, a_timerBegin, a_timerElapsed, a_timerDone, a_counterLast, a_counterValue, a_counterDone, a_edgeLast, a_edgeDone, a_tokens, a_lengths, a_ends, a_worths, a_pendingPlaces, a_pendingRounds, a_pendingLimits) :=
  ⟨13, cc_xr2 12 4 a_variables rfl ⟨9, cc_xr23 8 0 a_row rfl ⟨5, cc_xr44 4 0 a_outputs rfl ⟨4, cc_xr64 3 0 a_timerOn a_timerBegin a_timerElapsed a_timerDone a_counterLast a_counterValue a_counterDone a_edgeLast a_edgeDone rfl h⟩⟩⟩⟩

theorem cc_xd4 {post : Int32 → Prop} : ∀ (d i : Nat) (acc : Int32), i + d = 16 → (∃ m, wX_digest_31 post f_time f_active f_running f_pending f_roundsBegun a_variables a_row a_inputs a_outputs a_timerOn a_timerBegin a_timerElapsed a_timerDone a_counterLast a_counterValue a_counterDone a_edgeLast a_edgeDone a_tokens a_lengths a_ends a_worths a_pendingPlaces a_pendingRounds a_pendingLimits m (cc_sm (fun j => (nI j + 1) * a_variables j) d i acc) 0) → wX_digest_4 post f_time f_active f_running f_pending f_roundsBegun a_variables a_row a_inputs a_outputs a_timerOn a_timerBegin a_timerElapsed a_timerDone a_counterLast a_counterValue a_counterDone a_edgeLast a_edgeDone a_tokens a_lengths a_ends a_worths a_pendingPlaces a_pendingRounds a_pendingLimits (d + 1) acc (nI i) := by
  intro d
  induction d with
  | zero =>
    intro i acc hi h
    exact br_t (cc_le 16 i (by omega)) h
  | succ d ih =>
    intro i acc hi h
    refine br_f (cc_nle 16 i (by omega)) ⟨vp_in_nI (by omega) (by omega), ?_⟩
    refine nm_r (e' := acc + (nI i + 1) * a_variables i) (by rw [nI_clamp (by omega)]) ?_
    refine nm_r (e' := nI (i + 1)) (nI_1 i) ?_
    exact ih (i + 1) _ (by omega) h

theorem cc_xd31 {post : Int32 → Prop} : ∀ (d i : Nat) (acc : Int32), i + d = 8 → (∃ m, wX_digest_59 post f_time f_active f_running f_pending f_roundsBegun a_variables a_row a_inputs a_outputs a_timerOn a_timerBegin a_timerElapsed a_timerDone a_counterLast a_counterValue a_counterDone a_edgeLast a_edgeDone a_tokens a_lengths a_ends a_worths a_pendingPlaces a_pendingRounds a_pendingLimits m (cc_sm (fun j => (nI j + 17) * a_row j) d i acc) 0) → wX_digest_31 post f_time f_active f_running f_pending f_roundsBegun a_variables a_row a_inputs a_outputs a_timerOn a_timerBegin a_timerElapsed a_timerDone a_counterLast a_counterValue a_counterDone a_edgeLast a_edgeDone a_tokens a_lengths a_ends a_worths a_pendingPlaces a_pendingRounds a_pendingLimits (d + 1) acc (nI i) := by
  intro d
  induction d with
  | zero =>
    intro i acc hi h
    exact br_t (cc_le 8 i (by omega)) h
  | succ d ih =>
    intro i acc hi h
    refine br_f (cc_nle 8 i (by omega)) ⟨vp_in_nI (by omega) (by omega), ?_⟩
    refine nm_r (e' := acc + (nI i + 17) * a_row i) (by rw [nI_clamp (by omega)]) ?_
    refine nm_r (e' := nI (i + 1)) (nI_1 i) ?_
    exact ih (i + 1) _ (by omega) h

theorem cc_xd59 {post : Int32 → Prop} : ∀ (d i : Nat) (acc : Int32), i + d = 4 → (∃ m, wX_digest_86 post f_time f_active f_running f_pending f_roundsBegun a_variables a_row a_inputs a_outputs a_timerOn a_timerBegin a_timerElapsed a_timerDone a_counterLast a_counterValue a_counterDone a_edgeLast a_edgeDone a_tokens a_lengths a_ends a_worths a_pendingPlaces a_pendingRounds a_pendingLimits m (cc_sm (fun j => (nI j + 25) * a_outputs j) d i acc) 0) → wX_digest_59 post f_time f_active f_running f_pending f_roundsBegun a_variables a_row a_inputs a_outputs a_timerOn a_timerBegin a_timerElapsed a_timerDone a_counterLast a_counterValue a_counterDone a_edgeLast a_edgeDone a_tokens a_lengths a_ends a_worths a_pendingPlaces a_pendingRounds a_pendingLimits (d + 1) acc (nI i) := by
  intro d
  induction d with
  | zero =>
    intro i acc hi h
    exact br_t (cc_le 4 i (by omega)) h
  | succ d ih =>
    intro i acc hi h
    refine br_f (cc_nle 4 i (by omega)) ⟨vp_in_nI (by omega) (by omega), ?_⟩
    refine nm_r (e' := acc + (nI i + 25) * a_outputs i) (by rw [nI_clamp (by omega)]) ?_
    refine nm_r (e' := nI (i + 1)) (nI_1 i) ?_
    exact ih (i + 1) _ (by omega) h

theorem cc_xd93 {post : Int32 → Prop} {J : Int32 → Int32 → Prop} {q : Nat} (hq : q < 3) : ∀ (d i : Nat) (acc : Int32), i + d = 5 → J (cc_sm (fun j => (nI j + 29) * cc_bk a_timerElapsed a_timerDone a_counterValue a_counterDone a_edgeDone (j / 5) (nI (j % 5))) d (5 * q + i) acc) (nI (q + 1)) → wX_digest_93 post J (nI q) f_time f_active f_running f_pending f_roundsBegun a_variables a_row a_inputs a_outputs a_timerOn a_timerBegin a_timerElapsed a_timerDone a_counterLast a_counterValue a_counterDone a_edgeLast a_edgeDone a_tokens a_lengths a_ends a_worths a_pendingPlaces a_pendingRounds a_pendingLimits (d + 1) acc (nI i) := by
  intro d
  induction d with
  | zero =>
    intro i acc hi h
    refine br_t (cc_le 5 i (by omega)) ?_
    exact nm_r (e' := nI (q + 1)) (nI_1 q) h
  | succ d ih =>
    intro i acc hi h
    refine br_f (cc_nle 5 i (by omega)) ?_
    refine cc_xbk hq ?_
    refine nm_r (e' := acc + (nI (5 * q + i) + 29) * cc_bk a_timerElapsed a_timerDone a_counterValue a_counterDone a_edgeDone ((5 * q + i) / 5) (nI ((5 * q + i) % 5))) ?_ ?_
    · rw [show (5 * q + i) / 5 = q by omega, show (5 * q + i) % 5 = i by omega, show (5 : Int32) = nI 5 from rfl, pk_mul, nI_add]
    · refine nm_r (e' := nI (i + 1)) (nI_1 i) ?_
      exact ih (i + 1) _ (by omega) h

theorem cc_xd86 {post : Int32 → Prop} : ∀ (d q : Nat) (acc : Int32), q + d = 3 → post (cc_sm (fun j => (nI j + 29) * cc_bk a_timerElapsed a_timerDone a_counterValue a_counterDone a_edgeDone (j / 5) (nI (j % 5))) (5 * d) (5 * q) acc) → wX_digest_86 post f_time f_active f_running f_pending f_roundsBegun a_variables a_row a_inputs a_outputs a_timerOn a_timerBegin a_timerElapsed a_timerDone a_counterLast a_counterValue a_counterDone a_edgeLast a_edgeDone a_tokens a_lengths a_ends a_worths a_pendingPlaces a_pendingRounds a_pendingLimits (d + 1) acc (nI q) := by
  intro d
  induction d with
  | zero =>
    intro q acc hq h
    exact br_t (cc_le 3 q (by omega)) h
  | succ d ih =>
    intro q acc hq h
    refine br_f (cc_nle 3 q (by omega)) ⟨6, ?_⟩
    refine cc_xd93 (by omega) 5 0 acc rfl ?_
    refine ih (q + 1) _ (by omega) ?_
    rw [show 5 * (d + 1) = 5 + 5 * d by omega, cc_sm_add] at h
    exact h

theorem cc_xdig {post : Int32 → Prop} (h : post (cc_sm (fun j => (nI j + 29) * cc_bk a_timerElapsed a_timerDone a_counterValue a_counterDone a_edgeDone (j / 5) (nI (j % 5))) 15 0 (cc_sm (fun j => (nI j + 25) * a_outputs j) 4 0 (cc_sm (fun j => (nI j + 17) * a_row j) 8 0 (cc_sm (fun j => (nI j + 1) * a_variables j) 16 0 0))))) : wpX_digest post (f_time, f_active, f_running, f_pending, f_roundsBegun, a_variables, a_row, a_inputs, a_outputs, a_timerOn, a_timerBegin, a_timerElapsed, a_timerDone, a_counterLast, a_counterValue, a_counterDone, a_edgeLast, a_edgeDone, a_tokens, a_lengths, a_ends, a_worths, a_pendingPlaces, a_pendingRounds, a_pendingLimits) :=
  ⟨17, cc_xd4 16 0 0 rfl ⟨9, cc_xd31 8 0 _ rfl ⟨5, cc_xd59 4 0 _ rfl ⟨4, cc_xd86 3 0 _ rfl h⟩⟩⟩⟩

end

section
variable {f_time f_active f_running f_open f_depth f_tasks f_begun : Int32} {a_variables a_cells a_inputs a_outputs a_timerOn a_timerBegin a_timerElapsed a_timerDone a_counterLast a_counterValue a_counterDone a_edgeLast a_edgeDone a_sizes a_tokens a_ends a_wants a_numbers a_taskKind a_taskAt a_taskRounds a_taskLimit : Nat → Int32}

theorem cc_yr2 {post : SY → Prop} : ∀ (d i : Nat) (f : Nat → Int32), i + d = 16 → (∃ m, wY_restart_23 post f_time f_active f_running f_open f_depth f_tasks f_begun m 0 (cc_zr f d i) a_cells a_inputs a_outputs a_timerOn a_timerBegin a_timerElapsed a_timerDone a_counterLast a_counterValue a_counterDone a_edgeLast a_edgeDone a_sizes a_tokens a_ends a_wants a_numbers a_taskKind a_taskAt a_taskRounds a_taskLimit) → wY_restart_2 post f_time f_active f_running f_open f_depth f_tasks f_begun (d + 1) (nI i) f a_cells a_inputs a_outputs a_timerOn a_timerBegin a_timerElapsed a_timerDone a_counterLast a_counterValue a_counterDone a_edgeLast a_edgeDone a_sizes a_tokens a_ends a_wants a_numbers a_taskKind a_taskAt a_taskRounds a_taskLimit := by
  intro d
  induction d with
  | zero =>
    intro i f hi h
    exact br_t (cc_le 16 i (by omega)) h
  | succ d ih =>
    intro i f hi h
    refine br_f (cc_nle 16 i (by omega)) ⟨vp_in_nI (by omega) (by omega), ?_⟩
    refine nm_r (e' := upd f i 0) (by rw [nI_clamp (by omega)]) ?_
    refine nm_r (e' := nI (i + 1)) (nI_1 i) ?_
    exact ih (i + 1) (upd f i 0) (by omega) h

theorem cc_yr23 {post : SY → Prop} : ∀ (d i : Nat) (f : Nat → Int32), i + d = 8 → (∃ m, wY_restart_44 post f_time f_active f_running f_open f_depth f_tasks f_begun m 0 a_variables (cc_zr f d i) a_inputs a_outputs a_timerOn a_timerBegin a_timerElapsed a_timerDone a_counterLast a_counterValue a_counterDone a_edgeLast a_edgeDone a_sizes a_tokens a_ends a_wants a_numbers a_taskKind a_taskAt a_taskRounds a_taskLimit) → wY_restart_23 post f_time f_active f_running f_open f_depth f_tasks f_begun (d + 1) (nI i) a_variables f a_inputs a_outputs a_timerOn a_timerBegin a_timerElapsed a_timerDone a_counterLast a_counterValue a_counterDone a_edgeLast a_edgeDone a_sizes a_tokens a_ends a_wants a_numbers a_taskKind a_taskAt a_taskRounds a_taskLimit := by
  intro d
  induction d with
  | zero =>
    intro i f hi h
    exact br_t (cc_le 8 i (by omega)) h
  | succ d ih =>
    intro i f hi h
    refine br_f (cc_nle 8 i (by omega)) ⟨vp_in_nI (by omega) (by omega), ?_⟩
    refine nm_r (e' := upd f i 0) (by rw [nI_clamp (by omega)]) ?_
    refine nm_r (e' := nI (i + 1)) (nI_1 i) ?_
    exact ih (i + 1) (upd f i 0) (by omega) h

theorem cc_yr44 {post : SY → Prop} : ∀ (d i : Nat) (f : Nat → Int32), i + d = 4 → (∃ n64, wY_restart_64 post f_time f_active f_running f_open f_depth f_tasks f_begun n64 0 a_variables a_cells a_inputs (cc_zr f d i) a_timerOn a_timerBegin a_timerElapsed a_timerDone a_counterLast a_counterValue a_counterDone a_edgeLast a_edgeDone a_sizes a_tokens a_ends a_wants a_numbers a_taskKind a_taskAt a_taskRounds a_taskLimit) → wY_restart_44 post f_time f_active f_running f_open f_depth f_tasks f_begun (d + 1) (nI i) a_variables a_cells a_inputs f a_timerOn a_timerBegin a_timerElapsed a_timerDone a_counterLast a_counterValue a_counterDone a_edgeLast a_edgeDone a_sizes a_tokens a_ends a_wants a_numbers a_taskKind a_taskAt a_taskRounds a_taskLimit := by
  intro d
  induction d with
  | zero =>
    intro i f hi h
    exact br_t (cc_le 4 i (by omega)) h
  | succ d ih =>
    intro i f hi h
    refine br_f (cc_nle 4 i (by omega)) ⟨vp_in_nI (by omega) (by omega), ?_⟩
    refine nm_r (e' := upd f i 0) (by rw [nI_clamp (by omega)]) ?_
    refine nm_r (e' := nI (i + 1)) (nI_1 i) ?_
    exact ih (i + 1) (upd f i 0) (by omega) h

theorem cc_yr64 {post : SY → Prop} : ∀ (d i : Nat) (f0 f1 f2 f3 f4 f5 f6 f7 f8 : Nat → Int32), i + d = 3 → post (f_time, f_active, f_running, f_open, f_depth, f_tasks, f_begun, a_variables, a_cells, a_inputs, a_outputs, cc_zr f0 d i, cc_zr f1 d i, cc_zr f2 d i, cc_zr f3 d i, cc_zr f4 d i, cc_zr f5 d i, cc_zr f6 d i, cc_zr f7 d i, cc_zr f8 d i, a_sizes, a_tokens, a_ends, a_wants, a_numbers, a_taskKind, a_taskAt, a_taskRounds, a_taskLimit) → wY_restart_64 post f_time f_active f_running f_open f_depth f_tasks f_begun (d + 1) (nI i) a_variables a_cells a_inputs a_outputs f0 f1 f2 f3 f4 f5 f6 f7 f8 a_sizes a_tokens a_ends a_wants a_numbers a_taskKind a_taskAt a_taskRounds a_taskLimit := by
  intro d
  induction d with
  | zero =>
    intro i f0 f1 f2 f3 f4 f5 f6 f7 f8 hi h
    exact br_t (cc_le 3 i (by omega)) h
  | succ d ih =>
    intro i f0 f1 f2 f3 f4 f5 f6 f7 f8 hi h
    refine br_f (cc_nle 3 i (by omega)) ?_
    have hv : vp_in (nI i) 3 := vp_in_nI (by omega) (by omega)
    have hc : (nI i).toNatClampNeg = i := nI_clamp (by omega)
    refine ⟨hv, ?_⟩
    refine nm_r (e' := upd f0 i 0) (by rw [hc]; rw [cc_vb0]) ?_
    refine ⟨hv, ?_⟩
    refine nm_r (e' := upd f1 i 0) (by rw [hc]) ?_
    refine ⟨hv, ?_⟩
    refine nm_r (e' := upd f2 i 0) (by rw [hc]) ?_
    refine ⟨hv, ?_⟩
    refine nm_r (e' := upd f3 i 0) (by rw [hc]) ?_
    refine ⟨hv, ?_⟩
    refine nm_r (e' := upd f4 i 0) (by rw [hc]; rw [cc_vb0]) ?_
    refine ⟨hv, ?_⟩
    refine nm_r (e' := upd f5 i 0) (by rw [hc]) ?_
    refine ⟨hv, ?_⟩
    refine nm_r (e' := upd f6 i 0) (by rw [hc]) ?_
    refine ⟨hv, ?_⟩
    refine nm_r (e' := upd f7 i 0) (by rw [hc]; rw [cc_vb0]) ?_
    refine ⟨hv, ?_⟩
    refine nm_r (e' := upd f8 i 0) (by rw [hc]) ?_
    refine nm_r (e' := nI (i + 1)) (nI_1 i) ?_
    exact ih (i + 1) (upd f0 i 0) (upd f1 i 0) (upd f2 i 0) (upd f3 i 0) (upd f4 i 0) (upd f5 i 0) (upd f6 i 0) (upd f7 i 0) (upd f8 i 0) (by omega) h

theorem cc_yres {post : SY → Prop} (h : post (f_time, f_active, f_running, f_open, f_depth, f_tasks, f_begun, cc_zr a_variables 12 4, cc_zr a_cells 8 0, a_inputs, cc_zr a_outputs 4 0, cc_zr a_timerOn 3 0, cc_zr a_timerBegin 3 0, cc_zr a_timerElapsed 3 0, cc_zr a_timerDone 3 0, cc_zr a_counterLast 3 0, cc_zr a_counterValue 3 0, cc_zr a_counterDone 3 0, cc_zr a_edgeLast 3 0, cc_zr a_edgeDone 3 0, a_sizes, a_tokens, a_ends, a_wants, a_numbers, a_taskKind, a_taskAt, a_taskRounds, a_taskLimit)) : wpY_restart post (f_time, f_active, f_running, f_open, f_depth, f_tasks, f_begun, a_variables, a_cells, a_inputs, a_outputs, a_timerOn, a_timerBegin, a_timerElapsed, a_timerDone, a_counterLast, a_counterValue, a_counterDone, a_edgeLast, a_edgeDone, a_sizes, a_tokens, a_ends, a_wants, a_numbers, a_taskKind, a_taskAt, a_taskRounds, a_taskLimit) :=
  ⟨13, cc_yr2 12 4 a_variables rfl ⟨9, cc_yr23 8 0 a_cells rfl ⟨5, cc_yr44 4 0 a_outputs rfl ⟨4, cc_yr64 3 0 a_timerOn a_timerBegin a_timerElapsed a_timerDone a_counterLast a_counterValue a_counterDone a_edgeLast a_edgeDone rfl h⟩⟩⟩⟩

theorem cc_yd4 {post : Int32 → Prop} : ∀ (d i : Nat) (acc : Int32), i + d = 16 → (∃ m, wY_digest_31 post f_time f_active f_running f_open f_depth f_tasks f_begun a_variables a_cells a_inputs a_outputs a_timerOn a_timerBegin a_timerElapsed a_timerDone a_counterLast a_counterValue a_counterDone a_edgeLast a_edgeDone a_sizes a_tokens a_ends a_wants a_numbers a_taskKind a_taskAt a_taskRounds a_taskLimit m (cc_sm (fun j => (nI j + 1) * a_variables j) d i acc) 0) → wY_digest_4 post f_time f_active f_running f_open f_depth f_tasks f_begun a_variables a_cells a_inputs a_outputs a_timerOn a_timerBegin a_timerElapsed a_timerDone a_counterLast a_counterValue a_counterDone a_edgeLast a_edgeDone a_sizes a_tokens a_ends a_wants a_numbers a_taskKind a_taskAt a_taskRounds a_taskLimit (d + 1) acc (nI i) := by
  intro d
  induction d with
  | zero =>
    intro i acc hi h
    exact br_t (cc_le 16 i (by omega)) h
  | succ d ih =>
    intro i acc hi h
    refine br_f (cc_nle 16 i (by omega)) ⟨vp_in_nI (by omega) (by omega), ?_⟩
    refine nm_r (e' := acc + (nI i + 1) * a_variables i) (by rw [nI_clamp (by omega)]) ?_
    refine nm_r (e' := nI (i + 1)) (nI_1 i) ?_
    exact ih (i + 1) _ (by omega) h

theorem cc_yd31 {post : Int32 → Prop} : ∀ (d i : Nat) (acc : Int32), i + d = 8 → (∃ m, wY_digest_59 post f_time f_active f_running f_open f_depth f_tasks f_begun a_variables a_cells a_inputs a_outputs a_timerOn a_timerBegin a_timerElapsed a_timerDone a_counterLast a_counterValue a_counterDone a_edgeLast a_edgeDone a_sizes a_tokens a_ends a_wants a_numbers a_taskKind a_taskAt a_taskRounds a_taskLimit m (cc_sm (fun j => (nI j + 17) * a_cells j) d i acc) 0) → wY_digest_31 post f_time f_active f_running f_open f_depth f_tasks f_begun a_variables a_cells a_inputs a_outputs a_timerOn a_timerBegin a_timerElapsed a_timerDone a_counterLast a_counterValue a_counterDone a_edgeLast a_edgeDone a_sizes a_tokens a_ends a_wants a_numbers a_taskKind a_taskAt a_taskRounds a_taskLimit (d + 1) acc (nI i) := by
  intro d
  induction d with
  | zero =>
    intro i acc hi h
    exact br_t (cc_le 8 i (by omega)) h
  | succ d ih =>
    intro i acc hi h
    refine br_f (cc_nle 8 i (by omega)) ⟨vp_in_nI (by omega) (by omega), ?_⟩
    refine nm_r (e' := acc + (nI i + 17) * a_cells i) (by rw [nI_clamp (by omega)]) ?_
    refine nm_r (e' := nI (i + 1)) (nI_1 i) ?_
    exact ih (i + 1) _ (by omega) h

theorem cc_yd59 {post : Int32 → Prop} : ∀ (d i : Nat) (acc : Int32), i + d = 4 → (∃ m, wY_digest_86 post f_time f_active f_running f_open f_depth f_tasks f_begun a_variables a_cells a_inputs a_outputs a_timerOn a_timerBegin a_timerElapsed a_timerDone a_counterLast a_counterValue a_counterDone a_edgeLast a_edgeDone a_sizes a_tokens a_ends a_wants a_numbers a_taskKind a_taskAt a_taskRounds a_taskLimit m (cc_sm (fun j => (nI j + 25) * a_outputs j) d i acc) 0) → wY_digest_59 post f_time f_active f_running f_open f_depth f_tasks f_begun a_variables a_cells a_inputs a_outputs a_timerOn a_timerBegin a_timerElapsed a_timerDone a_counterLast a_counterValue a_counterDone a_edgeLast a_edgeDone a_sizes a_tokens a_ends a_wants a_numbers a_taskKind a_taskAt a_taskRounds a_taskLimit (d + 1) acc (nI i) := by
  intro d
  induction d with
  | zero =>
    intro i acc hi h
    exact br_t (cc_le 4 i (by omega)) h
  | succ d ih =>
    intro i acc hi h
    refine br_f (cc_nle 4 i (by omega)) ⟨vp_in_nI (by omega) (by omega), ?_⟩
    refine nm_r (e' := acc + (nI i + 25) * a_outputs i) (by rw [nI_clamp (by omega)]) ?_
    refine nm_r (e' := nI (i + 1)) (nI_1 i) ?_
    exact ih (i + 1) _ (by omega) h

theorem cc_yd86 {post : Int32 → Prop} : ∀ (d i : Nat) (acc : Int32), i + d = 15 → post (cc_sm (fun j => (nI j + 29) * cc_bk a_timerElapsed a_timerDone a_counterValue a_counterDone a_edgeDone (j / 5) (nI (j % 5))) d i acc) → wY_digest_86 post f_time f_active f_running f_open f_depth f_tasks f_begun a_variables a_cells a_inputs a_outputs a_timerOn a_timerBegin a_timerElapsed a_timerDone a_counterLast a_counterValue a_counterDone a_edgeLast a_edgeDone a_sizes a_tokens a_ends a_wants a_numbers a_taskKind a_taskAt a_taskRounds a_taskLimit (d + 1) acc (nI i) := by
  intro d
  induction d with
  | zero =>
    intro i acc hi h
    exact br_t (cc_le 15 i (by omega)) h
  | succ d ih =>
    intro i acc hi h
    refine br_f (cc_nle 15 i (by omega)) ⟨by decide, by decide, ?_⟩
    rw [show (nI i - nI i / 5 * 5) = nI (i % 5) from pk_rem (d := 5) (by omega) (by omega) (by omega), show nI i / 5 = nI (i / 5) from pk_div (d := 5) (by omega) (by omega) (by omega)]
    refine cc_ybk (by omega) ?_
    refine nm_e ?_
    refine nm_r (e' := nI (i + 1)) (nI_1 i) ?_
    exact ih (i + 1) _ (by omega) h

theorem cc_ydig {post : Int32 → Prop} (h : post (cc_sm (fun j => (nI j + 29) * cc_bk a_timerElapsed a_timerDone a_counterValue a_counterDone a_edgeDone (j / 5) (nI (j % 5))) 15 0 (cc_sm (fun j => (nI j + 25) * a_outputs j) 4 0 (cc_sm (fun j => (nI j + 17) * a_cells j) 8 0 (cc_sm (fun j => (nI j + 1) * a_variables j) 16 0 0))))) : wpY_digest post (f_time, f_active, f_running, f_open, f_depth, f_tasks, f_begun, a_variables, a_cells, a_inputs, a_outputs, a_timerOn, a_timerBegin, a_timerElapsed, a_timerDone, a_counterLast, a_counterValue, a_counterDone, a_edgeLast, a_edgeDone, a_sizes, a_tokens, a_ends, a_wants, a_numbers, a_taskKind, a_taskAt, a_taskRounds, a_taskLimit) :=
  ⟨17, cc_yd4 16 0 0 rfl ⟨9, cc_yd31 8 0 _ rfl ⟨5, cc_yd59 4 0 _ rfl ⟨16, cc_yd86 15 0 _ rfl h⟩⟩⟩⟩

end
