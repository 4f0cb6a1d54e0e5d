def cc_ar (t : Nat) : Nat :=
  if t = 2 ∨ t = 39 ∨ (100 ≤ t ∧ t ≤ 127) ∨ 142 < t then 0
  else if (10 ≤ t ∧ t ≤ 33) ∨ (66 ≤ t ∧ t ≤ 68) ∨ t = 128 ∨ t = 139 then 1
  else if t = 56 then 4
  else if t = 35 ∨ (40 ≤ t ∧ t ≤ 55) ∨ (63 ≤ t ∧ t ≤ 65) ∨ t = 142 then 3 else 2

def cc_ts (t i : Nat) : Bool :=
  if t = 1 then true
  else if t = 35 ∨ t = 36 ∨ t = 56 then decide (0 < i)
  else if t = 37 then decide (i = 0)
  else decide (40 ≤ t ∧ t ≤ 55 ∧ i = 2)

def cc_st (t : Nat) : Bool :=
  decide ((1 ≤ t ∧ t ≤ 2) ∨ (10 ≤ t ∧ t ≤ 25) ∨ (30 ≤ t ∧ t ≤ 37) ∨ (39 ≤ t ∧ t ≤ 56) ∨ (60 ≤ t ∧ t ≤ 68))

def cc_ex (t : Nat) : Bool :=
  decide ((100 ≤ t ∧ t ≤ 115) ∨ (120 ≤ t ∧ t ≤ 128) ∨ (130 ≤ t ∧ t ≤ 157) ∨ (210 ≤ t ∧ t ≤ 290))

def cc_ps (t : Nat) : List Bool := (List.range (cc_ar t)).map (cc_ts t)

def cc_sk (T : Nat → Nat) : Nat → List Bool
  | 0 => [true]
  | k + 1 => cc_ps (T k) ++ (cc_sk T k).tail

def cc_h (T : Nat → Nat) (k : Nat) : Nat := (cc_sk T k).length

def cc_ok (T : Nat → Nat) (n : Nat) : Prop :=
  ∀ k, k < n → (cc_sk T k).head? = some (cc_st (T k)) ∧ (cc_st (T k) = true ∨ cc_ex (T k) = true)

theorem cc_ps_len (t : Nat) : (cc_ps t).length = cc_ar t := by simp [cc_ps]

theorem cc_ar_le (t : Nat) : cc_ar t ≤ 4 := by
  unfold cc_ar
  repeat' split
  all_goals omega

theorem cc_hpos {T : Nat → Nat} {n k : Nat} (h : cc_ok T n) (hk : k < n) : 0 < cc_h T k := by
  have := (h k hk).1
  unfold cc_h
  cases hl : cc_sk T k with
  | nil => rw [hl] at this; simp at this
  | cons b l => simp

theorem cc_hs {T : Nat → Nat} {k : Nat} (hp : 0 < cc_h T k) : cc_h T (k + 1) + 1 = cc_h T k + cc_ar (T k) := by
  unfold cc_h at *
  simp only [cc_sk, List.length_append, cc_ps_len, List.length_tail]
  omega

theorem cc_h_le (T : Nat → Nat) (k : Nat) : cc_h T k ≤ 1 + 3 * k := by
  induction k with
  | zero => simp [cc_h, cc_sk]
  | succ k ih =>
    have := cc_ar_le (T k)
    unfold cc_h at *
    simp only [cc_sk, List.length_append, cc_ps_len, List.length_tail]
    omega

theorem cc_sk_congr {T T' : Nat → Nat} {k : Nat} (h : ∀ i, i < k → T i = T' i) : cc_sk T k = cc_sk T' k := by
  induction k with
  | zero => rfl
  | succ k ih =>
    simp only [cc_sk]
    rw [h k (by omega), ih (fun i hi => h i (by omega))]

theorem cc_ok_congr {T T' : Nat → Nat} {n : Nat} (h : ∀ i, i < n → T i = T' i) (ho : cc_ok T n) : cc_ok T' n := by
  intro k hk
  rw [← cc_sk_congr (T := T) (T' := T') (k := k) (fun i hi => h i (by omega)), ← h k hk]
  exact ho k hk

theorem cc_ok_le {T : Nat → Nat} {n m : Nat} (h : m ≤ n) (ho : cc_ok T n) : cc_ok T m := fun k hk => ho k (by omega)

def cc_F (T : Nat → Nat) (m i j : Nat) : Prop :=
  i ≤ j ∧ cc_h T j = m ∧ ∀ k, i ≤ k → k < j → m < cc_h T k

theorem cc_F_uniq {T : Nat → Nat} {m i j j' : Nat} (a : cc_F T m i j) (b : cc_F T m i j') : j = j' := by
  obtain ⟨a1, a2, a3⟩ := a
  obtain ⟨b1, b2, b3⟩ := b
  rcases Nat.lt_trichotomy j j' with h | h | h
  · have := b3 j a1 h; omega
  · exact h
  · have := a3 j' b1 h; omega

theorem cc_F_comp {T : Nat → Nat} {m m' i j k : Nat} (a : cc_F T m i j) (b : cc_F T m' j k) (h : m' ≤ m) : cc_F T m' i k := by
  obtain ⟨a1, a2, a3⟩ := a
  obtain ⟨b1, b2, b3⟩ := b
  refine ⟨by omega, b2, fun x h1 h2 => ?_⟩
  by_cases hx : x < j
  · have := a3 x h1 hx; omega
  · exact b3 x (by omega) h2

theorem cc_F_step {T : Nat → Nat} {m i j : Nat} (a : cc_F T m (i + 1) j) (h : m < cc_h T i) : cc_F T m i j := by
  obtain ⟨a1, a2, a3⟩ := a
  refine ⟨by omega, a2, fun x h1 h2 => ?_⟩
  by_cases hx : x = i
  · rw [hx]; exact h
  · exact a3 x (by omega) h2

theorem cc_F_refl {T : Nat → Nat} {i : Nat} : cc_F T (cc_h T i) i i := ⟨Nat.le_refl _, rfl, fun k h1 h2 => by omega⟩

theorem cc_F_lt {T : Nat → Nat} {m i j e : Nat} (a : cc_F T m i j) (he : cc_h T e < m) (hi : i ≤ e) : j < e := by
  obtain ⟨a1, a2, a3⟩ := a
  rcases Nat.lt_trichotomy j e with h | h | h
  · exact h
  · rw [← h] at he; omega
  · have := a3 e hi h; omega

theorem cc_F_le {T : Nat → Nat} {m i j e : Nat} (a : cc_F T m i j) (he : cc_h T e ≤ m) (hi : i ≤ e) : j ≤ e := by
  obtain ⟨a1, a2, a3⟩ := a
  rcases Nat.lt_trichotomy j e with h | h | h
  · omega
  · omega
  · have := a3 e hi h; omega

def cc_fr (T : Nat → Nat) (m : Nat) : Nat → Nat → Nat
  | 0, i => i
  | f + 1, i => if cc_h T i ≤ m then i else cc_fr T m f (i + 1)

theorem cc_fr_ge (T : Nat → Nat) (m f i : Nat) : i ≤ cc_fr T m f i := by
  induction f generalizing i with
  | zero => simp [cc_fr]
  | succ f ih =>
    simp only [cc_fr]
    split
    · omega
    · have := ih (i + 1); omega

theorem cc_fr_F {T : Nat → Nat} {n m f i : Nat} (ho : cc_ok T n) (hi : i ≤ n) (hm : m ≤ cc_h T i) (hn : cc_h T n ≤ m) (hf : n < i + f) :
    cc_F T m i (cc_fr T m f i) := by
  induction f generalizing i with
  | zero => omega
  | succ f ih =>
    simp only [cc_fr]
    split
    · rename_i h
      have : m = cc_h T i := by omega
      rw [this]; exact cc_F_refl
    · rename_i h
      have hne : i ≠ n := by intro e; rw [e] at h; omega
      have hs := cc_hs (cc_hpos ho (show i < n by omega))
      exact cc_F_step (ih (by omega) (by omega) (by omega)) (by omega)

def cc_en (T : Nat → Nat) (i : Nat) : Nat := cc_fr T (cc_h T i - 1) 61 i

theorem cc_en_ge (T : Nat → Nat) (i : Nat) : i ≤ cc_en T i := cc_fr_ge _ _ _ _

def cc_wh (T : Nat → Nat) (n : Nat) : Prop := cc_ok T n ∧ cc_h T n = 0 ∧ n ≤ 60

theorem cc_en_F {T : Nat → Nat} {n i : Nat} (w : cc_wh T n) (hi : i < n) : cc_F T (cc_h T i - 1) i (cc_en T i) := by
  obtain ⟨ho, hz, hn⟩ := w
  exact cc_fr_F ho (by omega) (by omega) (by omega) (by omega)

theorem cc_en_h {T : Nat → Nat} {n i : Nat} (w : cc_wh T n) (hi : i < n) : cc_h T (cc_en T i) + 1 = cc_h T i := by
  have := (cc_en_F w hi).2.1
  have := cc_hpos w.1 hi
  omega

theorem cc_en_gt {T : Nat → Nat} {n i : Nat} (w : cc_wh T n) (hi : i < n) : i < cc_en T i := by
  have h1 := cc_en_ge T i
  have h2 := cc_en_h w hi
  by_cases h : i = cc_en T i
  · rw [← h] at h2; omega
  · omega

theorem cc_en_le {T : Nat → Nat} {n i : Nat} (w : cc_wh T n) (hi : i < n) : cc_en T i ≤ n :=
  cc_F_le (cc_en_F w hi) (by have := w.2.1; omega) (by omega)

def cc_nx (T : Nat → Nat) : Nat → Nat → Nat
  | 0, i => i
  | k + 1, i => cc_en T (cc_nx T k i)

theorem cc_nx_F {T : Nat → Nat} {n i k : Nat} (w : cc_wh T n) (hi : i < n) (hk : k ≤ cc_ar (T i)) :
    cc_F T (cc_h T (i + 1) - k) (i + 1) (cc_nx T k (i + 1)) := by
  have hp := cc_hpos w.1 hi
  have hs := cc_hs hp
  have hz := w.2.1
  induction k with
  | zero => exact cc_F_refl
  | succ k ih =>
    have a := ih (by omega)
    have hl : cc_nx T k (i + 1) < n := cc_F_lt a (by omega) (by omega)
    have b := cc_en_F w hl
    have e := a.2.1
    rw [e] at b
    exact cc_F_comp a b (by omega)

theorem cc_nx_lt {T : Nat → Nat} {n i k : Nat} (w : cc_wh T n) (hi : i < n) (hk : k < cc_ar (T i)) : cc_nx T k (i + 1) < n := by
  have hs := cc_hs (cc_hpos w.1 hi)
  have hz := w.2.1
  exact cc_F_lt (cc_nx_F w hi (Nat.le_of_lt hk)) (by have := cc_hpos w.1 hi; omega) (by omega)

theorem cc_nx_en {T : Nat → Nat} {n i : Nat} (w : cc_wh T n) (hi : i < n) : cc_nx T (cc_ar (T i)) (i + 1) = cc_en T i := by
  have hp := cc_hpos w.1 hi
  have hs := cc_hs hp
  have a := cc_nx_F w hi (Nat.le_refl _)
  have e : cc_h T (i + 1) - cc_ar (T i) = cc_h T i - 1 := by omega
  rw [e] at a
  exact cc_F_uniq (cc_F_step a (by omega)) (cc_en_F w hi)

theorem cc_drop_app (a l : List Bool) (d : Nat) : (a ++ l).drop (a.length + d) = l.drop d := by
  induction a with
  | nil => simp
  | cons b a ih =>
    rw [List.length_cons, show a.length + 1 + d = (a.length + d) + 1 by omega]
    simpa using ih

theorem cc_drop_tail (l : List Bool) (d : Nat) : l.tail.drop d = l.drop (d + 1) := by
  cases l with
  | nil => simp
  | cons b l => simp

theorem cc_F_sk {T : Nat → Nat} {n m i j : Nat} (ho : cc_ok T n) (hj : j ≤ n) (a : cc_F T m i j) (hm : m ≤ cc_h T i) :
    cc_sk T j = (cc_sk T i).drop (cc_h T i - m) := by
  obtain ⟨a1, a2, a3⟩ := a
  have key : ∀ x, i ≤ x → x ≤ j → (cc_sk T x).drop (cc_h T x - m) = (cc_sk T i).drop (cc_h T i - m) := by
    intro x
    induction x with
    | zero => intro h1 _; have : i = 0 := by omega
              rw [this]
    | succ x ih =>
      intro h1 h2
      by_cases hx : i = x + 1
      · rw [hx]
      · have g := ih (by omega) (by omega)
        have hh := a3 x (by omega) (by omega)
        have hs := cc_hs (k := x) (T := T) (by omega)
        rw [← g]
        have e : cc_h T (x + 1) - m = (cc_ps (T x)).length + (cc_h T x - 1 - m) := by rw [cc_ps_len]; omega
        rw [e]
        simp only [cc_sk]
        rw [cc_drop_app, cc_drop_tail]
        rw [show cc_h T x - 1 - m + 1 = cc_h T x - m by omega]
  have := key j a1 (Nat.le_refl _)
  rw [← this, a2]
  simp

theorem cc_ps_get {t k : Nat} (l : List Bool) (hk : k < cc_ar t) : (cc_ps t ++ l)[k]? = some (cc_ts t k) := by
  rw [List.getElem?_append_left (by rw [cc_ps_len]; exact hk)]
  simp [cc_ps, List.getElem?_map, List.getElem?_range, hk]

theorem cc_ps_get' {t k : Nat} (l : List Bool) (hk : cc_ar t ≤ k) : (cc_ps t ++ l)[k]? = l[k - cc_ar t]? := by
  rw [List.getElem?_append_right (by rw [cc_ps_len]; exact hk), cc_ps_len]

theorem cc_part {T : Nat → Nat} {n i k : Nat} (w : cc_wh T n) (hi : i < n) (hk : k < cc_ar (T i)) :
    cc_st (T (cc_nx T k (i + 1))) = cc_ts (T i) k := by
  have hl := cc_nx_lt w hi hk
  have hp := cc_hpos w.1 hi
  have hs := cc_hs hp
  have a := cc_nx_F w hi (Nat.le_of_lt hk)
  have e := cc_F_sk w.1 (Nat.le_of_lt hl) a (by omega)
  have h1 := (w.1 _ hl).1
  rw [e, show cc_h T (i + 1) - (cc_h T (i + 1) - k) = k by omega] at h1
  rw [List.head?_drop] at h1
  simp only [cc_sk] at h1
  rw [cc_ps_get _ hk] at h1
  exact (Option.some.inj h1).symm

theorem cc_kind {T : Nat → Nat} {n i : Nat} (w : cc_wh T n) (hi : i < n) (hs : cc_st (T i) = false) : cc_ex (T i) = true := by
  rcases (w.1 i hi).2 with h | h
  · rw [h] at hs; cases hs
  · exact h

theorem cc_st_ex {t : Nat} (h : cc_ex t = true) : cc_st t = false := by
  unfold cc_ex at h
  unfold cc_st
  simp only [decide_eq_true_eq] at h
  simp only [decide_eq_false_iff_not]
  omega

theorem cc_ts_ex {t : Nat} (h : cc_ex t = true) (k : Nat) : cc_ts t k = false := by
  unfold cc_ex at h
  simp only [decide_eq_true_eq] at h
  unfold cc_ts
  rw [if_neg (by omega), if_neg (by omega), if_neg (by omega)]
  simp only [decide_eq_false_iff_not]
  omega

theorem cc_allEx {T : Nat → Nat} {n i : Nat} (w : cc_wh T n) (hi : i < n) (hx : cc_ex (T i) = true) :
    ∀ x, i ≤ x → x < cc_en T i → cc_ex (T x) = true := by
  have hF := cc_en_F w hi
  have hE := cc_en_h w hi
  have hl := cc_en_le w hi
  have key : ∀ x, i ≤ x → x < cc_en T i → ∀ k, k < cc_h T x - (cc_h T i - 1) → (cc_sk T x)[k]? = some false := by
    intro x
    induction x with
    | zero =>
      intro h1 h2 k hk
      have e : i = 0 := by omega
      rw [← e] at hk ⊢
      have hp := cc_hpos w.1 hi
      have k0 : k = 0 := by omega
      rw [k0, ← List.head?_eq_getElem?, (w.1 i hi).1, cc_st_ex hx]
    | succ x ih =>
      intro h1 h2 k hk
      by_cases e : i = x + 1
      · rw [← e] at hk ⊢
        have hp := cc_hpos w.1 hi
        have k0 : k = 0 := by omega
        rw [k0, ← List.head?_eq_getElem?, (w.1 i hi).1, cc_st_ex hx]
      · have g := ih (by omega) (by omega)
        have hh := hF.2.2 x (by omega) (by omega)
        have hp := cc_hpos w.1 (show x < n by omega)
        have hs := cc_hs hp
        have g0 := g 0 (by omega)
        rw [← List.head?_eq_getElem?, (w.1 x (by omega)).1] at g0
        have xe := cc_kind w (show x < n by omega) (Option.some.inj g0)
        simp only [cc_sk]
        by_cases hk2 : k < cc_ar (T x)
        · rw [cc_ps_get _ hk2, cc_ts_ex xe]
        · rw [cc_ps_get' _ (by omega)]
          have g1 := g (k - cc_ar (T x) + 1) (by omega)
          rw [← g1]
          cases cc_sk T x with
          | nil => simp
          | cons b l => simp
  intro x h1 h2
  have hh := hF.2.2 x h1 h2
  have g0 := key x h1 h2 0 (by omega)
  rw [← List.head?_eq_getElem?, (w.1 x (by omega)).1] at g0
  exact cc_kind w (by omega) (Option.some.inj g0)
