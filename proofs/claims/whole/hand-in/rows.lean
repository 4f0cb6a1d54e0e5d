section
theorem pk_us {f : Nat → Int32} {k : Nat} {x : Int32} : upd f k x k = x := if_pos rfl
theorem pk_un {f : Nat → Int32} {k j : Nat} {x : Int32} (h : j ≠ k) : upd f k x j = f j := if_neg h
theorem pk_sub {a b : Nat} (h : b ≤ a) : nI a - nI b = nI (a - b) := by
  obtain ⟨c, rfl⟩ : ∃ c, a = c + b := ⟨a - b, by omega⟩
  rw [← nI_add, Int32.add_sub_cancel, Nat.add_sub_cancel]
theorem pk_m1 (n : Nat) : nI (n + 1) + (-1) = nI n := by
  rw [← nI_1, Int32.add_assoc, show (1 : Int32) + (-1) = 0 from rfl, Int32.add_zero]
theorem pk_mul (a b : Nat) : nI a * nI b = nI (a * b) := (Int32.ofNat_mul a b).symm
theorem pk_div {a d : Nat} (ha : a < 2 ^ 31) (h0 : 0 < d) (hd : d < 2 ^ 31) : nI a / nI d = nI (a / d) := by
  apply Int32.toInt_inj.mp
  rw [lg_idiv_nonneg (by rw [nI_toInt ha]; omega) (by rw [nI_toInt hd]; omega), nI_toInt ha, nI_toInt hd, nI_toInt (Nat.lt_of_le_of_lt (Nat.div_le_self a d) ha)]
  first | rfl | exact (Int.natCast_ediv _ _).symm
theorem pk_rem {a d : Nat} (ha : a < 2 ^ 31) (h0 : 0 < d) (hd : d < 2 ^ 31) : nI a - nI a / nI d * nI d = nI (a % d) := by
  rw [pk_div ha h0 hd, pk_mul, pk_sub (Nat.div_mul_le_self a d)]
  exact congrArg nI (by have := Nat.div_add_mod' a d; omega)
theorem pk_sub_toInt {a b : Nat} (ha : a < 2 ^ 30) (hb : b < 2 ^ 30) : (nI a - nI b).toInt = (a : Int) - b := by
  rw [Int32.toInt_sub, nI_toInt (by omega), nI_toInt (by omega)]
  exact Int.bmod_eq_of_le (by omega) (by omega)
theorem pk_sneg {a b : Nat} (hb : b < 2 ^ 30) (h : a < b) : nI a - nI b < 0 := by
  rw [Int32.lt_iff_toInt_lt, pk_sub_toInt (by omega) hb, show (0 : Int32).toInt = 0 from by decide]
  omega
theorem pk_ix (x : Int32) {n : Nat} (hn : n < 2 ^ 31) : x < 0 ∨ nI n ≤ x ∨ ∃ j : Nat, j < n ∧ x = nI j := by
  by_cases h : x < 0
  · exact Or.inl h
  · obtain ⟨j, hj, rfl⟩ := nI_of h
    by_cases h2 : j < n
    · exact Or.inr (Or.inr ⟨j, h2, rfl⟩)
    · exact Or.inr (Or.inl (nI_le (by omega) hj))
theorem pk_le {x y : Int32} {A B : Prop} (a b : Nat) (f : a ≤ b → A) (g : b < a → B) (hx : x = nI a := by rfl) (hy : y = nI b := by rfl) (ha : a < 2 ^ 31 := by omega) (hb : b < 2 ^ 31 := by omega) : (x ≤ y → A) ∧ (¬ x ≤ y → B) := by
  subst hx hy
  rw [nI_leI ha hb]
  exact ⟨f, fun z => g (by omega)⟩
theorem pk_lt {x y : Int32} {A B : Prop} (a b : Nat) (f : a < b → A) (g : b ≤ a → B) (hx : x = nI a := by rfl) (hy : y = nI b := by rfl) (ha : a < 2 ^ 31 := by omega) (hb : b < 2 ^ 31 := by omega) : (x < y → A) ∧ (¬ x < y → B) := by
  subst hx hy
  rw [nI_ltI ha hb]
  exact ⟨f, fun z => g (by omega)⟩
theorem pk_eq {x y : Int32} {A B : Prop} (a b : Nat) (f : a = b → A) (g : a ≠ b → B) (hx : x = nI a := by rfl) (hy : y = nI b := by rfl) (ha : a < 2 ^ 31 := by omega) (hb : b < 2 ^ 31 := by omega) : (x = y → A) ∧ (¬ x = y → B) := by
  subst hx hy
  rw [nI_eq ha hb]
  exact ⟨f, g⟩
theorem pk_in {x : Int32} (n N : Nat) (h : n < N) (hx : x = nI n := by rfl) (hN : N < 2 ^ 31 := by omega) : vp_in x N := by
  subst hx
  exact vp_in_nI h hN
theorem pk_cl {x : Int32} (n : Nat) (hx : x = nI n := by rfl) (h : n < 2 ^ 31 := by omega) : x.toNatClampNeg = n := by
  subst hx
  exact nI_clamp h
theorem pk_tn {n : Nat} (h : n < 2 ^ 32) : (nI n).toBitVec.toNat = n := Nat.mod_eq_of_lt h
theorem pk_and (x : Int32) {m : Int32} (k : Nat) (hm : m.toBitVec.toNat = 2 ^ k - 1) : x &&& m = nI (x.toBitVec.toNat % 2 ^ k) := by
  apply Int32.toBitVec_inj.mp
  apply BitVec.eq_of_toNat_eq
  rw [Int32.toBitVec_and, BitVec.toNat_and, hm, Nat.and_two_pow_sub_one_eq_mod]
  show _ = (BitVec.ofNat 32 _).toNat
  rw [BitVec.toNat_ofNat]
  exact (Nat.mod_eq_of_lt (Nat.lt_of_le_of_lt (Nat.mod_le _ _) x.toBitVec.isLt)).symm
theorem pk_andN {n : Nat} (h : n < 2 ^ 32) {m : Int32} (k : Nat) (hm : m.toBitVec.toNat = 2 ^ k - 1) : nI n &&& m = nI (n % 2 ^ k) := by
  rw [pk_and _ k hm, pk_tn h]
theorem pk_andE (x : Int32) {m : Int32} (k : Nat) (hm : m.toBitVec.toNat = 2 ^ k - 1) : ∃ j : Nat, j < 2 ^ k ∧ x &&& m = nI j := ⟨_, Nat.mod_lt _ (Nat.two_pow_pos k), pk_and x k hm⟩
theorem pk_andIn (x : Int32) {m : Int32} (k : Nat) (hm : m.toBitVec.toNat = 2 ^ k - 1) (hk : k ≤ 30) : vp_in (x &&& m) (2 ^ k) := by
  obtain ⟨j, hj, e⟩ := pk_andE x k hm
  rw [e]
  exact vp_in_nI hj (Nat.lt_of_le_of_lt (Nat.pow_le_pow_right (by decide) hk) (by decide))
end
section
def cc_ar (t : Nat) : Nat :=
  if t = 2 ∨ t = 39 ∨ (100 ≤ t ∧ t ≤ 127) ∨ 142 < t then 0
  else if (10 ≤ t ∧ t ≤ 33) ∨ (66 ≤ t ∧ t ≤ 68) ∨ t = 128 ∨ t = 139 then 1
  else if t = 56 then 4
  else if t = 35 ∨ (40 ≤ t ∧ t ≤ 55) ∨ (63 ≤ t ∧ t ≤ 65) ∨ t = 142 then 3 else 2

def cc_ts (t i : Nat) : Bool :=
  if t = 1 then true
  else if t = 35 ∨ t = 36 ∨ t = 56 then decide (0 < i)
  else if t = 37 then decide (i = 0)
  else decide (40 ≤ t ∧ t ≤ 55 ∧ i = 2)

def cc_st (t : Nat) : Bool :=
  decide ((1 ≤ t ∧ t ≤ 2) ∨ (10 ≤ t ∧ t ≤ 25) ∨ (30 ≤ t ∧ t ≤ 37) ∨ (39 ≤ t ∧ t ≤ 56) ∨ (60 ≤ t ∧ t ≤ 68))

def cc_ex (t : Nat) : Bool :=
  decide ((100 ≤ t ∧ t ≤ 115) ∨ (120 ≤ t ∧ t ≤ 128) ∨ (130 ≤ t ∧ t ≤ 157) ∨ (210 ≤ t ∧ t ≤ 290))

def cc_ps (t : Nat) : List Bool := (List.range (cc_ar t)).map (cc_ts t)

def cc_sk (T : Nat → Nat) : Nat → List Bool
  | 0 => [true]
  | k + 1 => cc_ps (T k) ++ (cc_sk T k).tail

def cc_h (T : Nat → Nat) (k : Nat) : Nat := (cc_sk T k).length

def cc_ok (T : Nat → Nat) (n : Nat) : Prop :=
  ∀ k, k < n → (cc_sk T k).head? = some (cc_st (T k)) ∧ (cc_st (T k) = true ∨ cc_ex (T k) = true)

theorem cc_ps_len (t : Nat) : (cc_ps t).length = cc_ar t := by simp [cc_ps]

theorem cc_ar_le (t : Nat) : cc_ar t ≤ 4 := by
  unfold cc_ar
  repeat' split
  all_goals omega

theorem cc_hpos {T : Nat → Nat} {n k : Nat} (h : cc_ok T n) (hk : k < n) : 0 < cc_h T k := by
  have := (h k hk).1
  unfold cc_h
  cases hl : cc_sk T k with
  | nil => rw [hl] at this; simp at this
  | cons b l => simp

theorem cc_hs {T : Nat → Nat} {k : Nat} (hp : 0 < cc_h T k) : cc_h T (k + 1) + 1 = cc_h T k + cc_ar (T k) := by
  unfold cc_h at *
  simp only [cc_sk, List.length_append, cc_ps_len, List.length_tail]
  omega

theorem cc_h_le (T : Nat → Nat) (k : Nat) : cc_h T k ≤ 1 + 3 * k := by
  induction k with
  | zero => simp [cc_h, cc_sk]
  | succ k ih =>
    have := cc_ar_le (T k)
    unfold cc_h at *
    simp only [cc_sk, List.length_append, cc_ps_len, List.length_tail]
    omega

theorem cc_sk_congr {T T' : Nat → Nat} {k : Nat} (h : ∀ i, i < k → T i = T' i) : cc_sk T k = cc_sk T' k := by
  induction k with
  | zero => rfl
  | succ k ih =>
    simp only [cc_sk]
    rw [h k (by omega), ih (fun i hi => h i (by omega))]

theorem cc_ok_congr {T T' : Nat → Nat} {n : Nat} (h : ∀ i, i < n → T i = T' i) (ho : cc_ok T n) : cc_ok T' n := by
  intro k hk
  rw [← cc_sk_congr (T := T) (T' := T') (k := k) (fun i hi => h i (by omega)), ← h k hk]
  exact ho k hk

theorem cc_ok_le {T : Nat → Nat} {n m : Nat} (h : m ≤ n) (ho : cc_ok T n) : cc_ok T m := fun k hk => ho k (by omega)

def cc_F (T : Nat → Nat) (m i j : Nat) : Prop :=
  i ≤ j ∧ cc_h T j = m ∧ ∀ k, i ≤ k → k < j → m < cc_h T k

theorem cc_F_uniq {T : Nat → Nat} {m i j j' : Nat} (a : cc_F T m i j) (b : cc_F T m i j') : j = j' := by
  obtain ⟨a1, a2, a3⟩ := a
  obtain ⟨b1, b2, b3⟩ := b
  rcases Nat.lt_trichotomy j j' with h | h | h
  · have := b3 j a1 h; omega
  · exact h
  · have := a3 j' b1 h; omega

theorem cc_F_comp {T : Nat → Nat} {m m' i j k : Nat} (a : cc_F T m i j) (b : cc_F T m' j k) (h : m' ≤ m) : cc_F T m' i k := by
  obtain ⟨a1, a2, a3⟩ := a
  obtain ⟨b1, b2, b3⟩ := b
  refine ⟨by omega, b2, fun x h1 h2 => ?_⟩
  by_cases hx : x < j
  · have := a3 x h1 hx; omega
  · exact b3 x (by omega) h2

theorem cc_F_step {T : Nat → Nat} {m i j : Nat} (a : cc_F T m (i + 1) j) (h : m < cc_h T i) : cc_F T m i j := by
  obtain ⟨a1, a2, a3⟩ := a
  refine ⟨by omega, a2, fun x h1 h2 => ?_⟩
  by_cases hx : x = i
  · rw [hx]; exact h
  · exact a3 x (by omega) h2

theorem cc_F_refl {T : Nat → Nat} {i : Nat} : cc_F T (cc_h T i) i i := ⟨Nat.le_refl _, rfl, fun k h1 h2 => by omega⟩

theorem cc_F_lt {T : Nat → Nat} {m i j e : Nat} (a : cc_F T m i j) (he : cc_h T e < m) (hi : i ≤ e) : j < e := by
  obtain ⟨a1, a2, a3⟩ := a
  rcases Nat.lt_trichotomy j e with h | h | h
  · exact h
  · rw [← h] at he; omega
  · have := a3 e hi h; omega

theorem cc_F_le {T : Nat → Nat} {m i j e : Nat} (a : cc_F T m i j) (he : cc_h T e ≤ m) (hi : i ≤ e) : j ≤ e := by
  obtain ⟨a1, a2, a3⟩ := a
  rcases Nat.lt_trichotomy j e with h | h | h
  · omega
  · omega
  · have := a3 e hi h; omega

def cc_fr (T : Nat → Nat) (m : Nat) : Nat → Nat → Nat
  | 0, i => i
  | f + 1, i => if cc_h T i ≤ m then i else cc_fr T m f (i + 1)

theorem cc_fr_ge (T : Nat → Nat) (m f i : Nat) : i ≤ cc_fr T m f i := by
  induction f generalizing i with
  | zero => simp [cc_fr]
  | succ f ih =>
    simp only [cc_fr]
    split
    · omega
    · have := ih (i + 1); omega

theorem cc_fr_F {T : Nat → Nat} {n m f i : Nat} (ho : cc_ok T n) (hi : i ≤ n) (hm : m ≤ cc_h T i) (hn : cc_h T n ≤ m) (hf : n < i + f) :
    cc_F T m i (cc_fr T m f i) := by
  induction f generalizing i with
  | zero => omega
  | succ f ih =>
    simp only [cc_fr]
    split
    · rename_i h
      have : m = cc_h T i := by omega
      rw [this]; exact cc_F_refl
    · rename_i h
      have hne : i ≠ n := by intro e; rw [e] at h; omega
      have hs := cc_hs (cc_hpos ho (show i < n by omega))
      exact cc_F_step (ih (by omega) (by omega) (by omega)) (by omega)

def cc_en (T : Nat → Nat) (i : Nat) : Nat := cc_fr T (cc_h T i - 1) 61 i

theorem cc_en_ge (T : Nat → Nat) (i : Nat) : i ≤ cc_en T i := cc_fr_ge _ _ _ _

def cc_wh (T : Nat → Nat) (n : Nat) : Prop := cc_ok T n ∧ cc_h T n = 0 ∧ n ≤ 60

theorem cc_en_F {T : Nat → Nat} {n i : Nat} (w : cc_wh T n) (hi : i < n) : cc_F T (cc_h T i - 1) i (cc_en T i) := by
  obtain ⟨ho, hz, hn⟩ := w
  exact cc_fr_F ho (by omega) (by omega) (by omega) (by omega)

theorem cc_en_h {T : Nat → Nat} {n i : Nat} (w : cc_wh T n) (hi : i < n) : cc_h T (cc_en T i) + 1 = cc_h T i := by
  have := (cc_en_F w hi).2.1
  have := cc_hpos w.1 hi
  omega

theorem cc_en_gt {T : Nat → Nat} {n i : Nat} (w : cc_wh T n) (hi : i < n) : i < cc_en T i := by
  have h1 := cc_en_ge T i
  have h2 := cc_en_h w hi
  by_cases h : i = cc_en T i
  · rw [← h] at h2; omega
  · omega

theorem cc_en_le {T : Nat → Nat} {n i : Nat} (w : cc_wh T n) (hi : i < n) : cc_en T i ≤ n :=
  cc_F_le (cc_en_F w hi) (by have := w.2.1; omega) (by omega)

def cc_nx (T : Nat → Nat) : Nat → Nat → Nat
  | 0, i => i
  | k + 1, i => cc_en T (cc_nx T k i)

theorem cc_nx_F {T : Nat → Nat} {n i k : Nat} (w : cc_wh T n) (hi : i < n) (hk : k ≤ cc_ar (T i)) :
    cc_F T (cc_h T (i + 1) - k) (i + 1) (cc_nx T k (i + 1)) := by
  have hp := cc_hpos w.1 hi
  have hs := cc_hs hp
  have hz := w.2.1
  induction k with
  | zero => exact cc_F_refl
  | succ k ih =>
    have a := ih (by omega)
    have hl : cc_nx T k (i + 1) < n := cc_F_lt a (by omega) (by omega)
    have b := cc_en_F w hl
    have e := a.2.1
    rw [e] at b
    exact cc_F_comp a b (by omega)

theorem cc_nx_lt {T : Nat → Nat} {n i k : Nat} (w : cc_wh T n) (hi : i < n) (hk : k < cc_ar (T i)) : cc_nx T k (i + 1) < n := by
  have hs := cc_hs (cc_hpos w.1 hi)
  have hz := w.2.1
  exact cc_F_lt (cc_nx_F w hi (Nat.le_of_lt hk)) (by have := cc_hpos w.1 hi; omega) (by omega)

theorem cc_nx_en {T : Nat → Nat} {n i : Nat} (w : cc_wh T n) (hi : i < n) : cc_nx T (cc_ar (T i)) (i + 1) = cc_en T i := by
  have hp := cc_hpos w.1 hi
  have hs := cc_hs hp
  have a := cc_nx_F w hi (Nat.le_refl _)
  have e : cc_h T (i + 1) - cc_ar (T i) = cc_h T i - 1 := by omega
  rw [e] at a
  exact cc_F_uniq (cc_F_step a (by omega)) (cc_en_F w hi)

theorem cc_drop_app (a l : List Bool) (d : Nat) : (a ++ l).drop (a.length + d) = l.drop d := by
  induction a with
  | nil => simp
  | cons b a ih =>
    rw [List.length_cons, show a.length + 1 + d = (a.length + d) + 1 by omega]
    simpa using ih

theorem cc_drop_tail (l : List Bool) (d : Nat) : l.tail.drop d = l.drop (d + 1) := by
  cases l with
  | nil => simp
  | cons b l => simp

theorem cc_F_sk {T : Nat → Nat} {n m i j : Nat} (ho : cc_ok T n) (hj : j ≤ n) (a : cc_F T m i j) (hm : m ≤ cc_h T i) :
    cc_sk T j = (cc_sk T i).drop (cc_h T i - m) := by
  obtain ⟨a1, a2, a3⟩ := a
  have key : ∀ x, i ≤ x → x ≤ j → (cc_sk T x).drop (cc_h T x - m) = (cc_sk T i).drop (cc_h T i - m) := by
    intro x
    induction x with
    | zero => intro h1 _; have : i = 0 := by omega
              rw [this]
    | succ x ih =>
      intro h1 h2
      by_cases hx : i = x + 1
      · rw [hx]
      · have g := ih (by omega) (by omega)
        have hh := a3 x (by omega) (by omega)
        have hs := cc_hs (k := x) (T := T) (by omega)
        rw [← g]
        have e : cc_h T (x + 1) - m = (cc_ps (T x)).length + (cc_h T x - 1 - m) := by rw [cc_ps_len]; omega
        rw [e]
        simp only [cc_sk]
        rw [cc_drop_app, cc_drop_tail]
        rw [show cc_h T x - 1 - m + 1 = cc_h T x - m by omega]
  have := key j a1 (Nat.le_refl _)
  rw [← this, a2]
  simp

theorem cc_ps_get {t k : Nat} (l : List Bool) (hk : k < cc_ar t) : (cc_ps t ++ l)[k]? = some (cc_ts t k) := by
  rw [List.getElem?_append_left (by rw [cc_ps_len]; exact hk)]
  simp [cc_ps, List.getElem?_map, List.getElem?_range, hk]

theorem cc_ps_get' {t k : Nat} (l : List Bool) (hk : cc_ar t ≤ k) : (cc_ps t ++ l)[k]? = l[k - cc_ar t]? := by
  rw [List.getElem?_append_right (by rw [cc_ps_len]; exact hk), cc_ps_len]

theorem cc_part {T : Nat → Nat} {n i k : Nat} (w : cc_wh T n) (hi : i < n) (hk : k < cc_ar (T i)) :
    cc_st (T (cc_nx T k (i + 1))) = cc_ts (T i) k := by
  have hl := cc_nx_lt w hi hk
  have hp := cc_hpos w.1 hi
  have hs := cc_hs hp
  have a := cc_nx_F w hi (Nat.le_of_lt hk)
  have e := cc_F_sk w.1 (Nat.le_of_lt hl) a (by omega)
  have h1 := (w.1 _ hl).1
  rw [e, show cc_h T (i + 1) - (cc_h T (i + 1) - k) = k by omega] at h1
  rw [List.head?_drop] at h1
  simp only [cc_sk] at h1
  rw [cc_ps_get _ hk] at h1
  exact (Option.some.inj h1).symm

theorem cc_kind {T : Nat → Nat} {n i : Nat} (w : cc_wh T n) (hi : i < n) (hs : cc_st (T i) = false) : cc_ex (T i) = true := by
  rcases (w.1 i hi).2 with h | h
  · rw [h] at hs; cases hs
  · exact h

theorem cc_st_ex {t : Nat} (h : cc_ex t = true) : cc_st t = false := by
  unfold cc_ex at h
  unfold cc_st
  simp only [decide_eq_true_eq] at h
  simp only [decide_eq_false_iff_not]
  omega

theorem cc_ts_ex {t : Nat} (h : cc_ex t = true) (k : Nat) : cc_ts t k = false := by
  unfold cc_ex at h
  simp only [decide_eq_true_eq] at h
  unfold cc_ts
  rw [if_neg (by omega), if_neg (by omega), if_neg (by omega)]
  simp only [decide_eq_false_iff_not]
  omega

theorem cc_allEx {T : Nat → Nat} {n i : Nat} (w : cc_wh T n) (hi : i < n) (hx : cc_ex (T i) = true) :
    ∀ x, i ≤ x → x < cc_en T i → cc_ex (T x) = true := by
  have hF := cc_en_F w hi
  have hE := cc_en_h w hi
  have hl := cc_en_le w hi
  have key : ∀ x, i ≤ x → x < cc_en T i → ∀ k, k < cc_h T x - (cc_h T i - 1) → (cc_sk T x)[k]? = some false := by
    intro x
    induction x with
    | zero =>
      intro h1 h2 k hk
      have e : i = 0 := by omega
      rw [← e] at hk ⊢
      have hp := cc_hpos w.1 hi
      have k0 : k = 0 := by omega
      rw [k0, ← List.head?_eq_getElem?, (w.1 i hi).1, cc_st_ex hx]
    | succ x ih =>
      intro h1 h2 k hk
      by_cases e : i = x + 1
      · rw [← e] at hk ⊢
        have hp := cc_hpos w.1 hi
        have k0 : k = 0 := by omega
        rw [k0, ← List.head?_eq_getElem?, (w.1 i hi).1, cc_st_ex hx]
      · have g := ih (by omega) (by omega)
        have hh := hF.2.2 x (by omega) (by omega)
        have hp := cc_hpos w.1 (show x < n by omega)
        have hs := cc_hs hp
        have g0 := g 0 (by omega)
        rw [← List.head?_eq_getElem?, (w.1 x (by omega)).1] at g0
        have xe := cc_kind w (show x < n by omega) (Option.some.inj g0)
        simp only [cc_sk]
        by_cases hk2 : k < cc_ar (T x)
        · rw [cc_ps_get _ hk2, cc_ts_ex xe]
        · rw [cc_ps_get' _ (by omega)]
          have g1 := g (k - cc_ar (T x) + 1) (by omega)
          rw [← g1]
          cases cc_sk T x with
          | nil => simp
          | cons b l => simp
  intro x h1 h2
  have hh := hF.2.2 x h1 h2
  have g0 := key x h1 h2 0 (by omega)
  rw [← List.head?_eq_getElem?, (w.1 x (by omega)).1] at g0
  exact cc_kind w (by omega) (Option.some.inj g0)
end
section
def cc_lf (va inp ou td te cv cd ed : Nat → Int32) (t : Nat) : Int32 :=
  if t < 120 then va (t - 100) else if t < 124 then inp (t - 120) else if t < 128 then ou (t - 124)
  else if t < 146 then td (t - 143) else if t < 149 then te (t - 146) else if t < 152 then cv (t - 149)
  else if t < 155 then cd (t - 152) else if t < 158 then ed (t - 155) else nI t - 250

def cc_op (ce : Nat → Int32) (t : Nat) (e f g : Int32) : Int32 :=
  if t = 128 then ce (e &&& 7).toNatClampNeg
  else if t = 130 then e + f else if t = 131 then e - f else if t = 132 then e * f
  else if t = 133 then (if f = 0 then 0 else e / f)
  else if t = 134 then (if f = 0 then 0 else e - e / f * f)
  else if t = 135 then (if e < f then 1 else 0)
  else if t = 136 then (if e = f then 1 else 0)
  else if t = 137 then (if e ≠ 0 ∧ f ≠ 0 then 1 else 0)
  else if t = 138 then (if e ≠ 0 ∨ f ≠ 0 then 1 else 0)
  else if t = 139 then (if e = 0 then 1 else 0)
  else if t = 140 then (if f < e then e else f)
  else if t = 141 then (if e < f then e else f)
  else (if e ≠ 0 then f else g)

def cc_vl (T : Nat → Nat) (n : Nat) (lf : Nat → Int32) (ce : Nat → Int32) (i : Nat) : Int32 :=
  if _h : i < n then
    (if cc_ar (T i) = 0 then lf (T i) else
      cc_op ce (T i) (cc_vl T n lf ce (i + 1)) (cc_vl T n lf ce (cc_en T (i + 1)))
        (cc_vl T n lf ce (cc_en T (cc_en T (i + 1)))))
  else 0
termination_by n - i
decreasing_by
  all_goals (have := cc_en_ge T (i + 1); have := cc_en_ge T (cc_en T (i + 1)); omega)

theorem cc_vl_0 {T : Nat → Nat} {n i : Nat} {lf ce : Nat → Int32} (hi : i < n) (ha : cc_ar (T i) = 0) :
    cc_vl T n lf ce i = lf (T i) := by
  rw [cc_vl, dif_pos hi, if_pos ha]

theorem cc_vl_s {T : Nat → Nat} {n i : Nat} {lf ce : Nat → Int32} (hi : i < n) (ha : cc_ar (T i) ≠ 0) :
    cc_vl T n lf ce i = cc_op ce (T i) (cc_vl T n lf ce (i + 1)) (cc_vl T n lf ce (cc_en T (i + 1)))
        (cc_vl T n lf ce (cc_en T (cc_en T (i + 1)))) := by
  rw [cc_vl, dif_pos hi, if_neg ha]

def cc_ns (T : Nat → Nat) (val : Nat → Int32) (num : Nat → Int32) : Nat → Nat → Prop
  | 0, _ => True
  | c + 1, pos => num c = val pos ∧ cc_ns T val num c (cc_en T pos)

theorem cc_u_s (f : Nat → Int32) (k : Nat) (x : Int32) : upd f k x k = x := by simp [upd]

theorem cc_u_n {f : Nat → Int32} {k j : Nat} {x : Int32} (h : j ≠ k) : upd f k x j = f j := by simp [upd, h]

theorem cc_u_id {f : Nat → Int32} {k : Nat} {x : Int32} (h : f k = x) : upd f k x = f := by
  funext j
  by_cases e : j = k
  · rw [e, cc_u_s, h]
  · rw [cc_u_n e]

theorem cc_ns_upd {T : Nat → Nat} {val num : Nat → Int32} {c pos k : Nat} {x : Int32} (hk : c ≤ k) (h : cc_ns T val num c pos) :
    cc_ns T val (upd num k x) c pos := by
  induction c generalizing pos with
  | zero => trivial
  | succ c ih =>
    refine ⟨?_, ih (by omega) h.2⟩
    rw [cc_u_n (by omega)]
    exact h.1

def cc_bI (b : Bool) : Int32 := if b = true then 1 else 0

def cc_sr (w : Nat → Int32) : List Bool → Prop
  | [] => True
  | b :: L => w L.length = cc_bI b ∧ cc_sr w L

theorem cc_sr_upd {w : Nat → Int32} {L : List Bool} {k : Nat} {x : Int32} (hk : L.length ≤ k) (h : cc_sr w L) : cc_sr (upd w k x) L := by
  induction L with
  | nil => trivial
  | cons b L ih =>
    simp only [List.length_cons] at hk
    refine ⟨?_, ih (by omega) h.2⟩
    rw [cc_u_n (by omega)]
    exact h.1

theorem cc_sr_tail {w : Nat → Int32} {L : List Bool} (h : cc_sr w L) : cc_sr w L.tail := by
  cases L with
  | nil => trivial
  | cons b L => exact h.2

def cc_nk (L : List Bool) : Nat :=
  match L with
  | [] => 0
  | b :: _ => if b = true then 1 else 2

def cc_xs (pp pr pl : Nat → Int32) : List (Nat × Nat × Int32) → Prop
  | [] => True
  | e :: L => pp L.length = nI e.1 ∧ pr L.length = nI e.2.1 - 1 ∧ pl L.length = e.2.2 ∧ cc_xs pp pr pl L

theorem cc_xs_upd {pp pr pl : Nat → Int32} {L : List (Nat × Nat × Int32)} {k : Nat} {x y z : Int32} (hk : L.length ≤ k) (h : cc_xs pp pr pl L) :
    cc_xs (upd pp k x) (upd pr k y) (upd pl k z) L := by
  induction L with
  | nil => trivial
  | cons e L ih =>
    simp only [List.length_cons] at hk
    refine ⟨?_, ?_, ?_, ih (by omega) h.2.2.2⟩
    · rw [cc_u_n (by omega)]; exact h.1
    · rw [cc_u_n (by omega)]; exact h.2.1
    · rw [cc_u_n (by omega)]; exact h.2.2.1

theorem cc_xs_updr {pp pr pl : Nat → Int32} {L : List (Nat × Nat × Int32)} {k : Nat} {y : Int32} (hk : L.length ≤ k) (h : cc_xs pp pr pl L) :
    cc_xs pp (upd pr k y) pl L := by
  induction L with
  | nil => trivial
  | cons e L ih =>
    simp only [List.length_cons] at hk
    refine ⟨h.1, ?_, h.2.2.1, ih (by omega) h.2.2.2⟩
    rw [cc_u_n (by omega)]; exact h.2.1

theorem cc_xs_push {pp pr pl : Nat → Int32} {L : List (Nat × Nat × Int32)} (q c : Nat) (l : Int32) (h : cc_xs pp pr pl L) :
    cc_xs (upd pp L.length (nI q)) (upd pr L.length (nI c - 1)) (upd pl L.length l) ((q, c, l) :: L) :=
  ⟨cc_u_s _ _ _, cc_u_s _ _ _, cc_u_s _ _ _, cc_xs_upd (Nat.le_refl _) h⟩

def cc_yk (c : Nat) : Int32 := if c = 0 then 0 else if c = 1 then 1 else 2

def cc_ys (a : Nat) (tk ta tr tl : Nat → Int32) : List (Nat × Nat × Int32) → Prop
  | [] => True
  | e :: L => tk L.length = cc_yk e.2.1 ∧ ta L.length = nI (60 * a + e.1) ∧ tr L.length = nI (e.2.1 - 2) ∧ tl L.length = e.2.2 ∧ cc_ys a tk ta tr tl L

theorem cc_ys_upd {a : Nat} {tk ta tr tl : Nat → Int32} {L : List (Nat × Nat × Int32)} {k : Nat} {x y z u : Int32} (hk : L.length ≤ k) (h : cc_ys a tk ta tr tl L) :
    cc_ys a (upd tk k x) (upd ta k y) (upd tr k z) (upd tl k u) L := by
  induction L with
  | nil => trivial
  | cons e L ih =>
    simp only [List.length_cons] at hk
    refine ⟨?_, ?_, ?_, ?_, ih (by omega) h.2.2.2.2⟩
    · rw [cc_u_n (by omega)]; exact h.1
    · rw [cc_u_n (by omega)]; exact h.2.1
    · rw [cc_u_n (by omega)]; exact h.2.2.1
    · rw [cc_u_n (by omega)]; exact h.2.2.2.1

theorem cc_ys_push {a : Nat} {tk ta tr tl : Nat → Int32} {L : List (Nat × Nat × Int32)} (q c : Nat) (l : Int32) (h : cc_ys a tk ta tr tl L) :
    cc_ys a (upd tk L.length (cc_yk c)) (upd ta L.length (nI (60 * a + q))) (upd tr L.length (nI (c - 2))) (upd tl L.length l) ((q, c, l) :: L) :=
  ⟨cc_u_s _ _ _, cc_u_s _ _ _, cc_u_s _ _ _, cc_u_s _ _ _, cc_ys_upd (Nat.le_refl _) h⟩

def cc_lp (t : Nat) : Prop := t = 36 ∨ t = 37 ∨ (40 ≤ t ∧ t ≤ 55)

def cc_so (T : Nat → Nat) (n : Nat) : List (Nat × Nat × Int32) → Nat → Nat → Prop
  | [], lo, hi => lo = 0 ∧ hi = n
  | e :: L, lo, hi => ∃ lo' hi', cc_so T n L lo' hi' ∧ lo' ≤ e.1 ∧ e.1 < n ∧ cc_en T e.1 ≤ hi' ∧ cc_st (T e.1) = true ∧ e.2.1 ≤ 21 ∧
      ((e.2.1 = 0 ∧ lo = lo' ∧ hi = e.1) ∨ (e.2.1 ≠ 0 ∧ lo = e.1 + 1 ∧ hi = cc_en T e.1 ∧ cc_lp (T e.1)))

theorem cc_so_len {T : Nat → Nat} {n : Nat} (w : cc_wh T n) {L : List (Nat × Nat × Int32)} {lo hi : Nat} (h : cc_so T n L lo hi) :
    lo ≤ hi ∧ hi ≤ n ∧ L.length + (hi - lo) ≤ n := by
  induction L generalizing lo hi with
  | nil =>
    obtain ⟨h1, h2⟩ := h
    subst h1 h2
    simp
  | cons e L ih =>
    obtain ⟨lo', hi', h1, h2, h3, h4, h5, h6, h7⟩ := h
    have g := ih h1
    have gt := cc_en_gt w h3
    simp only [List.length_cons]
    rcases h7 with ⟨_, rfl, rfl⟩ | ⟨_, rfl, rfl, _⟩
    · omega
    · omega

def cc_wt (T : Nat → Nat) : List (Nat × Nat × Int32) → Nat
  | [] => 0
  | e :: L => (if e.2.1 = 0 then 2 * (cc_en T e.1 - e.1) else 1) + cc_wt T L

def cc_n1 (L : List (Nat × Nat × Int32)) : Prop := ∀ e, e ∈ L → e.2.1 ≠ 1

def cc_lv : List (Nat × Nat × Int32) → List (Nat × Nat × Int32)
  | [] => []
  | e :: L => if e.2.1 = 0 then cc_lv L else L

theorem cc_lv_wt (T : Nat → Nat) (L : List (Nat × Nat × Int32)) : cc_wt T (cc_lv L) ≤ cc_wt T L := by
  induction L with
  | nil => simp [cc_lv]
  | cons e L ih =>
    simp only [cc_lv, cc_wt]
    split
    · omega
    · omega

theorem cc_lv_n1 {L : List (Nat × Nat × Int32)} (h : cc_n1 L) : cc_n1 (cc_lv L) := by
  induction L with
  | nil => exact h
  | cons e L ih =>
    have hL : cc_n1 L := fun x hx => h x (List.mem_cons_of_mem _ hx)
    simp only [cc_lv]
    split
    · exact ih hL
    · exact hL

theorem cc_lv_so {T : Nat → Nat} {n : Nat} {L : List (Nat × Nat × Int32)} {lo hi : Nat} (h : cc_so T n L lo hi) : ∃ lo' hi', cc_so T n (cc_lv L) lo' hi' := by
  induction L generalizing lo hi with
  | nil => exact ⟨lo, hi, h⟩
  | cons e L ih =>
    obtain ⟨lo', hi', h1, _⟩ := h
    simp only [cc_lv]
    split
    · exact ih h1
    · exact ⟨lo', hi', h1⟩

theorem cc_lv_xs {pp pr pl : Nat → Int32} {L : List (Nat × Nat × Int32)} (h : cc_xs pp pr pl L) : cc_xs pp pr pl (cc_lv L) := by
  induction L with
  | nil => exact h
  | cons e L ih =>
    simp only [cc_lv]
    split
    · exact ih h.2.2.2
    · exact h.2.2.2

theorem cc_lv_ys {a : Nat} {tk ta tr tl : Nat → Int32} {L : List (Nat × Nat × Int32)} (h : cc_ys a tk ta tr tl L) : cc_ys a tk ta tr tl (cc_lv L) := by
  induction L with
  | nil => exact h
  | cons e L ih =>
    simp only [cc_lv]
    split
    · exact ih h.2.2.2.2
    · exact h.2.2.2.2

theorem cc_ch {T : Nat → Nat} {n q k : Nat} (w : cc_wh T n) (hq : q < n) (hk : k < cc_ar (T q)) :
    q < cc_nx T k (q + 1) ∧ cc_nx T k (q + 1) < n ∧ cc_en T (cc_nx T k (q + 1)) ≤ cc_en T q ∧ cc_nx T k (q + 1) < cc_en T (cc_nx T k (q + 1)) := by
  have hp := cc_hpos w.1 hq
  have hs := cc_hs hp
  have a := cc_nx_F w hq (Nat.le_of_lt hk)
  have b := cc_nx_F (k := k + 1) w hq (by omega)
  have l := cc_nx_lt w hq hk
  have e := cc_en_h w hq
  have g := cc_en_gt w hq
  refine ⟨by have := a.1; omega, l, ?_, cc_en_gt w l⟩
  exact cc_F_le b (by omega) (by omega)

theorem cc_so_w {T : Nat → Nat} {n q k : Nat} {L : List (Nat × Nat × Int32)} {lo hi : Nat} (w : cc_wh T n) (h : cc_so T n L lo hi) (hlo : lo ≤ q) (hq : q < n) (hhi : cc_en T q ≤ hi)
    (hk : k < cc_ar (T q)) (hs : cc_ts (T q) k = true) (l : Int32) : cc_so T n ((cc_nx T k (q + 1), 0, l) :: L) lo (cc_nx T k (q + 1)) := by
  obtain ⟨c1, c2, c3, c4⟩ := cc_ch w hq hk
  exact ⟨lo, hi, h, by show lo ≤ cc_nx T k (q + 1); omega, c2, by show cc_en T (cc_nx T k (q + 1)) ≤ hi; omega, (cc_part w hq hk).trans hs, by show (0 : Nat) ≤ 21; omega, Or.inl ⟨rfl, rfl, rfl⟩⟩

theorem cc_so_l {T : Nat → Nat} {n q c : Nat} {L : List (Nat × Nat × Int32)} {lo hi : Nat} (h : cc_so T n L lo hi) (hlo : lo ≤ q) (hq : q < n) (hhi : cc_en T q ≤ hi)
    (hs : cc_st (T q) = true) (hl : cc_lp (T q)) (hc : c ≠ 0) (hc' : c ≤ 21) (l : Int32) : cc_so T n ((q, c, l) :: L) (q + 1) (cc_en T q) :=
  ⟨lo, hi, h, hlo, hq, hhi, hs, hc', Or.inr ⟨hc, rfl, rfl, hl⟩⟩

theorem cc_wt_ch {T : Nat → Nat} {n q k : Nat} (w : cc_wh T n) (hq : q < n) (hk : k < cc_ar (T q)) (l l' : Int32) (L : List (Nat × Nat × Int32)) :
    cc_wt T ((cc_nx T k (q + 1), 0, l) :: L) < cc_wt T ((q, 0, l') :: L) := by
  obtain ⟨c1, c2, c3, c4⟩ := cc_ch w hq hk
  simp only [cc_wt, if_true]
  omega

theorem cc_n1_cons {L : List (Nat × Nat × Int32)} {e : Nat × Nat × Int32} (h : cc_n1 L) (he : e.2.1 ≠ 1) : cc_n1 (e :: L) := by
  intro x hx
  rcases List.mem_cons.mp hx with h1 | h1
  · rw [h1]; exact he
  · exact h x h1
end
section
theorem cc_cast {α : Type} {post : α → Prop} {a b : α} (h : post a) (e : a = b) : post b := e ▸ h

theorem cc_tI {t : Nat} (h : t < 2147483648) : (nI t).toInt = (t : Int) := nI_toInt h

def cc_od (t : Nat) : Nat :=
  if t = 128 ∨ t = 139 then 1 else if t = 142 then 3 else if 130 ≤ t ∧ t < 142 then 2 else 0

def cc_ep (t : Nat) : Nat :=
  if 100 ≤ t then cc_od t else if t = 1 ∨ t = 2 ∨ t = 39 then 0 else if 63 ≤ t ∧ t < 66 then 3
  else if t = 34 ∨ (40 ≤ t ∧ t < 56) ∨ (60 ≤ t ∧ t < 63) then 2 else 1

def cc_sp (t : Nat) : Nat :=
  if t = 1 ∨ t = 35 then 2 else if t = 56 then 3 else if t = 36 ∨ t = 37 ∨ (40 ≤ t ∧ t < 56) then 1 else 0

def cc_va (t : Nat) : Prop := cc_st t = true ∨ cc_ex t = true

theorem cc_va_iff {t : Nat} (h : cc_va t) : ((1 ≤ t ∧ t ≤ 2) ∨ (10 ≤ t ∧ t ≤ 25) ∨ (30 ≤ t ∧ t ≤ 37) ∨ (39 ≤ t ∧ t ≤ 56) ∨ (60 ≤ t ∧ t ≤ 68)) ∨
    ((100 ≤ t ∧ t ≤ 115) ∨ (120 ≤ t ∧ t ≤ 128) ∨ (130 ≤ t ∧ t ≤ 157) ∨ (210 ≤ t ∧ t ≤ 290)) := by
  rcases h with h | h
  · unfold cc_st at h; simp only [decide_eq_true_eq] at h; exact Or.inl h
  · unfold cc_ex at h; simp only [decide_eq_true_eq] at h; exact Or.inr h

theorem cc_va_lt {t : Nat} (h : cc_va t) : t < 291 := by
  have := cc_va_iff h
  omega

theorem cc_epsp {t : Nat} (h : cc_va t) : cc_ep t + cc_sp t = cc_ar t := by
  have := cc_va_iff h
  unfold cc_ep cc_od cc_sp cc_ar
  repeat' split
  all_goals omega

theorem cc_xod {post : Int32 → Prop} {t : Nat} (ht : t < 2147483648) (h : ∀ k, cc_od t = k → post (nI k)) : wpX_operands post (nI t) := by
  have hT := cc_tI ht
  repeat' (refine br_c (fun _ => ?_) (fun _ => ?_))
  all_goals first | refine h 0 ?_ | refine h 1 ?_ | refine h 2 ?_ | refine h 3 ?_
  all_goals simp only [Int32.lt_iff_toInt_lt, Int32.le_iff_toInt_le, ← Int32.toInt_inj, hT, Int32.reduceToInt, not_true_eq_false] at *
  all_goals (unfold cc_od; repeat' split)
  all_goals omega

theorem cc_xep {post : Int32 → Prop} {t : Nat} (ht : t < 2147483648) (h : ∀ k, cc_ep t = k → post (nI k)) : wpX_expressionParts post (nI t) := by
  have hT := cc_tI ht
  repeat' (refine br_c (fun _ => ?_) (fun _ => ?_))
  all_goals first | refine h 0 ?_ | refine h 1 ?_ | refine h 2 ?_ | refine h 3 ?_
  all_goals simp only [Int32.lt_iff_toInt_lt, Int32.le_iff_toInt_le, ← Int32.toInt_inj, hT, Int32.reduceToInt, not_true_eq_false] at *
  all_goals (unfold cc_ep cc_od; repeat' split)
  all_goals omega

theorem cc_xsp {post : Int32 → Prop} {t : Nat} (ht : t < 2147483648) (h : ∀ k, cc_sp t = k → post (nI k)) : wpX_statementParts post (nI t) := by
  have hT := cc_tI ht
  repeat' (refine br_c (fun _ => ?_) (fun _ => ?_))
  all_goals first | refine h 0 ?_ | refine h 1 ?_ | refine h 2 ?_ | refine h 3 ?_
  all_goals simp only [Int32.lt_iff_toInt_lt, Int32.le_iff_toInt_le, ← Int32.toInt_inj, hT, Int32.reduceToInt, not_true_eq_false] at *
  all_goals (unfold cc_sp; repeat' split)
  all_goals omega
end
section
theorem cc_le (a b : Nat) {x y : Int32} (h : a ≤ b) (hx : x = nI a := by rfl) (hy : y = nI b := by rfl) (hb : b < 2 ^ 31 := by omega) : x ≤ y := by
  subst hx hy; exact nI_le h hb
theorem cc_nle (a b : Nat) {x y : Int32} (h : b < a) (hx : x = nI a := by rfl) (hy : y = nI b := by rfl) (ha : a < 2 ^ 31 := by omega) : ¬ x ≤ y := by
  subst hx hy; exact nI_ge h ha
theorem cc_lt (a b : Nat) {x y : Int32} (h : a < b) (hx : x = nI a := by rfl) (hy : y = nI b := by rfl) (hb : b < 2 ^ 31 := by omega) : x < y := by
  subst hx hy; exact nI_lt h hb
theorem cc_nlt (a b : Nat) {x y : Int32} (h : b ≤ a) (hx : x = nI a := by rfl) (hy : y = nI b := by rfl) (ha : a < 2 ^ 31 := by omega) : ¬ x < y := by
  subst hx hy; exact nI_nlt h ha
theorem cc_eq (a b : Nat) {x y : Int32} (h : a = b) (hx : x = nI a := by rfl) (hy : y = nI b := by rfl) : x = y := by
  subst hx hy; rw [h]
theorem cc_ne (a b : Nat) {x y : Int32} (h : a ≠ b) (hx : x = nI a := by rfl) (hy : y = nI b := by rfl) (ha : a < 2 ^ 31 := by omega) (hb : b < 2 ^ 31 := by omega) : ¬ x = y := by
  subst hx hy; rw [nI_eq ha hb]; exact h

theorem cc_a61 (p i : Nat) : nI p * 61 + nI i = nI (p * 61 + i) := by
  rw [show (61 : Int32) = nI 61 from rfl, pk_mul, nI_add]
theorem cc_a60 (p i : Nat) : 60 * nI p + nI i = nI (60 * p + i) := by
  rw [show (60 : Int32) = nI 60 from rfl, pk_mul, nI_add]
theorem cc_b60 (p : Nat) : 60 * nI p = nI (60 * p) := by
  rw [show (60 : Int32) = nI 60 from rfl, pk_mul]
theorem cc_sm1 (x : Int32) : x - 1 = x + (-1) := Int32.sub_eq_add_neg x 1
theorem cc_s1 {a : Nat} (h : 0 < a) : nI a - 1 = nI (a - 1) := pk_sub (b := 1) h

theorem cc_vb (b : Bool) : vp_nar .boolean (cc_bI b) = cc_bI b := by cases b <;> decide
theorem cc_vb0 : vp_nar .boolean 0 = 0 := by decide
theorem cc_vb1 : vp_nar .boolean 1 = 1 := by decide

def cc_kI (x : Int32) : Nat :=
  if (1 ≤ x.toInt ∧ x.toInt ≤ 2) ∨ (10 ≤ x.toInt ∧ x.toInt ≤ 25) ∨ (30 ≤ x.toInt ∧ x.toInt ≤ 37) ∨ (39 ≤ x.toInt ∧ x.toInt ≤ 56) ∨ (60 ≤ x.toInt ∧ x.toInt ≤ 68) then 1
  else if (100 ≤ x.toInt ∧ x.toInt ≤ 115) ∨ (120 ≤ x.toInt ∧ x.toInt ≤ 128) ∨ (130 ≤ x.toInt ∧ x.toInt ≤ 157) ∨ (210 ≤ x.toInt ∧ x.toInt ≤ 290) then 2 else 0

theorem cc_xko {post : Int32 → Prop} {x : Int32} (h : ∀ k, cc_kI x = k → post (nI k)) : wpX_kindOf post x := by
  unfold wpX_kindOf wX_kindOf_22 wX_kindOf_34 wX_kindOf_46 wX_kindOf_62 wX_kindOf_58 wX_kindOf_63 wX_kindOf_76 wX_kindOf_89 wX_kindOf_103 wX_kindOf_117 wX_kindOf_121 wX_kindOf_122
  simp only [Int32.lt_iff_toInt_lt, Int32.le_iff_toInt_le, ← Int32.toInt_inj, Int32.reduceToInt, Int.reduceEq, true_implies, false_implies, not_true_eq_false, not_false_eq_true, and_true, true_and]
  have h0 : cc_kI x = 0 → post 0 := h 0
  have h1 : cc_kI x = 1 → post 1 := h 1
  have h2 : cc_kI x = 2 → post 2 := h 2
  repeat' (first | refine And.intro ?_ ?_ | intro _)
  all_goals first | (exfalso; omega) | (refine h0 ?_; unfold cc_kI; (repeat' split); all_goals omega) | (refine h1 ?_; unfold cc_kI; (repeat' split); all_goals omega) | (refine h2 ?_; unfold cc_kI; (repeat' split); all_goals omega)

theorem cc_kI_va {x : Int32} (h : cc_kI x ≠ 0) : ∃ t, t < 291 ∧ x = nI t ∧ (cc_kI x = 1 → cc_st t = true) ∧ (cc_kI x = 2 → cc_ex t = true) := by
  have hx : 1 ≤ x.toInt ∧ x.toInt ≤ 290 := by
    unfold cc_kI at h
    split at h
    · omega
    · split at h
      · omega
      · omega
  refine ⟨x.toInt.toNat, by omega, ?_, fun h1 => ?_, fun h2 => ?_⟩
  · apply Int32.toInt_inj.mp
    rw [cc_tI (by omega)]
    omega
  · unfold cc_kI at h1
    unfold cc_st
    simp only [decide_eq_true_eq]
    split at h1
    · omega
    · split at h1 <;> omega
  · unfold cc_kI at h2
    unfold cc_ex
    simp only [decide_eq_true_eq]
    split at h2
    · omega
    · split at h2 <;> omega

theorem cc_pk {t : Nat} (h : cc_va t) {i : Nat} (hi : i < cc_ar t) : (t = 37 → cc_ts t i = decide (i = 0)) ∧ (t ≠ 37 → cc_ts t i = decide (cc_ep t ≤ i)) := by
  have hv := cc_va_iff h
  have h4 := cc_epsp h
  constructor
  · intro e; subst e; rfl
  · intro hne
    unfold cc_ts
    repeat' split
    · rename_i e; subst e; simp [cc_ep]
    · rename_i e1 e2
      rcases e2 with e | e | e <;> subst e <;> simp [cc_ep] <;> omega
    · rename_i e1 e2
      have g : cc_ar t = cc_ep t + cc_sp t := h4.symm
      by_cases h5 : 40 ≤ t ∧ t ≤ 55
      · have e4 : cc_ep t = 2 := by
          unfold cc_ep
          repeat' split
          all_goals omega
        have e5 : cc_ar t = 3 := by
          unfold cc_ar
          repeat' split
          all_goals omega
        rw [e4]
        by_cases h6 : i = 2
        · subst h6; simp [h5.1, h5.2]
        · have : ¬ 2 ≤ i := by omega
          simp [h6, this]
      · have e4 : cc_sp t = 0 := by
          unfold cc_sp
          repeat' split
          all_goals omega
        have : ¬ cc_ep t ≤ i := by omega
        have h7 : ¬ (40 ≤ t ∧ t ≤ 55 ∧ i = 2) := by omega
        simp [this, h7]

theorem cc_xpk {post : Int32 → Prop} {t i : Nat} (hv : cc_va t) (hi : i < cc_ar t) (h : post (if cc_ts t i = true then 1 else 2)) : wpX_partKind post (nI t) (nI i) := by
  have ht := cc_va_lt hv
  have h4 := cc_ar_le t
  obtain ⟨p1, p2⟩ := cc_pk hv hi
  refine pk_eq t 37 (fun e => ?_) (fun e => ?_)
  · rw [p1 e] at h
    refine pk_eq i 0 (fun z => ?_) (fun z => ?_)
    · simpa [z] using h
    · simpa [z] using h
  · rw [p2 e] at h
    refine cc_xep (by omega) (fun k hk => ?_)
    subst hk
    have h5 := cc_epsp hv
    refine pk_le (cc_ep t) i (fun z => ?_) (fun z => ?_)
    · simpa [z] using h
    · have : ¬ cc_ep t ≤ i := by omega
      simpa [this] using h

section
variable {f_time f_active f_running f_open f_depth f_tasks f_begun : Int32} {a_variables a_cells a_inputs a_outputs a_timerOn a_timerBegin a_timerElapsed a_timerDone a_counterLast a_counterValue a_counterDone a_edgeLast a_edgeDone a_sizes a_tokens a_ends a_wants a_numbers a_taskKind a_taskAt a_taskRounds a_taskLimit : Nat → Int32}
theorem cc_yin {post : Int32 → Prop} {x l m : Int32} (h : post (if l ≤ x ∧ x ≤ m then 1 else 0)) : wpY_in post (f_time, f_active, f_running, f_open, f_depth, f_tasks, f_begun, a_variables, a_cells, a_inputs, a_outputs, a_timerOn, a_timerBegin, a_timerElapsed, a_timerDone, a_counterLast, a_counterValue, a_counterDone, a_edgeLast, a_edgeDone, a_sizes, a_tokens, a_ends, a_wants, a_numbers, a_taskKind, a_taskAt, a_taskRounds, a_taskLimit) x l m := by
  refine br_c (fun h1 => ?_) (fun h1 => br_c (fun h2 => ?_) (fun h2 => ?_))
  · rw [if_neg (fun z => absurd z.1 (Int32.not_le.mpr h1))] at h; exact h
  · rw [if_neg (fun z => absurd z.2 (Int32.not_le.mpr h2))] at h; exact h
  · rw [if_pos ⟨Int32.not_lt.mp h1, Int32.not_lt.mp h2⟩] at h; exact h

theorem cc_yar {post : Int32 → Prop} {t : Nat} (ht : t < 2147483648) (h : ∀ k, cc_ar t = k → post (nI k)) : wpY_partsOf post (f_time, f_active, f_running, f_open, f_depth, f_tasks, f_begun, a_variables, a_cells, a_inputs, a_outputs, a_timerOn, a_timerBegin, a_timerElapsed, a_timerDone, a_counterLast, a_counterValue, a_counterDone, a_edgeLast, a_edgeDone, a_sizes, a_tokens, a_ends, a_wants, a_numbers, a_taskKind, a_taskAt, a_taskRounds, a_taskLimit) (nI t) := by
  have hT := cc_tI ht
  have h0 : cc_ar t = 0 → post 0 := h 0
  have h1 : cc_ar t = 1 → post 1 := h 1
  have h2 : cc_ar t = 2 → post 2 := h 2
  have h3 : cc_ar t = 3 → post 3 := h 3
  have h4 : cc_ar t = 4 → post 4 := h 4
  unfold wpY_partsOf wpY_in
  simp only [Int32.lt_iff_toInt_lt, Int32.le_iff_toInt_le, ← Int32.toInt_inj, hT, Int32.reduceToInt, Int.reduceEq, true_implies, false_implies, not_true_eq_false, not_false_eq_true, and_true, true_and]
  repeat' (first | refine And.intro ?_ ?_ | intro _)
  all_goals first | (exfalso; omega) | (refine h0 ?_; unfold cc_ar; (repeat' split); all_goals omega) | (refine h1 ?_; unfold cc_ar; (repeat' split); all_goals omega) | (refine h2 ?_; unfold cc_ar; (repeat' split); all_goals omega) | (refine h3 ?_; unfold cc_ar; (repeat' split); all_goals omega) | (refine h4 ?_; unfold cc_ar; (repeat' split); all_goals omega)

theorem cc_yts {post : Int32 → Prop} {t i : Nat} (ht : t < 2147483648) (hi : i < 2147483648) (h : post (cc_bI (cc_ts t i))) : wpY_takesStatement post (f_time, f_active, f_running, f_open, f_depth, f_tasks, f_begun, a_variables, a_cells, a_inputs, a_outputs, a_timerOn, a_timerBegin, a_timerElapsed, a_timerDone, a_counterLast, a_counterValue, a_counterDone, a_edgeLast, a_edgeDone, a_sizes, a_tokens, a_ends, a_wants, a_numbers, a_taskKind, a_taskAt, a_taskRounds, a_taskLimit) (nI t) (nI i) := by
  have hT := cc_tI ht
  have hI := cc_tI hi
  have h0 : cc_ts t i = false → post 0 := fun e => by rw [e] at h; exact h
  have h1 : cc_ts t i = true → post 1 := fun e => by rw [e] at h; exact h
  unfold wpY_takesStatement wY_takesStatement_25 wpY_in
  simp only [Int32.lt_iff_toInt_lt, Int32.le_iff_toInt_le, ← Int32.toInt_inj, hT, hI, Int32.reduceToInt, Int.reduceEq, true_implies, false_implies, not_true_eq_false, not_false_eq_true, and_true, true_and]
  clear h
  repeat' (first | refine And.intro ?_ ?_ | intro _)
  all_goals first | (exfalso; omega) | (refine h0 ?_; unfold cc_ts; (repeat' split); all_goals (first | omega | (simp only [decide_eq_false_iff_not]; omega))) | (refine h1 ?_; unfold cc_ts; (repeat' split); all_goals (first | rfl | omega | (simp only [decide_eq_true_eq]; omega)))

theorem cc_yst {post : Int32 → Prop} {x : Int32} (h : post (if cc_kI x = 1 then 1 else 0)) : wpY_isStatement post (f_time, f_active, f_running, f_open, f_depth, f_tasks, f_begun, a_variables, a_cells, a_inputs, a_outputs, a_timerOn, a_timerBegin, a_timerElapsed, a_timerDone, a_counterLast, a_counterValue, a_counterDone, a_edgeLast, a_edgeDone, a_sizes, a_tokens, a_ends, a_wants, a_numbers, a_taskKind, a_taskAt, a_taskRounds, a_taskLimit) x := by
  have h0 : cc_kI x ≠ 1 → post 0 := fun e => by rw [if_neg e] at h; exact h
  have h1 : cc_kI x = 1 → post 1 := fun e => by rw [if_pos e] at h; exact h
  unfold wpY_isStatement wpY_in
  simp only [Int32.lt_iff_toInt_lt, Int32.le_iff_toInt_le, ← Int32.toInt_inj, Int32.reduceToInt, Int.reduceEq, true_implies, false_implies, not_true_eq_false, not_false_eq_true, and_true, true_and]
  clear h
  repeat' (first | refine And.intro ?_ ?_ | intro _)
  all_goals first | (exfalso; omega) | (refine h0 ?_; unfold cc_kI; (repeat' split); all_goals omega) | (refine h1 ?_; unfold cc_kI; (repeat' split); all_goals omega)

theorem cc_yex {post : Int32 → Prop} {x : Int32} (h : post (if cc_kI x = 2 then 1 else 0)) : wpY_isExpression post (f_time, f_active, f_running, f_open, f_depth, f_tasks, f_begun, a_variables, a_cells, a_inputs, a_outputs, a_timerOn, a_timerBegin, a_timerElapsed, a_timerDone, a_counterLast, a_counterValue, a_counterDone, a_edgeLast, a_edgeDone, a_sizes, a_tokens, a_ends, a_wants, a_numbers, a_taskKind, a_taskAt, a_taskRounds, a_taskLimit) x := by
  have h0 : cc_kI x ≠ 2 → post 0 := fun e => by rw [if_neg e] at h; exact h
  have h1 : cc_kI x = 2 → post 1 := fun e => by rw [if_pos e] at h; exact h
  unfold wpY_isExpression wpY_in
  simp only [Int32.lt_iff_toInt_lt, Int32.le_iff_toInt_le, ← Int32.toInt_inj, Int32.reduceToInt, Int.reduceEq, true_implies, false_implies, not_true_eq_false, not_false_eq_true, and_true, true_and]
  clear h
  repeat' (first | refine And.intro ?_ ?_ | intro _)
  all_goals first | (exfalso; omega) | (refine h0 ?_; unfold cc_kI; (repeat' split); all_goals omega) | (refine h1 ?_; unfold cc_kI; (repeat' split); all_goals omega)
end
end
section
section
variable {f_time f_active f_running f_pending f_roundsBegun : Int32} {a_variables a_row a_inputs a_outputs a_timerOn a_timerBegin a_timerElapsed a_timerDone a_counterLast a_counterValue a_counterDone a_edgeLast a_edgeDone a_tokens a_lengths a_ends a_worths a_pendingPlaces a_pendingRounds a_pendingLimits : Nat → Int32}
theorem cc_nk_cons (b : Bool) (l : List Bool) : nI (cc_nk (b :: l)) = if b = true then 1 else 2 := by
  cases b <;> rfl

theorem cc_xnl {post : Int32 → Prop} {T : Nat → Nat} {n p : Nat} (hp : p < 2) (hn : n ≤ 60) (ho : cc_ok T n)
    (htok : ∀ i, i < n → a_tokens (p * 61 + i) = nI (T i)) (h : post (nI (cc_nk (cc_sk T n)))) :
    ∀ i w, i + w ≤ n → cc_sk T n = (cc_sk T i).drop w → wX_neededKind_11 post (nI p) f_time f_active f_running f_pending f_roundsBegun a_variables a_row a_inputs a_outputs a_timerOn a_timerBegin a_timerElapsed a_timerDone a_counterLast a_counterValue a_counterDone a_edgeLast a_edgeDone a_tokens a_lengths a_ends a_worths a_pendingPlaces a_pendingRounds a_pendingLimits (i + 1) (nI w) (nI i + (-1)) := by
  intro i
  induction i with
  | zero =>
    intro w hw e
    refine br_t (by decide) ?_
    rw [e] at h
    refine pk_eq w 0 (fun z => ?_) (fun z => ?_)
    · subst z; exact h
    · have e2 : ([true] : List Bool).drop w = [] := by
        cases w with
        | zero => exact absurd rfl z
        | succ w => simp
      have h2 : post (nI (cc_nk (([true] : List Bool).drop w))) := h
      rw [e2] at h2
      exact h2
  | succ i ih =>
    intro w hw e
    rw [pk_m1]
    have hva : cc_va (T i) := (ho i (by omega)).2
    have hs := cc_hs (cc_hpos ho (show i < n by omega))
    refine br_f (cc_nlt i 0 (by omega)) ?_
    rw [cc_a61]
    refine ⟨vp_in_nI (by omega) (by omega), ?_⟩
    refine nm_r (e' := nI (T i)) (by rw [nI_clamp (by omega)]; exact htok i (by omega)) ?_
    have ht := cc_va_lt hva
    have h5 := cc_epsp hva
    have h6 := cc_ar_le (T i)
    refine cc_xep (by omega) (fun a ha => ?_)
    refine cc_xsp (by omega) (fun b hb => ?_)
    refine nm_r (e' := nI (cc_ar (T i))) (by rw [nI_add, ← h5, ha, hb]) ?_
    refine pk_le (cc_ar (T i)) w (fun z => ?_) (fun z => ?_)
    · refine nm_r (e' := nI (w - cc_ar (T i) + 1)) (by rw [pk_sub z, nI_1]) ?_
      refine nm_e ?_
      refine ih _ (by omega) ?_
      rw [e]
      simp only [cc_sk]
      rw [show w = (cc_ps (T i)).length + (w - cc_ar (T i)) by rw [cc_ps_len]; omega, cc_drop_app, cc_drop_tail]
      rw [cc_ps_len, show cc_ar (T i) + (w - cc_ar (T i)) - cc_ar (T i) = w - cc_ar (T i) by omega]
    · refine cc_xpk hva z ?_
      show post _
      have e2 : (cc_sk T n).head? = some (cc_ts (T i) w) := by
        rw [e, List.head?_drop]
        simp only [cc_sk]
        exact cc_ps_get _ z
      cases hl : cc_sk T n with
      | nil => rw [hl] at e2; simp at e2
      | cons b l =>
        rw [hl] at e2 h
        simp only [List.head?_cons, Option.some.injEq] at e2
        rw [cc_nk_cons, e2] at h
        exact h

theorem cc_xnk {post : Int32 → Prop} {T : Nat → Nat} {n p : Nat} (hp : p < 2) (hn : n ≤ 60) (ho : cc_ok T n) (hl : a_lengths p = nI n)
    (htok : ∀ i, i < n → a_tokens (p * 61 + i) = nI (T i)) (h : post (nI (cc_nk (cc_sk T n)))) : wpX_neededKind post (f_time, f_active, f_running, f_pending, f_roundsBegun, a_variables, a_row, a_inputs, a_outputs, a_timerOn, a_timerBegin, a_timerElapsed, a_timerDone, a_counterLast, a_counterValue, a_counterDone, a_edgeLast, a_edgeDone, a_tokens, a_lengths, a_ends, a_worths, a_pendingPlaces, a_pendingRounds, a_pendingLimits) (nI p) := by
  refine ⟨vp_in_nI hp (by omega), ?_⟩
  refine nm_r (e' := nI n + (-1)) (by rw [nI_clamp (by omega), hl, cc_sm1]) ?_
  exact ⟨n + 1, cc_xnl hp hn ho htok h n 0 (by omega) (by simp)⟩
end

section
variable {f_time f_active f_running f_open f_depth f_tasks f_begun : Int32} {a_variables a_cells a_inputs a_outputs a_timerOn a_timerBegin a_timerElapsed a_timerDone a_counterLast a_counterValue a_counterDone a_edgeLast a_edgeDone a_sizes a_tokens a_ends a_wants a_numbers a_taskKind a_taskAt a_taskRounds a_taskLimit : Nat → Int32}
theorem cc_ysi {post : SY → Prop} {J : Int32 → Int32 → (Nat → Int32) → (Nat → Int32) → (Nat → Int32) → (Nat → Int32) → (Nat → Int32) → (Nat → Int32) → (Nat → Int32) → (Nat → Int32) → (Nat → Int32) → (Nat → Int32) → (Nat → Int32) → (Nat → Int32) → (Nat → Int32) → (Nat → Int32) → (Nat → Int32) → (Nat → Int32) → (Nat → Int32) → (Nat → Int32) → (Nat → Int32) → (Nat → Int32) → (Nat → Int32) → (Nat → Int32) → Prop} {x1 : Int32} {t q m : Nat} {tl : List Bool} (hq : q < 120) (ht : t < 291) (htok : a_tokens q = nI t)
    (hm : cc_ar t + tl.length ≤ 250)
    (hJ : ∀ w, cc_sr w (cc_ps t ++ tl) → J (nI (q + 1)) (nI (cc_ar t + tl.length)) a_variables a_cells a_inputs a_outputs a_timerOn a_timerBegin a_timerElapsed a_timerDone a_counterLast a_counterValue a_counterDone a_edgeLast a_edgeDone a_sizes a_tokens a_ends w a_numbers a_taskKind a_taskAt a_taskRounds a_taskLimit) :
    ∀ i w, i ≤ cc_ar t → cc_sr w ((cc_ps t).drop i ++ tl) →
      wY_scan_55 post J x1 (nI q) f_time f_active f_running f_depth f_tasks f_begun (i + 1) (nI i + (-1)) (nI (cc_ar t - i + tl.length)) a_variables a_cells a_inputs a_outputs a_timerOn a_timerBegin a_timerElapsed a_timerDone a_counterLast a_counterValue a_counterDone a_edgeLast a_edgeDone a_sizes a_tokens a_ends w a_numbers a_taskKind a_taskAt a_taskRounds a_taskLimit := by
  intro i
  induction i with
  | zero =>
    intro w hi hw
    refine br_t (by decide) ?_
    refine nm_r (e' := nI (q + 1)) (nI_1 q) ?_
    exact hJ w hw
  | succ i ih =>
    intro w hi hw
    rw [pk_m1]
    refine br_f (cc_nlt i 0 (by omega)) ?_
    refine ⟨vp_in_nI hq (by omega), ?_⟩
    rw [nI_clamp (show q < 2 ^ 31 by omega), htok]
    refine cc_yts (by omega) (by omega) ?_
    have hlen : ((cc_ps t).drop (i + 1) ++ tl).length = cc_ar t - (i + 1) + tl.length := by
      rw [List.length_append, List.length_drop, cc_ps_len]
    refine ⟨vp_in_nI (by omega) (by omega), ?_⟩
    refine nm_r (e' := upd w ((cc_ps t).drop (i + 1) ++ tl).length (cc_bI (cc_ts t i))) (by rw [nI_clamp (by omega), cc_vb, hlen]) ?_
    refine nm_r (e' := nI (cc_ar t - i + tl.length)) (by rw [nI_1]; congr 1; omega) ?_
    refine nm_e ?_
    refine ih _ (by omega) ?_
    have e : (cc_ps t).drop i ++ tl = cc_ts t i :: ((cc_ps t).drop (i + 1) ++ tl) := by
      rw [List.drop_eq_getElem_cons (by rw [cc_ps_len]; omega)]
      simp [cc_ps]
    rw [e]
    exact ⟨cc_u_s _ _ _, cc_sr_upd (Nat.le_refl _) hw⟩

theorem cc_ysl {post : SY → Prop} {T : Nat → Nat} {n p : Nat} (hp : p < 2) (hn : n ≤ 60) (ho : cc_ok T n) (hl : a_sizes p = nI n)
    (htok : ∀ i, i < n → a_tokens (60 * p + i) = nI (T i)) (h : ∀ w, cc_sr w (cc_sk T n) → post (f_time, f_active, f_running, nI (cc_h T n), f_depth, f_tasks, f_begun, a_variables, a_cells, a_inputs, a_outputs, a_timerOn, a_timerBegin, a_timerElapsed, a_timerDone, a_counterLast, a_counterValue, a_counterDone, a_edgeLast, a_edgeDone, a_sizes, a_tokens, a_ends, w, a_numbers, a_taskKind, a_taskAt, a_taskRounds, a_taskLimit)) :
    ∀ d k w, k + d = n → cc_sr w (cc_sk T k) →
      wY_scan_17 post (nI p) f_time f_active f_running f_depth f_tasks f_begun (d + 1) (nI (60 * p + k)) (nI (cc_h T k)) a_variables a_cells a_inputs a_outputs a_timerOn a_timerBegin a_timerElapsed a_timerDone a_counterLast a_counterValue a_counterDone a_edgeLast a_edgeDone a_sizes a_tokens a_ends w a_numbers a_taskKind a_taskAt a_taskRounds a_taskLimit := by
  intro d
  induction d with
  | zero =>
    intro k w hk hw
    have e : k = n := by omega
    subst e
    refine ⟨vp_in_nI hp (by omega), ?_⟩
    rw [nI_clamp (by omega), hl, cc_a60]
    exact br_t (cc_le (60 * p + k) (60 * p + k) (by omega)) (h w hw)
  | succ d ih =>
    intro k w hk hw
    refine ⟨vp_in_nI hp (by omega), ?_⟩
    rw [nI_clamp (by omega), hl, cc_a60]
    refine br_f (cc_nle (60 * p + n) (60 * p + k) (by omega)) ?_
    have hva : cc_va (T k) := (ho k (by omega)).2
    have ht := cc_va_lt hva
    have hpos := cc_hpos ho (show k < n by omega)
    have hs := cc_hs hpos
    have hle := cc_h_le T k
    have h6 := cc_ar_le (T k)
    refine nm_r (e' := nI (cc_h T k - 1)) (cc_s1 hpos) ?_
    refine ⟨vp_in_nI (by omega) (by omega), ?_⟩
    rw [nI_clamp (by omega), htok k (by omega)]
    refine cc_yar (by omega) (fun a ha => ?_)
    refine nm_r (e' := nI a + (-1)) (cc_sm1 _) ?_
    refine ⟨a + 1, ?_⟩
    subst ha
    have htl : (cc_sk T k).tail.length = cc_h T k - 1 := by rw [List.length_tail]; rfl
    have g := cc_ysi (post := post) (J := wY_scan_17 post (nI p) f_time f_active f_running f_depth f_tasks f_begun (d + 1)) (x1 := nI p) (t := T k) (q := 60 * p + k) (m := 0) (tl := (cc_sk T k).tail)
      (f_time := f_time) (f_active := f_active) (f_running := f_running) (f_depth := f_depth) (f_tasks := f_tasks) (f_begun := f_begun)
      (a_variables := a_variables) (a_cells := a_cells) (a_inputs := a_inputs) (a_outputs := a_outputs) (a_timerOn := a_timerOn) (a_timerBegin := a_timerBegin) (a_timerElapsed := a_timerElapsed) (a_timerDone := a_timerDone) (a_counterLast := a_counterLast) (a_counterValue := a_counterValue) (a_counterDone := a_counterDone) (a_edgeLast := a_edgeLast) (a_edgeDone := a_edgeDone) (a_sizes := a_sizes) (a_tokens := a_tokens) (a_ends := a_ends) (a_numbers := a_numbers) (a_taskKind := a_taskKind) (a_taskAt := a_taskAt) (a_taskRounds := a_taskRounds) (a_taskLimit := a_taskLimit)
      (by omega) ht (htok k (by omega)) (by omega) (fun w' hw' => by
        rw [htl, show cc_ar (T k) + (cc_h T k - 1) = cc_h T (k + 1) by omega]
        exact ih (k + 1) w' (by omega) hw') (cc_ar (T k)) w (Nat.le_refl _) (by
        rw [List.drop_of_length_le (by rw [cc_ps_len]; exact Nat.le_refl _)]
        exact cc_sr_tail hw)
    rw [htl, show cc_ar (T k) - cc_ar (T k) + (cc_h T k - 1) = cc_h T k - 1 by omega] at g
    exact g

theorem cc_ysc {post : SY → Prop} {T : Nat → Nat} {n p : Nat} (hp : p < 2) (hn : n ≤ 60) (ho : cc_ok T n) (hl : a_sizes p = nI n)
    (htok : ∀ i, i < n → a_tokens (60 * p + i) = nI (T i)) (h : ∀ w, cc_sr w (cc_sk T n) → post (f_time, f_active, f_running, nI (cc_h T n), f_depth, f_tasks, f_begun, a_variables, a_cells, a_inputs, a_outputs, a_timerOn, a_timerBegin, a_timerElapsed, a_timerDone, a_counterLast, a_counterValue, a_counterDone, a_edgeLast, a_edgeDone, a_sizes, a_tokens, a_ends, w, a_numbers, a_taskKind, a_taskAt, a_taskRounds, a_taskLimit)) :
    wpY_scan post (f_time, f_active, f_running, f_open, f_depth, f_tasks, f_begun, a_variables, a_cells, a_inputs, a_outputs, a_timerOn, a_timerBegin, a_timerElapsed, a_timerDone, a_counterLast, a_counterValue, a_counterDone, a_edgeLast, a_edgeDone, a_sizes, a_tokens, a_ends, a_wants, a_numbers, a_taskKind, a_taskAt, a_taskRounds, a_taskLimit) (nI p) := by
  refine nm_e ?_
  refine nm_r (e' := nI (60 * p + 0)) (cc_b60 p) ?_
  exact ⟨n + 1, cc_ysl hp hn ho hl htok h n 0 _ (by omega) ⟨(cc_u_s a_wants 0 _).trans cc_vb1, trivial⟩⟩
end
end
section
def cc_eb (e : Nat → Int32) : Prop := ∀ j, j < 61 → ∃ k, k ≤ 60 ∧ e j = nI k

theorem cc_eb_upd {e : Nat → Int32} {i k : Nat} (h : cc_eb e) (hk : k ≤ 60) : cc_eb (upd e i (nI k)) := by
  intro j hj
  by_cases z : j = i
  · rw [z, cc_u_s]; exact ⟨k, hk, rfl⟩
  · rw [cc_u_n z]; exact h j hj

theorem cc_pm {q : Nat} (h : q < 1000) : nI q + (-1) < nI q := by
  cases q with
  | zero => decide
  | succ q => rw [pk_m1]; exact nI_lt (by omega) (by omega)

section
variable {f_time f_active f_running f_pending f_roundsBegun : Int32} {a_variables a_row a_inputs a_outputs a_timerOn a_timerBegin a_timerElapsed a_timerDone a_counterLast a_counterValue a_counterDone a_edgeLast a_edgeDone a_tokens a_lengths a_ends a_worths a_pendingPlaces a_pendingRounds a_pendingLimits : Nat → Int32}
theorem cc_xat {post : Int32 → Prop} {T : Nat → Nat} {n a i : Nat} (ha : a < 2) (hn : n ≤ 60) (hi : i < n)
    (htok : ∀ i, i < n → a_tokens (a * 61 + i) = nI (T i)) (h : post (nI (T i))) : wpX_activeToken post (f_time, nI a, f_running, f_pending, f_roundsBegun, a_variables, a_row, a_inputs, a_outputs, a_timerOn, a_timerBegin, a_timerElapsed, a_timerDone, a_counterLast, a_counterValue, a_counterDone, a_edgeLast, a_edgeDone, a_tokens, a_lengths, a_ends, a_worths, a_pendingPlaces, a_pendingRounds, a_pendingLimits) (nI i) := by
  unfold wpX_activeToken
  dsimp only
  rw [cc_a61]
  refine ⟨vp_in_nI (by omega) (by omega), ?_⟩
  rw [nI_clamp (by omega), htok i hi]
  exact h

theorem cc_xfi {post : SX → Prop} {J : Int32 → (Nat → Int32) → (Nat → Int32) → (Nat → Int32) → (Nat → Int32) → (Nat → Int32) → (Nat → Int32) → (Nat → Int32) → (Nat → Int32) → (Nat → Int32) → (Nat → Int32) → (Nat → Int32) → (Nat → Int32) → (Nat → Int32) → (Nat → Int32) → (Nat → Int32) → (Nat → Int32) → (Nat → Int32) → (Nat → Int32) → (Nat → Int32) → (Nat → Int32) → Prop} {T : Nat → Nat} {n i : Nat} (w : cc_wh T n) (hi : i < n)
    (he : ∀ j, i < j → j < n → a_ends j = nI (cc_en T j))
    (hJ : J (nI i + (-1)) a_variables a_row a_inputs a_outputs a_timerOn a_timerBegin a_timerElapsed a_timerDone a_counterLast a_counterValue a_counterDone a_edgeLast a_edgeDone a_tokens a_lengths (upd a_ends i (nI (cc_en T i))) a_worths a_pendingPlaces a_pendingRounds a_pendingLimits) :
    ∀ d k, k + d = cc_ar (T i) → wX_findEnds_40 post J (nI i) (nI (cc_ar (T i))) f_time f_active f_running f_pending f_roundsBegun a_variables a_row a_inputs a_outputs a_timerOn a_timerBegin a_timerElapsed a_timerDone a_counterLast a_counterValue a_counterDone a_edgeLast a_edgeDone a_tokens a_lengths a_ends a_worths a_pendingPlaces a_pendingRounds a_pendingLimits (d + 1) (nI (cc_nx T k (i + 1))) (nI k) := by
  have h4 := cc_ar_le (T i)
  have hn := w.2.2
  intro d
  induction d with
  | zero =>
    intro k hk
    have e : k = cc_ar (T i) := by omega
    subst e
    refine br_t (cc_le (cc_ar (T i)) (cc_ar (T i)) (by omega)) ?_
    refine ⟨vp_in_nI (by omega) (by omega), ?_⟩
    refine nm_r (e' := upd a_ends i (nI (cc_en T i))) (by rw [nI_clamp (by omega), cc_nx_en w hi]) ?_
    exact nm_e hJ
  | succ d ih =>
    intro k hk
    obtain ⟨c1, c2, c3, c4⟩ := cc_ch w hi (show k < cc_ar (T i) by omega)
    refine br_f (cc_nle (cc_ar (T i)) k (by omega)) ?_
    refine ⟨vp_in_nI (by omega) (by omega), ?_⟩
    refine nm_r (e' := nI (cc_nx T (k + 1) (i + 1))) (by rw [nI_clamp (by omega), he _ c1 c2]; rfl) ?_
    refine nm_r (e' := nI (k + 1)) (nI_1 k) ?_
    exact ih (k + 1) (by omega)

theorem cc_xfl {post : SX → Prop} {T : Nat → Nat} {n a : Nat} (w : cc_wh T n) (ha : a < 2)
    (htok : ∀ i, i < n → a_tokens (a * 61 + i) = nI (T i))
    (h : ∀ e, cc_eb e → (∀ i, i < n → e i = nI (cc_en T i)) → post (f_time, nI a, f_running, f_pending, f_roundsBegun, a_variables, a_row, a_inputs, a_outputs, a_timerOn, a_timerBegin, a_timerElapsed, a_timerDone, a_counterLast, a_counterValue, a_counterDone, a_edgeLast, a_edgeDone, a_tokens, a_lengths, e, a_worths, a_pendingPlaces, a_pendingRounds, a_pendingLimits)) :
    ∀ i e, i ≤ n → cc_eb e → (∀ j, i ≤ j → j < n → e j = nI (cc_en T j)) → wX_findEnds_12 post f_time (nI a) f_running f_pending f_roundsBegun (i + 1) (nI i + (-1)) a_variables a_row a_inputs a_outputs a_timerOn a_timerBegin a_timerElapsed a_timerDone a_counterLast a_counterValue a_counterDone a_edgeLast a_edgeDone a_tokens a_lengths e a_worths a_pendingPlaces a_pendingRounds a_pendingLimits := by
  have hn := w.2.2
  intro i
  induction i with
  | zero =>
    intro e _ hb he
    exact br_t (by decide) (h e hb (fun i hi => he i (by omega) hi))
  | succ i ih =>
    intro e hi hb he
    rw [pk_m1]
    refine br_f (cc_nlt i 0 (by omega)) ?_
    have hva : cc_va (T i) := (w.1 i (by omega)).2
    have ht := cc_va_lt hva
    have h5 := cc_epsp hva
    refine cc_xat (T := T) (n := n) ha hn (by omega) htok ?_
    refine cc_xep (by omega) (fun x hx => ?_)
    refine cc_xsp (by omega) (fun y hy => ?_)
    refine nm_r (e' := nI (cc_ar (T i))) (by rw [nI_add, ← h5, hx, hy]) ?_
    refine nm_r (e' := nI (i + 1)) (nI_1 i) ?_
    refine ⟨cc_ar (T i) + 1, ?_⟩
    refine cc_xfi w (by omega) (fun j h1 h2 => he j (by omega) h2) ?_ (cc_ar (T i)) 0 (by omega)
    have hle := cc_en_le w (show i < n by omega)
    refine ih _ (by omega) (cc_eb_upd hb (by omega)) (fun j h1 h2 => ?_)
    by_cases z : j = i
    · rw [z, cc_u_s]
    · rw [cc_u_n z]; exact he j (by omega) h2

theorem cc_xfe {post : SX → Prop} {T : Nat → Nat} {n a : Nat} (w : cc_wh T n) (ha : a < 2) (hl : a_lengths a = nI n)
    (htok : ∀ i, i < n → a_tokens (a * 61 + i) = nI (T i)) (hb : cc_eb a_ends)
    (h : ∀ e, cc_eb e → (∀ i, i < n → e i = nI (cc_en T i)) → post (f_time, nI a, f_running, f_pending, f_roundsBegun, a_variables, a_row, a_inputs, a_outputs, a_timerOn, a_timerBegin, a_timerElapsed, a_timerDone, a_counterLast, a_counterValue, a_counterDone, a_edgeLast, a_edgeDone, a_tokens, a_lengths, e, a_worths, a_pendingPlaces, a_pendingRounds, a_pendingLimits)) : wpX_findEnds post (f_time, nI a, f_running, f_pending, f_roundsBegun, a_variables, a_row, a_inputs, a_outputs, a_timerOn, a_timerBegin, a_timerElapsed, a_timerDone, a_counterLast, a_counterValue, a_counterDone, a_edgeLast, a_edgeDone, a_tokens, a_lengths, a_ends, a_worths, a_pendingPlaces, a_pendingRounds, a_pendingLimits) := by
  have hn := w.2.2
  unfold wpX_findEnds
  dsimp only
  refine ⟨vp_in_nI ha (by omega), ?_⟩
  refine nm_r (e' := nI n + (-1)) (by rw [nI_clamp (by omega), hl, cc_sm1]) ?_
  exact ⟨n + 1, cc_xfl w ha htok h n a_ends (Nat.le_refl _) hb (fun j h1 h2 => by omega)⟩
end

section
variable {f_time f_active f_running f_open f_depth f_tasks f_begun : Int32} {a_variables a_cells a_inputs a_outputs a_timerOn a_timerBegin a_timerElapsed a_timerDone a_counterLast a_counterValue a_counterDone a_edgeLast a_edgeDone a_sizes a_tokens a_ends a_wants a_numbers a_taskKind a_taskAt a_taskRounds a_taskLimit : Nat → Int32}
theorem cc_ymi {post : SY → Prop} {J : Int32 → (Nat → Int32) → (Nat → Int32) → (Nat → Int32) → (Nat → Int32) → (Nat → Int32) → (Nat → Int32) → (Nat → Int32) → (Nat → Int32) → (Nat → Int32) → (Nat → Int32) → (Nat → Int32) → (Nat → Int32) → (Nat → Int32) → (Nat → Int32) → (Nat → Int32) → (Nat → Int32) → (Nat → Int32) → (Nat → Int32) → (Nat → Int32) → (Nat → Int32) → (Nat → Int32) → (Nat → Int32) → Prop} {T : Nat → Nat} {n i a : Nat} {x1 : Int32} (w : cc_wh T n) (ha : a < 2) (hi : i < n)
    (htok : a_tokens (60 * a + i) = nI (T i))
    (he : ∀ j, i < j → j < n → a_ends (60 * a + j) = nI (60 * a + cc_en T j))
    (hJ : J (nI (60 * a + i) + (-1)) a_variables a_cells a_inputs a_outputs a_timerOn a_timerBegin a_timerElapsed a_timerDone a_counterLast a_counterValue a_counterDone a_edgeLast a_edgeDone a_sizes a_tokens (upd a_ends (60 * a + i) (nI (60 * a + cc_en T i))) a_wants a_numbers a_taskKind a_taskAt a_taskRounds a_taskLimit) :
    ∀ d k, k + d = cc_ar (T i) → wY_mark_29 post J x1 (nI (60 * a + i)) f_time f_active f_running f_open f_depth f_tasks f_begun a_variables a_cells a_inputs a_outputs a_timerOn a_timerBegin a_timerElapsed a_timerDone a_counterLast a_counterValue a_counterDone a_edgeLast a_edgeDone a_sizes a_tokens a_ends a_wants a_numbers a_taskKind a_taskAt a_taskRounds a_taskLimit (d + 1) (nI (60 * a + cc_nx T k (i + 1))) (nI k) := by
  have h4 := cc_ar_le (T i)
  have hn := w.2.2
  have hva : cc_va (T i) := (w.1 i (by omega)).2
  have ht := cc_va_lt hva
  intro d
  induction d with
  | zero =>
    intro k hk
    have e : k = cc_ar (T i) := by omega
    refine ⟨vp_in_nI (by omega) (by omega), ?_⟩
    rw [nI_clamp (by omega), htok]
    refine cc_yar (by omega) (fun x hx => ?_)
    subst hx
    subst e
    refine br_t (cc_le (cc_ar (T i)) (cc_ar (T i)) (by omega)) ?_
    refine ⟨vp_in_nI (by omega) (by omega), ?_⟩
    refine nm_r (e' := upd a_ends (60 * a + i) (nI (60 * a + cc_en T i))) (by rw [cc_nx_en w hi]) ?_
    exact nm_e hJ
  | succ d ih =>
    intro k hk
    obtain ⟨c1, c2, c3, c4⟩ := cc_ch w hi (show k < cc_ar (T i) by omega)
    refine ⟨vp_in_nI (by omega) (by omega), ?_⟩
    rw [nI_clamp (by omega), htok]
    refine cc_yar (by omega) (fun x hx => ?_)
    subst hx
    refine br_f (cc_nle (cc_ar (T i)) k (by omega)) ?_
    refine ⟨vp_in_nI (by omega) (by omega), ?_⟩
    refine nm_r (e' := nI (60 * a + cc_nx T (k + 1) (i + 1))) (by rw [nI_clamp (by omega), he _ c1 c2]; rfl) ?_
    refine nm_r (e' := nI (k + 1)) (nI_1 k) ?_
    exact ih (k + 1) (by omega)

theorem cc_yml {post : SY → Prop} {T : Nat → Nat} {n a : Nat} (w : cc_wh T n) (ha : a < 2)
    (htok : ∀ i, i < n → a_tokens (60 * a + i) = nI (T i))
    (h : ∀ e, (∀ i, i < n → e (60 * a + i) = nI (60 * a + cc_en T i)) → (∀ j, (j < 60 * a ∨ 60 * a + n ≤ j) → e j = a_ends j) → post (f_time, f_active, f_running, f_open, f_depth, f_tasks, f_begun, a_variables, a_cells, a_inputs, a_outputs, a_timerOn, a_timerBegin, a_timerElapsed, a_timerDone, a_counterLast, a_counterValue, a_counterDone, a_edgeLast, a_edgeDone, a_sizes, a_tokens, e, a_wants, a_numbers, a_taskKind, a_taskAt, a_taskRounds, a_taskLimit)) :
    ∀ i e, i ≤ n → (∀ j, i ≤ j → j < n → e (60 * a + j) = nI (60 * a + cc_en T j)) → (∀ j, (j < 60 * a + i ∨ 60 * a + n ≤ j) → e j = a_ends j) → wY_mark_14 post (nI a) f_time f_active f_running f_open f_depth f_tasks f_begun (i + 1) (nI (60 * a + i) + (-1)) a_variables a_cells a_inputs a_outputs a_timerOn a_timerBegin a_timerElapsed a_timerDone a_counterLast a_counterValue a_counterDone a_edgeLast a_edgeDone a_sizes a_tokens e a_wants a_numbers a_taskKind a_taskAt a_taskRounds a_taskLimit := by
  have hn := w.2.2
  intro i
  induction i with
  | zero =>
    intro e _ he ho
    refine br_t ?_ (h e (fun i hi => he i (by omega) hi) (fun j hj => ho j (by omega)))
    rw [cc_b60]
    exact cc_pm (by omega)
  | succ i ih =>
    intro e hi he ho
    rw [show 60 * a + (i + 1) = (60 * a + i) + 1 from rfl, pk_m1]
    refine br_f (by rw [cc_b60]; exact cc_nlt (60 * a + i) (60 * a) (by omega)) ?_
    refine nm_r (e' := nI (60 * a + (i + 1))) (nI_1 _) ?_
    refine ⟨cc_ar (T i) + 1, ?_⟩
    refine cc_ymi w ha (by omega) (htok i (by omega)) (fun j h1 h2 => he j (by omega) h2) ?_ (cc_ar (T i)) 0 (by omega)
    refine ih _ (by omega) (fun j h1 h2 => ?_) (fun j hj => ?_)
    · by_cases z : j = i
      · rw [z, cc_u_s]
      · rw [cc_u_n (by omega)]; exact he j (by omega) h2
    · rw [cc_u_n (by omega)]; exact ho j (by omega)

def cc_me (T : Nat → Nat) (n a : Nat) (en : Nat → Int32) : Nat → Int32 := fun j => if 60 * a ≤ j ∧ j < 60 * a + n then nI (60 * a + cc_en T (j - 60 * a)) else en j

theorem cc_me_in {T : Nat → Nat} {n a i : Nat} {en : Nat → Int32} (hi : i < n) : cc_me T n a en (60 * a + i) = nI (60 * a + cc_en T i) := by
  unfold cc_me
  rw [if_pos (by omega), show 60 * a + i - 60 * a = i by omega]

theorem cc_yma {post : SY → Prop} {T : Nat → Nat} {n a : Nat} (w : cc_wh T n) (ha : a < 2) (hl : a_sizes a = nI n)
    (htok : ∀ i, i < n → a_tokens (60 * a + i) = nI (T i))
    (h : post (f_time, f_active, f_running, f_open, f_depth, f_tasks, f_begun, a_variables, a_cells, a_inputs, a_outputs, a_timerOn, a_timerBegin, a_timerElapsed, a_timerDone, a_counterLast, a_counterValue, a_counterDone, a_edgeLast, a_edgeDone, a_sizes, a_tokens, cc_me T n a a_ends, a_wants, a_numbers, a_taskKind, a_taskAt, a_taskRounds, a_taskLimit)) : wpY_mark post (f_time, f_active, f_running, f_open, f_depth, f_tasks, f_begun, a_variables, a_cells, a_inputs, a_outputs, a_timerOn, a_timerBegin, a_timerElapsed, a_timerDone, a_counterLast, a_counterValue, a_counterDone, a_edgeLast, a_edgeDone, a_sizes, a_tokens, a_ends, a_wants, a_numbers, a_taskKind, a_taskAt, a_taskRounds, a_taskLimit) (nI a) := by
  have hn := w.2.2
  refine ⟨vp_in_nI ha (by omega), ?_⟩
  refine nm_r (e' := nI (60 * a + n) + (-1)) (by rw [nI_clamp (by omega), hl, cc_a60, cc_sm1]) ?_
  refine ⟨n + 1, cc_yml w ha htok (fun e he ho => ?_) n a_ends (Nat.le_refl _) (fun j h1 h2 => by omega) (fun j _ => rfl)⟩
  have ee : e = cc_me T n a a_ends := by
    funext j
    by_cases z : 60 * a ≤ j ∧ j < 60 * a + n
    · have e1 := he (j - 60 * a) (by omega)
      rw [show 60 * a + (j - 60 * a) = j by omega] at e1
      unfold cc_me
      rw [e1, if_pos z]
    · unfold cc_me
      rw [ho j (by omega), if_neg z]
  rw [ee]
  exact h
end
end
section
theorem cc_ar0 {t : Nat} (h : cc_ar t = 0) : t = 2 ∨ t = 39 ∨ (100 ≤ t ∧ t ≤ 127) ∨ 142 < t := by
  unfold cc_ar at h
  repeat' (split at h)
  all_goals omega

theorem cc_ar0' {t : Nat} (h : t = 2 ∨ t = 39 ∨ (100 ≤ t ∧ t ≤ 127) ∨ 142 < t) : cc_ar t = 0 := by
  unfold cc_ar
  rw [if_pos h]

theorem cc_ex_r {t : Nat} (h : cc_ex t = true) : (100 ≤ t ∧ t ≤ 115) ∨ (120 ≤ t ∧ t ≤ 128) ∨ (130 ≤ t ∧ t ≤ 157) ∨ (210 ≤ t ∧ t ≤ 290) := by
  unfold cc_ex at h
  simpa only [decide_eq_true_eq] using h

theorem cc_st_r {t : Nat} (h : cc_st t = true) : (1 ≤ t ∧ t ≤ 2) ∨ (10 ≤ t ∧ t ≤ 25) ∨ (30 ≤ t ∧ t ≤ 37) ∨ (39 ≤ t ∧ t ≤ 56) ∨ (60 ≤ t ∧ t ≤ 68) := by
  unfold cc_st at h
  simpa only [decide_eq_true_eq] using h

theorem cc_leafs {t : Nat} (h : cc_ex t = true) (h0 : cc_ar t = 0) : (100 ≤ t ∧ t ≤ 115) ∨ (120 ≤ t ∧ t ≤ 123) ∨ (124 ≤ t ∧ t ≤ 127) ∨ (143 ≤ t ∧ t ≤ 145) ∨
    (146 ≤ t ∧ t ≤ 148) ∨ (149 ≤ t ∧ t ≤ 151) ∨ (152 ≤ t ∧ t ≤ 154) ∨ (155 ≤ t ∧ t ≤ 157) ∨ (210 ≤ t ∧ t ≤ 290) := by
  have a := cc_ex_r h
  have b := cc_ar0 h0
  omega

theorem cc_nodes {t : Nat} (h : cc_ex t = true) (h0 : cc_ar t ≠ 0) : t = 128 ∨ t = 130 ∨ t = 131 ∨ t = 132 ∨ t = 133 ∨ t = 134 ∨ t = 135 ∨ t = 136 ∨ t = 137 ∨ t = 138 ∨ t = 139 ∨ t = 140 ∨ t = 141 ∨ t = 142 := by
  have a := cc_ex_r h
  have b : ¬ (t = 2 ∨ t = 39 ∨ (100 ≤ t ∧ t ≤ 127) ∨ 142 < t) := fun z => h0 (cc_ar0' z)
  omega

theorem cc_od_ar {t : Nat} (h : cc_ex t = true) : cc_od t = cc_ar t := by
  have a := cc_ex_r h
  unfold cc_od cc_ar
  repeat' split
  all_goals omega

theorem cc_op1 {ce : Nat → Int32} {t : Nat} (h : t = 128 ∨ t = 139) (e f g f' g' : Int32) : cc_op ce t e f g = cc_op ce t e f' g' := by
  rcases h with rfl | rfl <;> simp [cc_op]

theorem cc_op2 {ce : Nat → Int32} {t : Nat} (h : t = 130 ∨ t = 131 ∨ t = 132 ∨ t = 133 ∨ t = 134 ∨ t = 135 ∨ t = 136 ∨ t = 137 ∨ t = 138 ∨ t = 140 ∨ t = 141) (e f g g' : Int32) : cc_op ce t e f g = cc_op ce t e f g' := by
  rcases h with rfl | rfl | rfl | rfl | rfl | rfl | rfl | rfl | rfl | rfl | rfl <;> simp [cc_op]

theorem cc_ar2 {t : Nat} (h : t = 130 ∨ t = 131 ∨ t = 132 ∨ t = 133 ∨ t = 134 ∨ t = 135 ∨ t = 136 ∨ t = 137 ∨ t = 138 ∨ t = 140 ∨ t = 141) : cc_ar t = 2 := by
  rcases h with rfl | rfl | rfl | rfl | rfl | rfl | rfl | rfl | rfl | rfl | rfl <;> rfl

theorem cc_sI {t : Nat} (k : Nat) (hk : k ≤ t) (ht : t < 2 ^ 31) : (nI t - nI k).toNatClampNeg = t - k := by
  rw [pk_sub hk, nI_clamp (by omega)]
theorem cc_sV {t : Nat} (k N : Nat) (hk : k ≤ t) (h : t - k < N) (hN : N < 2 ^ 31) : vp_in (nI t - nI k) N := by
  rw [pk_sub hk]; exact vp_in_nI h hN

theorem cc_leaf {post : Int32 → Prop} {a : Nat → Int32} {t : Nat} (k N : Nat) (hk : k ≤ t) (h : t - k < N) (hN : N < 2 ^ 30) (ht : t < 2 ^ 31) (hp : post (a (t - k))) :
    vp_in (nI t - nI k) N ∧ post (a (nI t - nI k).toNatClampNeg) := by
  refine ⟨cc_sV k N hk h (by omega), ?_⟩
  rw [cc_sI k hk ht]
  exact hp

section
variable {f_time f_active f_running f_pending f_roundsBegun : Int32} {a_variables a_row a_inputs a_outputs a_timerOn a_timerBegin a_timerElapsed a_timerDone a_counterLast a_counterValue a_counterDone a_edgeLast a_edgeDone a_tokens a_lengths a_ends a_worths a_pendingPlaces a_pendingRounds a_pendingLimits : Nat → Int32}
theorem cc_xwa {post : Int32 → Prop} {t : Nat} (hx : cc_ex t = true) (h0 : cc_ar t = 0)
    (h : post (cc_lf a_variables a_inputs a_outputs a_timerDone a_timerElapsed a_counterValue a_counterDone a_edgeDone t)) : wpX_worthAlone post (f_time, f_active, f_running, f_pending, f_roundsBegun, a_variables, a_row, a_inputs, a_outputs, a_timerOn, a_timerBegin, a_timerElapsed, a_timerDone, a_counterLast, a_counterValue, a_counterDone, a_edgeLast, a_edgeDone, a_tokens, a_lengths, a_ends, a_worths, a_pendingPlaces, a_pendingRounds, a_pendingLimits) (nI t) := by
  have hc := cc_leafs hx h0
  have hT := cc_tI (show t < 2147483648 by omega)
  unfold cc_lf at h
  rcases hc with ⟨h1, h2⟩ | ⟨h1, h2⟩ | ⟨h1, h2⟩ | ⟨h1, h2⟩ | ⟨h1, h2⟩ | ⟨h1, h2⟩ | ⟨h1, h2⟩ | ⟨h1, h2⟩ | ⟨h1, h2⟩
  all_goals repeat (first | refine br_t (by simp only [Int32.lt_iff_toInt_lt, Int32.le_iff_toInt_le, hT, Int32.reduceToInt]; omega) ?_ | refine br_f (by simp only [Int32.lt_iff_toInt_lt, Int32.le_iff_toInt_le, hT, Int32.reduceToInt]; omega) ?_)
  · rw [if_pos (by omega)] at h
    exact cc_leaf 100 16 (by omega) (by omega) (by omega) (by omega) h
  · rw [if_neg (by omega), if_pos (by omega)] at h
    exact cc_leaf 120 4 (by omega) (by omega) (by omega) (by omega) h
  · rw [if_neg (by omega), if_neg (by omega), if_pos (by omega)] at h
    exact cc_leaf 124 4 (by omega) (by omega) (by omega) (by omega) h
  · rw [if_neg (by omega), if_neg (by omega), if_neg (by omega), if_pos (by omega)] at h
    exact cc_leaf 143 3 (by omega) (by omega) (by omega) (by omega) h
  · rw [if_neg (by omega), if_neg (by omega), if_neg (by omega), if_neg (by omega), if_pos (by omega)] at h
    exact cc_leaf 146 3 (by omega) (by omega) (by omega) (by omega) h
  · rw [if_neg (by omega), if_neg (by omega), if_neg (by omega), if_neg (by omega), if_neg (by omega), if_pos (by omega)] at h
    exact cc_leaf 149 3 (by omega) (by omega) (by omega) (by omega) h
  · rw [if_neg (by omega), if_neg (by omega), if_neg (by omega), if_neg (by omega), if_neg (by omega), if_neg (by omega), if_pos (by omega)] at h
    exact cc_leaf 152 3 (by omega) (by omega) (by omega) (by omega) h
  · rw [if_neg (by omega), if_neg (by omega), if_neg (by omega), if_neg (by omega), if_neg (by omega), if_neg (by omega), if_neg (by omega), if_pos (by omega)] at h
    exact cc_leaf 155 3 (by omega) (by omega) (by omega) (by omega) h
  · rw [if_neg (by omega), if_neg (by omega), if_neg (by omega), if_neg (by omega), if_neg (by omega), if_neg (by omega), if_neg (by omega), if_neg (by omega)] at h
    exact h

theorem cc_and7 (x : Int32) : vp_in (x &&& 7) 8 := pk_andIn x 3 (by decide) (by omega)

theorem cc_xwp {post : Int32 → Prop} {t f s r : Nat} (hx : cc_ex t = true) (h0 : cc_ar t ≠ 0) (hf : f < 61) (hs : s < 61) (hr : r < 61) (e1 : a_ends f = nI s) (e2 : a_ends s = nI r)
    (h : post (cc_op a_row t (a_worths f) (a_worths s) (a_worths r))) : wpX_worthOfParts post (f_time, f_active, f_running, f_pending, f_roundsBegun, a_variables, a_row, a_inputs, a_outputs, a_timerOn, a_timerBegin, a_timerElapsed, a_timerDone, a_counterLast, a_counterValue, a_counterDone, a_edgeLast, a_edgeDone, a_tokens, a_lengths, a_ends, a_worths, a_pendingPlaces, a_pendingRounds, a_pendingLimits) (nI t) (nI f) := by
  have hc := cc_nodes hx h0
  refine ⟨vp_in_nI hf (by omega), ?_⟩
  refine nm_r (e' := nI s) (by rw [nI_clamp (by omega), e1]) ?_
  refine ⟨vp_in_nI hf (by omega), ?_⟩
  refine nm_r (e' := a_worths f) (by rw [nI_clamp (by omega)]) ?_
  refine ⟨vp_in_nI hs (by omega), ?_⟩
  refine nm_r (e' := a_worths s) (by rw [nI_clamp (by omega)]) ?_
  clear hx h0
  generalize hE : a_worths f = E at h ⊢
  generalize hG : a_worths s = G at h ⊢
  rcases hc with rfl | rfl | rfl | rfl | rfl | rfl | rfl | rfl | rfl | rfl | rfl | rfl | rfl | rfl
  all_goals repeat (first | refine br_t (by decide) ?_ | refine br_f (by decide) ?_)
  · exact ⟨cc_and7 _, h⟩
  · exact h
  · exact h
  · exact h
  · have h' : post (if G = 0 then 0 else E / G) := h
    exact br_c (fun z => by rw [if_pos z] at h'; exact h') (fun z => ⟨z, by rw [if_neg z] at h'; exact h'⟩)
  · have h' : post (if G = 0 then 0 else E - E / G * G) := h
    exact br_c (fun z => by rw [if_pos z] at h'; exact h') (fun z => ⟨z, by rw [if_neg z] at h'; exact h'⟩)
  · have h' : post (if E < G then 1 else 0) := h
    exact br_c (fun z => by rw [if_neg (Int32.not_lt.mpr z)] at h'; exact h') (fun z => by rw [if_pos (Int32.not_le.mp z)] at h'; exact h')
  · have h' : post (if E = G then 1 else 0) := h
    exact br_c (fun z => by rw [if_pos z] at h'; exact h') (fun z => by rw [if_neg z] at h'; exact h')
  · have h' : post (if E ≠ 0 ∧ G ≠ 0 then 1 else 0) := h
    exact br_c (fun z => by rw [if_neg (fun y => y.1 z)] at h'; exact h') (fun z => br_c (fun y => by rw [if_neg (fun x => x.2 y)] at h'; exact h') (fun y => by rw [if_pos ⟨z, y⟩] at h'; exact h'))
  · have h' : post (if E ≠ 0 ∨ G ≠ 0 then 1 else 0) := h
    exact br_c (fun z => br_c (fun y => by rw [if_neg (fun x => x.elim (fun w => w z) (fun w => w y))] at h'; exact h') (fun y => by rw [if_pos (Or.inr y)] at h'; exact h')) (fun z => by rw [if_pos (Or.inl z)] at h'; exact h')
  · have h' : post (if E = 0 then 1 else 0) := h
    exact br_c (fun z => by rw [if_pos z] at h'; exact h') (fun z => by rw [if_neg z] at h'; exact h')
  · have h' : post (if G < E then E else G) := h
    exact br_c (fun z => by rw [if_neg (Int32.not_lt.mpr z)] at h'; exact h') (fun z => by rw [if_pos (Int32.not_le.mp z)] at h'; exact h')
  · have h' : post (if E < G then E else G) := h
    exact br_c (fun z => by rw [if_neg (Int32.not_lt.mpr z)] at h'; exact h') (fun z => by rw [if_pos (Int32.not_le.mp z)] at h'; exact h')
  · have h' : post (if E ≠ 0 then G else a_worths r) := h
    refine br_c (fun z => ?_) (fun z => by rw [if_pos z] at h'; exact h')
    rw [if_neg (fun y => y z)] at h'
    refine ⟨vp_in_nI hs (by omega), ?_⟩
    rw [nI_clamp (by omega), e2]
    refine ⟨vp_in_nI hr (by omega), ?_⟩
    rw [nI_clamp (by omega)]
    exact h'

theorem cc_xvl {post : Int32 → SX → Prop} {T : Nat → Nat} {n a q : Nat} {val : Nat → Int32} (w : cc_wh T n) (ha : a < 2) (hq : q < n) (hx : cc_ex (T q) = true)
    (htok : ∀ i, i < n → a_tokens (a * 61 + i) = nI (T i)) (hb : cc_eb a_ends) (hends : ∀ i, i < n → a_ends i = nI (cc_en T i))
    (hval : val = cc_vl T n (cc_lf a_variables a_inputs a_outputs a_timerDone a_timerElapsed a_counterValue a_counterDone a_edgeDone) a_row)
    (h : ∀ w', post (val q) (f_time, nI a, f_running, f_pending, f_roundsBegun, a_variables, a_row, a_inputs, a_outputs, a_timerOn, a_timerBegin, a_timerElapsed, a_timerDone, a_counterLast, a_counterValue, a_counterDone, a_edgeLast, a_edgeDone, a_tokens, a_lengths, a_ends, w', a_pendingPlaces, a_pendingRounds, a_pendingLimits)) :
    ∀ d w', q + d ≤ cc_en T q → (∀ j, q + d ≤ j → j < cc_en T q → w' j = val j) →
      wX_value_9 post (nI q) f_time (nI a) f_running f_pending f_roundsBegun (d + 1) (nI (q + d) + (-1)) a_variables a_row a_inputs a_outputs a_timerOn a_timerBegin a_timerElapsed a_timerDone a_counterLast a_counterValue a_counterDone a_edgeLast a_edgeDone a_tokens a_lengths a_ends w' a_pendingPlaces a_pendingRounds a_pendingLimits := by
  have hn := w.2.2
  have hgt := cc_en_gt w hq
  have hle := cc_en_le w hq
  have hF := cc_en_F w hq
  have hEh := cc_en_h w hq
  have hall := cc_allEx w hq hx
  intro d
  induction d with
  | zero =>
    intro w' hd hw
    refine br_t (cc_pm (by omega)) ?_
    refine ⟨vp_in_nI (by omega) (by omega), ?_⟩
    rw [nI_clamp (by omega), hw q (by omega) hgt]
    exact h w'
  | succ d ih =>
    intro w' hd hw
    rw [show q + (d + 1) = (q + d) + 1 from rfl, pk_m1]
    refine br_f (cc_nlt (q + d) q (by omega)) ?_
    have hex := hall (q + d) (by omega) (by omega)
    have ht := cc_va_lt (Or.inr hex)
    refine cc_xat (T := T) (n := n) ha hn (by omega) htok ?_
    refine cc_xod (by omega) (fun k hk => ?_)
    rw [cc_od_ar hex] at hk
    refine pk_eq k 0 (fun z => ?_) (fun z => ?_) rfl rfl (by have := cc_ar_le (T (q + d)); omega) (by omega)
    · refine cc_xwa hex (by omega) ?_
      refine ⟨vp_in_nI (by omega) (by omega), ?_⟩
      refine nm_e ?_
      refine nm_e ?_
      rw [nI_clamp (by omega)]
      refine ih _ (by omega) (fun j h1 h2 => ?_)
      by_cases y : j = q + d
      · rw [y, cc_u_s, hval, cc_vl_0 (by omega) (by omega)]
      · rw [cc_u_n y]; exact hw j (by omega) h2
    · have hh := hF.2.2 (q + d) (by omega) (by omega)
      have hs := cc_hs (cc_hpos w.1 (show q + d < n by omega))
      have h1E : q + d + 1 < cc_en T q := by
        by_cases y : q + d + 1 = cc_en T q
        · rw [← y] at hEh; omega
        · omega
      have g2 := cc_en_le w (show q + d + 1 < n by omega)
      rw [nI_1]
      obtain ⟨r, hr1, hr2⟩ := hb (cc_en T (q + d + 1)) (by omega)
      have e1 := hends (q + d + 1) (by omega)
      refine cc_xwp (f := q + d + 1) (s := cc_en T (q + d + 1)) (r := r) hex (by omega) (by omega) (by omega) (by omega) e1 hr2 ?_
      refine ⟨vp_in_nI (by omega) (by omega), ?_⟩
      refine nm_e ?_
      refine nm_e ?_
      rw [nI_clamp (by omega)]
      refine ih _ (by omega) (fun j h1 h2 => ?_)
      by_cases y : j = q + d
      · have hv : val (q + d) = cc_op a_row (T (q + d)) (val (q + d + 1)) (val (cc_en T (q + d + 1))) (val (cc_en T (cc_en T (q + d + 1)))) := by
          rw [hval, cc_vl_s (by omega) (by omega)]
        rw [y, cc_u_s, hv]
        clear hv
        have ew1 := hw (q + d + 1) (by omega) h1E
        rw [ew1]
        have b2 : 2 ≤ cc_ar (T (q + d)) → w' (cc_en T (q + d + 1)) = val (cc_en T (q + d + 1)) := by
          intro h2a
          have F2 := cc_en_F w (show q + d + 1 < n by omega)
          have l2 := cc_F_lt F2 (e := cc_en T q) (by omega) (by omega)
          exact hw _ (by have := cc_en_ge T (q + d + 1); omega) l2
        have b3 : 3 ≤ cc_ar (T (q + d)) → w' r = val (cc_en T (cc_en T (q + d + 1))) := by
          intro h3a
          have F2 := cc_en_F w (show q + d + 1 < n by omega)
          have l2 := cc_F_lt F2 (e := cc_en T q) (by omega) (by omega)
          have F3 := cc_en_F w (show cc_en T (q + d + 1) < n by omega)
          have hh2 := cc_en_h w (show q + d + 1 < n by omega)
          have l3 := cc_F_lt F3 (e := cc_en T q) (by omega) (by omega)
          have er := hends (cc_en T (q + d + 1)) (by omega)
          rw [hr2, nI_eq (by omega) (by have := cc_en_le w (show cc_en T (q + d + 1) < n by omega); omega)] at er
          rw [er]
          exact hw _ (by have := cc_en_ge T (q + d + 1); have := cc_en_ge T (cc_en T (q + d + 1)); omega) l3
        have hnd := cc_nodes hex (by omega)
        by_cases c1 : T (q + d) = 128 ∨ T (q + d) = 139
        · exact cc_op1 c1 _ _ _ _ _
        · by_cases c2 : T (q + d) = 142
          · have a3 : cc_ar (T (q + d)) = 3 := by rw [c2]; rfl
            rw [b2 (by omega), b3 (by omega)]
          · have hc2 : T (q + d) = 130 ∨ T (q + d) = 131 ∨ T (q + d) = 132 ∨ T (q + d) = 133 ∨ T (q + d) = 134 ∨ T (q + d) = 135 ∨ T (q + d) = 136 ∨ T (q + d) = 137 ∨ T (q + d) = 138 ∨ T (q + d) = 140 ∨ T (q + d) = 141 := by omega
            have ha2 := cc_ar2 hc2
            rw [b2 (by omega)]
            exact cc_op2 hc2 _ _ _ _
      · rw [cc_u_n y]; exact hw j (by omega) h2

theorem cc_xv {post : Int32 → SX → Prop} {T : Nat → Nat} {n a q : Nat} (w : cc_wh T n) (ha : a < 2) (hq : q < n) (hx : cc_ex (T q) = true)
    (htok : ∀ i, i < n → a_tokens (a * 61 + i) = nI (T i)) (hb : cc_eb a_ends) (hends : ∀ i, i < n → a_ends i = nI (cc_en T i))
    (h : ∀ w', post (cc_vl T n (cc_lf a_variables a_inputs a_outputs a_timerDone a_timerElapsed a_counterValue a_counterDone a_edgeDone) a_row q) (f_time, nI a, f_running, f_pending, f_roundsBegun, a_variables, a_row, a_inputs, a_outputs, a_timerOn, a_timerBegin, a_timerElapsed, a_timerDone, a_counterLast, a_counterValue, a_counterDone, a_edgeLast, a_edgeDone, a_tokens, a_lengths, a_ends, w', a_pendingPlaces, a_pendingRounds, a_pendingLimits)) :
    wpX_value post (f_time, nI a, f_running, f_pending, f_roundsBegun, a_variables, a_row, a_inputs, a_outputs, a_timerOn, a_timerBegin, a_timerElapsed, a_timerDone, a_counterLast, a_counterValue, a_counterDone, a_edgeLast, a_edgeDone, a_tokens, a_lengths, a_ends, a_worths, a_pendingPlaces, a_pendingRounds, a_pendingLimits) (nI q) := by
  have hn := w.2.2
  have hgt := cc_en_gt w hq
  have hle := cc_en_le w hq
  refine ⟨vp_in_nI (by omega) (by omega), ?_⟩
  refine nm_r (e' := nI (q + (cc_en T q - q)) + (-1)) (by rw [nI_clamp (by omega), hends q hq, cc_sm1, show q + (cc_en T q - q) = cc_en T q by omega]) ?_
  exact ⟨cc_en T q - q + 1, cc_xvl w ha hq hx htok hb hends rfl h (cc_en T q - q) a_worths (by omega) (fun j h1 h2 => by omega)⟩
end
end
section
theorem cc_dm1 (e : Int32) : e / (-1) = 0 - e := by
  apply Int32.toInt_inj.mp
  rw [Int32.toInt_div, Int32.toInt_sub, show (-1 : Int32).toInt = -1 from by decide, show (0 : Int32).toInt = 0 from by decide, Int.tdiv_neg, Int.tdiv_one, Int.zero_sub]

theorem cc_rm1 (e : Int32) : e - e / (-1) * (-1) = 0 := by
  rw [cc_dm1]
  have : (0 - e) * (-1) = e := by
    rw [Int32.mul_neg, Int32.mul_one, Int32.neg_sub, Int32.sub_zero]
  rw [this, Int32.sub_self]

theorem cc_h_dn {T : Nat → Nat} {n : Nat} (ho : cc_ok T n) : ∀ m i, i + m ≤ n → cc_h T i ≤ cc_h T (i + m) + m := by
  intro m
  induction m with
  | zero => intro i _; simp
  | succ m ih =>
    intro i hi
    have a := ih i (by omega)
    have b := cc_hs (cc_hpos ho (show i + m < n by omega))
    rw [show i + (m + 1) = i + m + 1 from rfl]
    omega

section
variable {f_time f_active f_running f_open f_depth f_tasks f_begun : Int32} {a_variables a_cells a_inputs a_outputs a_timerOn a_timerBegin a_timerElapsed a_timerDone a_counterLast a_counterValue a_counterDone a_edgeLast a_edgeDone a_sizes a_tokens a_ends a_wants a_numbers a_taskKind a_taskAt a_taskRounds a_taskLimit : Nat → Int32}
theorem cc_ypl {post : Int32 → Prop} {t : Nat} (hx : cc_ex t = true) (h0 : cc_ar t = 0)
    (h : post (cc_lf a_variables a_inputs a_outputs a_timerDone a_timerElapsed a_counterValue a_counterDone a_edgeDone t)) : wpY_plain post (f_time, f_active, f_running, f_open, f_depth, f_tasks, f_begun, a_variables, a_cells, a_inputs, a_outputs, a_timerOn, a_timerBegin, a_timerElapsed, a_timerDone, a_counterLast, a_counterValue, a_counterDone, a_edgeLast, a_edgeDone, a_sizes, a_tokens, a_ends, a_wants, a_numbers, a_taskKind, a_taskAt, a_taskRounds, a_taskLimit) (nI t) := by
  have hc := cc_leafs hx h0
  have hT := cc_tI (show t < 2147483648 by omega)
  unfold cc_lf at h
  rcases hc with ⟨h1, h2⟩ | ⟨h1, h2⟩ | ⟨h1, h2⟩ | ⟨h1, h2⟩ | ⟨h1, h2⟩ | ⟨h1, h2⟩ | ⟨h1, h2⟩ | ⟨h1, h2⟩ | ⟨h1, h2⟩
  all_goals repeat (first | refine br_t (by simp only [Int32.lt_iff_toInt_lt, Int32.le_iff_toInt_le, hT, Int32.reduceToInt]; omega) ?_ | refine br_f (by simp only [Int32.lt_iff_toInt_lt, Int32.le_iff_toInt_le, hT, Int32.reduceToInt]; omega) ?_)
  · rw [if_pos (by omega)] at h
    exact cc_leaf 100 16 (by omega) (by omega) (by omega) (by omega) h
  · rw [if_neg (by omega), if_pos (by omega)] at h
    exact cc_leaf 120 4 (by omega) (by omega) (by omega) (by omega) h
  · rw [if_neg (by omega), if_neg (by omega), if_pos (by omega)] at h
    exact cc_leaf 124 4 (by omega) (by omega) (by omega) (by omega) h
  · rw [if_neg (by omega), if_neg (by omega), if_neg (by omega), if_pos (by omega)] at h
    exact cc_leaf 143 3 (by omega) (by omega) (by omega) (by omega) h
  · rw [if_neg (by omega), if_neg (by omega), if_neg (by omega), if_neg (by omega), if_pos (by omega)] at h
    exact cc_leaf 146 3 (by omega) (by omega) (by omega) (by omega) h
  · rw [if_neg (by omega), if_neg (by omega), if_neg (by omega), if_neg (by omega), if_neg (by omega), if_pos (by omega)] at h
    exact cc_leaf 149 3 (by omega) (by omega) (by omega) (by omega) h
  · rw [if_neg (by omega), if_neg (by omega), if_neg (by omega), if_neg (by omega), if_neg (by omega), if_neg (by omega), if_pos (by omega)] at h
    exact cc_leaf 152 3 (by omega) (by omega) (by omega) (by omega) h
  · rw [if_neg (by omega), if_neg (by omega), if_neg (by omega), if_neg (by omega), if_neg (by omega), if_neg (by omega), if_neg (by omega), if_pos (by omega)] at h
    exact cc_leaf 155 3 (by omega) (by omega) (by omega) (by omega) h
  · rw [if_neg (by omega), if_neg (by omega), if_neg (by omega), if_neg (by omega), if_neg (by omega), if_neg (by omega), if_neg (by omega), if_neg (by omega)] at h
    exact h

theorem cc_yjo {post : Int32 → Prop} {t : Nat} {ce : Nat → Int32} {E G H : Int32}
    (hc : t = 130 ∨ t = 131 ∨ t = 132 ∨ t = 133 ∨ t = 134 ∨ t = 135 ∨ t = 136 ∨ t = 137 ∨ t = 138 ∨ t = 140 ∨ t = 141)
    (h : post (cc_op ce t E G H)) : wpY_joined post (f_time, f_active, f_running, f_open, f_depth, f_tasks, f_begun, a_variables, a_cells, a_inputs, a_outputs, a_timerOn, a_timerBegin, a_timerElapsed, a_timerDone, a_counterLast, a_counterValue, a_counterDone, a_edgeLast, a_edgeDone, a_sizes, a_tokens, a_ends, a_wants, a_numbers, a_taskKind, a_taskAt, a_taskRounds, a_taskLimit) (nI t) E G := by
  have d1 : (1 : Int32) = 1 := rfl
  have d0 : (0 : Int32) = 0 := rfl
  have n10 : ¬ (1 : Int32) = 0 := by decide
  have n01 : ¬ (0 : Int32) = 1 := by decide
  rcases hc with rfl | rfl | rfl | rfl | rfl | rfl | rfl | rfl | rfl | rfl | rfl
  all_goals repeat (first | refine br_t (by decide) ?_ | refine br_f (by decide) ?_)
  · exact h
  · exact h
  · exact h
  · have h' : post (if G = 0 then 0 else E / G) := h
    refine br_c (fun z => by rw [if_pos z] at h'; exact h') (fun z => ?_)
    rw [if_neg z] at h'
    refine br_c (fun y => br_t d0 ?_) (fun y => br_t d0 ⟨z, h'⟩)
    rw [y, cc_dm1] at h'
    exact h'
  · have h' : post (if G = 0 then 0 else E - E / G * G) := h
    refine br_c (fun z => by rw [if_pos z] at h'; exact h') (fun z => ?_)
    rw [if_neg z] at h'
    refine br_c (fun y => br_f n10 ?_) (fun y => br_f n10 ⟨z, h'⟩)
    rw [y, cc_rm1] at h'
    exact h'
  · have h' : post (if E < G then 1 else 0) := h
    exact br_c (fun z => br_t d0 (by rw [if_neg (Int32.not_lt.mpr z)] at h'; exact h')) (fun z => br_f n10 (by rw [if_pos (Int32.not_le.mp z)] at h'; exact h'))
  · have h' : post (if E = G then 1 else 0) := h
    exact br_c (fun z => br_f n10 (by rw [if_pos z] at h'; exact h')) (fun z => br_t d0 (by rw [if_neg z] at h'; exact h'))
  · have h' : post (if E ≠ 0 ∧ G ≠ 0 then 1 else 0) := h
    exact br_c (fun z => br_t d0 (by rw [if_neg (fun y => y.1 z)] at h'; exact h')) (fun z => br_c (fun y => br_t d0 (by rw [if_neg (fun x => x.2 y)] at h'; exact h')) (fun y => br_f n10 (by rw [if_pos ⟨z, y⟩] at h'; exact h')))
  · have h' : post (if E ≠ 0 ∨ G ≠ 0 then 1 else 0) := h
    exact br_c (fun z => br_c (fun y => br_t d0 (by rw [if_neg (fun x => x.elim (fun w => w z) (fun w => w y))] at h'; exact h')) (fun y => br_f n10 (by rw [if_pos (Or.inr y)] at h'; exact h'))) (fun z => br_f n10 (by rw [if_pos (Or.inl z)] at h'; exact h'))
  · have h' : post (if G < E then E else G) := h
    exact br_c (fun z => br_f n10 (by rw [if_neg (Int32.not_lt.mpr z)] at h'; exact h')) (fun z => br_t d1 (by rw [if_pos (Int32.not_le.mp z)] at h'; exact h'))
  · have h' : post (if E < G then E else G) := h
    refine br_c (fun z => br_t d0 ?_) (fun z => br_f n01 (by rw [if_neg (fun y => z (Int32.le_of_lt y))] at h'; exact h'))
    by_cases y : E < G
    · rw [if_pos y] at h'; exact h'
    · rw [if_neg y] at h'
      have e : E = G := Int32.le_antisymm z (Int32.not_lt.mp y)
      rw [e]; exact h'

theorem cc_ypop {post : Int32 → SY → Prop} {c : Nat} (hc : c < 64) (h : post (a_numbers c) (f_time, f_active, f_running, f_open, nI c, f_tasks, f_begun, a_variables, a_cells, a_inputs, a_outputs, a_timerOn, a_timerBegin, a_timerElapsed, a_timerDone, a_counterLast, a_counterValue, a_counterDone, a_edgeLast, a_edgeDone, a_sizes, a_tokens, a_ends, a_wants, a_numbers, a_taskKind, a_taskAt, a_taskRounds, a_taskLimit)) : wpY_pop post (f_time, f_active, f_running, f_open, nI (c + 1), f_tasks, f_begun, a_variables, a_cells, a_inputs, a_outputs, a_timerOn, a_timerBegin, a_timerElapsed, a_timerDone, a_counterLast, a_counterValue, a_counterDone, a_edgeLast, a_edgeDone, a_sizes, a_tokens, a_ends, a_wants, a_numbers, a_taskKind, a_taskAt, a_taskRounds, a_taskLimit) := by
  refine nm_r (e' := nI c) (nI_pred c) ?_
  refine ⟨vp_in_nI hc (by omega), ?_⟩
  rw [nI_clamp (by omega)]
  exact h

theorem cc_yw3 {post : Int32 → SY → Prop} {J : Int32 → Int32 → Int32 → Int32 → Int32 → Int32 → Int32 → Int32 → (Nat → Int32) → (Nat → Int32) → (Nat → Int32) → (Nat → Int32) → (Nat → Int32) → (Nat → Int32) → (Nat → Int32) → (Nat → Int32) → (Nat → Int32) → (Nat → Int32) → (Nat → Int32) → (Nat → Int32) → (Nat → Int32) → (Nat → Int32) → (Nat → Int32) → (Nat → Int32) → (Nat → Int32) → (Nat → Int32) → (Nat → Int32) → (Nat → Int32) → (Nat → Int32) → (Nat → Int32) → Prop} {x1 x2 v : Int32} {c : Nat} (hc : c < 64)
    (h : J (x2 + (-1)) f_time f_active f_running f_open (nI (c + 1)) f_tasks f_begun a_variables a_cells a_inputs a_outputs a_timerOn a_timerBegin a_timerElapsed a_timerDone a_counterLast a_counterValue a_counterDone a_edgeLast a_edgeDone a_sizes a_tokens a_ends a_wants (upd a_numbers c v) a_taskKind a_taskAt a_taskRounds a_taskLimit) : wY_work_143 post J x1 x2 v f_time f_active f_running f_open (nI c) f_tasks f_begun a_variables a_cells a_inputs a_outputs a_timerOn a_timerBegin a_timerElapsed a_timerDone a_counterLast a_counterValue a_counterDone a_edgeLast a_edgeDone a_sizes a_tokens a_ends a_wants a_numbers a_taskKind a_taskAt a_taskRounds a_taskLimit := by
  refine ⟨vp_in_nI hc (by omega), ?_⟩
  refine nm_r (e' := upd a_numbers c v) (by rw [nI_clamp (by omega)]) ?_
  refine nm_r (e' := nI (c + 1)) (nI_1 c) ?_
  exact nm_e h

theorem cc_ywl {post : Int32 → SY → Prop} {T : Nat → Nat} {n a q : Nat} {val : Nat → Int32} (w : cc_wh T n) (ha : a < 2) (hq : q < n) (hx : cc_ex (T q) = true)
    (htok : ∀ i, i < n → a_tokens (60 * a + i) = nI (T i))
    (hval : val = cc_vl T n (cc_lf a_variables a_inputs a_outputs a_timerDone a_timerElapsed a_counterValue a_counterDone a_edgeDone) a_cells)
    (h : ∀ w', post (val q) (f_time, f_active, f_running, f_open, 0, f_tasks, f_begun, a_variables, a_cells, a_inputs, a_outputs, a_timerOn, a_timerBegin, a_timerElapsed, a_timerDone, a_counterLast, a_counterValue, a_counterDone, a_edgeLast, a_edgeDone, a_sizes, a_tokens, a_ends, a_wants, w', a_taskKind, a_taskAt, a_taskRounds, a_taskLimit)) :
    ∀ d num c, q + d ≤ cc_en T q → c + cc_h T (cc_en T q) = cc_h T (q + d) → cc_ns T val num c (q + d) →
      wY_work_9 post (nI (60 * a + q)) (d + 1) (nI (60 * a + (q + d)) + (-1)) f_time f_active f_running f_open (nI c) f_tasks f_begun a_variables a_cells a_inputs a_outputs a_timerOn a_timerBegin a_timerElapsed a_timerDone a_counterLast a_counterValue a_counterDone a_edgeLast a_edgeDone a_sizes a_tokens a_ends a_wants num a_taskKind a_taskAt a_taskRounds a_taskLimit := by
  have hn := w.2.2
  have hgt := cc_en_gt w hq
  have hle := cc_en_le w hq
  have hF := cc_en_F w hq
  have hEh := cc_en_h w hq
  have hall := cc_allEx w hq hx
  intro d
  induction d with
  | zero =>
    intro num c hd hc hns
    have c1 : c = 0 + 1 := by rw [Nat.add_zero] at hc; omega
    subst c1
    refine br_t (cc_pm (by omega)) ?_
    refine cc_ypop (by omega) ?_
    rw [hns.1]
    exact h num
  | succ d ih =>
    intro num c hd hc hns
    rw [show 60 * a + (q + (d + 1)) = (60 * a + (q + d)) + 1 from rfl, pk_m1]
    have hh := hF.2.2 (q + d) (by omega) (by omega)
    have hs := cc_hs (cc_hpos w.1 (show q + d < n by omega))
    have hdn := cc_h_dn w.1 (cc_en T q - (q + (d + 1))) (q + (d + 1)) (by omega)
    rw [show q + (d + 1) + (cc_en T q - (q + (d + 1))) = cc_en T q by omega] at hdn
    have hex := hall (q + d) (by omega) (by omega)
    have ht := cc_va_lt (Or.inr hex)
    have hen := cc_nx_en w (show q + d < n by omega)
    have hq1 : q + (d + 1) = q + d + 1 := rfl
    rw [hq1] at hc hns hdn
    obtain ⟨m, hm⟩ : ∃ m, cc_h T (q + d) = m + 1 + cc_h T (cc_en T q) := ⟨cc_h T (q + d) - 1 - cc_h T (cc_en T q), by omega⟩
    have hcm : c = m + cc_ar (T (q + d)) := by omega
    have fin : ∀ num' v, v = val (q + d) → cc_ns T val num' m (cc_en T (q + d)) → wY_work_143 post (wY_work_9 post (nI (60 * a + q)) (d + 1)) (nI (60 * a + q)) (nI (60 * a + (q + d))) v f_time f_active f_running f_open (nI m) f_tasks f_begun a_variables a_cells a_inputs a_outputs a_timerOn a_timerBegin a_timerElapsed a_timerDone a_counterLast a_counterValue a_counterDone a_edgeLast a_edgeDone a_sizes a_tokens a_ends a_wants num' a_taskKind a_taskAt a_taskRounds a_taskLimit := by
      intro num' v hv hns'
      refine cc_yw3 (by omega) ?_
      refine ih _ (m + 1) (by omega) (by omega) ⟨?_, cc_ns_upd (Nat.le_refl _) hns'⟩
      rw [cc_u_s]; exact hv
    refine br_f (cc_nlt (60 * a + (q + d)) (60 * a + q) (by omega)) ?_
    refine ⟨vp_in_nI (by omega) (by omega), ?_⟩
    refine nm_r (e' := nI (T (q + d))) (by rw [nI_clamp (by omega)]; exact htok (q + d) (by omega)) ?_
    refine cc_yar (by omega) (fun k hk => ?_)
    refine pk_eq k 0 (fun z => ?_) (fun z => ?_) rfl rfl (by have := cc_ar_le (T (q + d)); omega) (by omega)
    · refine cc_ypl hex (by omega) ?_
      have h0 : cc_ar (T (q + d)) = 0 := by omega
      rw [h0] at hcm hen
      subst hcm
      refine fin num _ ?_ ?_
      · rw [hval, cc_vl_0 (by omega) h0]
      · rw [← hen]; exact hns
    · have hv : val (q + d) = cc_op a_cells (T (q + d)) (val (q + d + 1)) (val (cc_en T (q + d + 1))) (val (cc_en T (cc_en T (q + d + 1)))) := by
        rw [hval, cc_vl_s (by omega) (by omega)]
      have hnodes := cc_nodes hex (by omega)
      by_cases e128 : T (q + d) = 128
      · rw [e128] at hcm hen hv ⊢
        rw [show cc_ar 128 = 1 from rfl] at hcm hen
        subst hcm
        refine cc_ypop (by omega) ?_
        refine br_t (by decide) ?_
        refine ⟨cc_and7 _, ?_⟩
        refine nm_e ?_
        refine fin num _ ?_ ?_
        · rw [hv, hns.1]; rfl
        · rw [← hen]; exact hns.2
      · by_cases e139 : T (q + d) = 139
        · rw [e139] at hcm hen hv ⊢
          rw [show cc_ar 139 = 1 from rfl] at hcm hen
          subst hcm
          refine cc_ypop (by omega) ?_
          refine br_f (by decide) (br_t (by decide) ?_)
          have hv' : val (q + d) = if num m = 0 then 1 else 0 := by rw [hv, hns.1]; rfl
          refine br_c (fun y => ?_) (fun y => ?_)
          · refine br_f (by decide) ?_
            refine fin num _ ?_ (by rw [← hen]; exact hns.2)
            rw [hv', if_pos y]
          · refine br_t (by decide) ?_
            refine fin num _ ?_ (by rw [← hen]; exact hns.2)
            rw [hv', if_neg y]
        · by_cases e142 : T (q + d) = 142
          · rw [e142] at hcm hen hv ⊢
            rw [show cc_ar 142 = 3 from rfl] at hcm hen
            subst hcm
            refine cc_ypop (by omega) ?_
            refine br_f (by decide) (br_f (by decide) ?_)
            refine cc_ypop (by omega) ?_
            refine br_t (by decide) ?_
            refine cc_ypop (by omega) ?_
            have hv' : val (q + d) = if num (m + 2) ≠ 0 then num (m + 1) else num m := by
              rw [hv, hns.1, hns.2.1, hns.2.2.1]; rfl
            refine br_c (fun y => ?_) (fun y => ?_)
            · refine fin num _ ?_ (by rw [← hen]; exact hns.2.2.2)
              rw [hv', if_neg (fun x => x y)]
            · refine fin num _ ?_ (by rw [← hen]; exact hns.2.2.2)
              rw [hv', if_pos y]
          · have hc2 : T (q + d) = 130 ∨ T (q + d) = 131 ∨ T (q + d) = 132 ∨ T (q + d) = 133 ∨ T (q + d) = 134 ∨ T (q + d) = 135 ∨ T (q + d) = 136 ∨ T (q + d) = 137 ∨ T (q + d) = 138 ∨ T (q + d) = 140 ∨ T (q + d) = 141 := by omega
            have ha2 : cc_ar (T (q + d)) = 2 := by
              rcases hc2 with y | y | y | y | y | y | y | y | y | y | y <;> rw [y] <;> rfl
            rw [ha2] at hcm hen
            subst hcm
            refine cc_ypop (by omega) ?_
            refine br_f (cc_ne (T (q + d)) 128 e128) (br_f (cc_ne (T (q + d)) 139 e139) ?_)
            refine cc_ypop (by omega) ?_
            refine br_f (cc_ne (T (q + d)) 142 e142) ?_
            refine cc_yjo (ce := a_cells) (H := val (cc_en T (cc_en T (q + d + 1)))) hc2 ?_
            refine fin num _ ?_ (by rw [← hen]; exact hns.2.2)
            rw [hv, hns.1, hns.2.1]

theorem cc_yw {post : Int32 → SY → Prop} {T : Nat → Nat} {n a q : Nat} (w : cc_wh T n) (ha : a < 2) (hq : q < n) (hx : cc_ex (T q) = true)
    (htok : ∀ i, i < n → a_tokens (60 * a + i) = nI (T i)) (hends : ∀ i, i < n → a_ends (60 * a + i) = nI (60 * a + cc_en T i))
    (h : ∀ w', post (cc_vl T n (cc_lf a_variables a_inputs a_outputs a_timerDone a_timerElapsed a_counterValue a_counterDone a_edgeDone) a_cells q) (f_time, f_active, f_running, f_open, 0, f_tasks, f_begun, a_variables, a_cells, a_inputs, a_outputs, a_timerOn, a_timerBegin, a_timerElapsed, a_timerDone, a_counterLast, a_counterValue, a_counterDone, a_edgeLast, a_edgeDone, a_sizes, a_tokens, a_ends, a_wants, w', a_taskKind, a_taskAt, a_taskRounds, a_taskLimit)) :
    wpY_work post (f_time, f_active, f_running, f_open, 0, f_tasks, f_begun, a_variables, a_cells, a_inputs, a_outputs, a_timerOn, a_timerBegin, a_timerElapsed, a_timerDone, a_counterLast, a_counterValue, a_counterDone, a_edgeLast, a_edgeDone, a_sizes, a_tokens, a_ends, a_wants, a_numbers, a_taskKind, a_taskAt, a_taskRounds, a_taskLimit) (nI (60 * a + q)) := by
  have hn := w.2.2
  have hgt := cc_en_gt w hq
  have hle := cc_en_le w hq
  refine ⟨vp_in_nI (by omega) (by omega), ?_⟩
  refine nm_r (e' := nI (60 * a + (q + (cc_en T q - q))) + (-1)) (by rw [nI_clamp (by omega), hends q hq, cc_sm1, show q + (cc_en T q - q) = cc_en T q by omega]) ?_
  have e : q + (cc_en T q - q) = cc_en T q := by omega
  exact ⟨cc_en T q - q + 1, cc_ywl w ha hq hx htok rfl h (cc_en T q - q) a_numbers 0 (by omega) (by rw [e]; omega) trivial⟩
end
end
section
def cc_tOn (on : Nat → Int32) (k : Nat) (e : Bool) : Nat → Int32 := upd on k (cc_bI e)
def cc_tBe (on be : Nat → Int32) (k : Nat) (e : Bool) (tm : Int32) : Nat → Int32 := if e = true ∧ on k = 0 then upd be k tm else be
def cc_tSh (pa f : Int32) : Int32 := if pa ≤ f then pa else f
def cc_tEl (el : Nat → Int32) (k : Nat) (e : Bool) (pa f : Int32) : Nat → Int32 := upd el k (if e = true ∧ 0 < cc_tSh pa f then cc_tSh pa f else 0)
def cc_tDo (dn : Nat → Int32) (k : Nat) (e : Bool) (pa f : Int32) : Nat → Int32 := upd dn k (if e = true ∧ ¬ pa < f then 1 else 0)
def cc_cVa (la va : Nat → Int32) (k : Nat) (e f : Bool) : Nat → Int32 := if f = true then upd va k 0 else if e = true ∧ la k = 0 then upd va k (va k + 1) else va
def cc_cDo (va dn : Nat → Int32) (k : Nat) (g : Int32) : Nat → Int32 := upd dn k (if va k < g then 0 else 1)
def cc_eDo (la dn : Nat → Int32) (k : Nat) (e : Bool) : Nat → Int32 := upd dn k (if e = true ∧ la k = 0 then 1 else 0)
def cc_b01 (on : Nat → Int32) : Prop := ∀ k, on k = 0 ∨ on k = 1

theorem cc_b01_upd {on : Nat → Int32} {k : Nat} {e : Bool} (h : cc_b01 on) : cc_b01 (cc_tOn on k e) := by
  intro j
  unfold cc_tOn
  by_cases z : j = k
  · rw [z, cc_u_s]
    cases e
    · exact Or.inl rfl
    · exact Or.inr rfl
  · rw [cc_u_n z]; exact h j

theorem cc_bf : cc_bI false = 0 := rfl
theorem cc_bt : cc_bI true = 1 := rfl
theorem cc_n10 : ¬ (1 : Int32) = 0 := by decide
theorem cc_n01 : ¬ (0 : Int32) = 1 := by decide

section
variable {f_time f_active f_running f_pending f_roundsBegun : Int32} {a_variables a_row a_inputs a_outputs a_timerOn a_timerBegin a_timerElapsed a_timerDone a_counterLast a_counterValue a_counterDone a_edgeLast a_edgeDone a_tokens a_lengths a_ends a_worths a_pendingPlaces a_pendingRounds a_pendingLimits : Nat → Int32}
theorem cc_xti {post : SX → Prop} {k : Nat} {e : Bool} {f : Int32} (hk : k < 3)
    (h : post (f_time, f_active, f_running, f_pending, f_roundsBegun, a_variables, a_row, a_inputs, a_outputs, cc_tOn a_timerOn k e, cc_tBe a_timerOn a_timerBegin k e f_time, cc_tEl a_timerElapsed k e (f_time - cc_tBe a_timerOn a_timerBegin k e f_time k) f, cc_tDo a_timerDone k e (f_time - cc_tBe a_timerOn a_timerBegin k e f_time k) f, a_counterLast, a_counterValue, a_counterDone, a_edgeLast, a_edgeDone, a_tokens, a_lengths, a_ends, a_worths, a_pendingPlaces, a_pendingRounds, a_pendingLimits)) :
    wpX_runTimer post (f_time, f_active, f_running, f_pending, f_roundsBegun, a_variables, a_row, a_inputs, a_outputs, a_timerOn, a_timerBegin, a_timerElapsed, a_timerDone, a_counterLast, a_counterValue, a_counterDone, a_edgeLast, a_edgeDone, a_tokens, a_lengths, a_ends, a_worths, a_pendingPlaces, a_pendingRounds, a_pendingLimits) (nI k) (cc_bI e) f := by
  have hv : vp_in (nI k) 3 := vp_in_nI hk (by omega)
  have hc : (nI k).toNatClampNeg = k := nI_clamp (by omega)
  have core : ∀ be : Nat → Int32, cc_tBe a_timerOn a_timerBegin k e f_time = be → wX_runTimer_23 post (nI k) (cc_bI e) f f_time f_active f_running f_pending f_roundsBegun a_variables a_row a_inputs a_outputs a_timerOn be a_timerElapsed a_timerDone a_counterLast a_counterValue a_counterDone a_edgeLast a_edgeDone a_tokens a_lengths a_ends a_worths a_pendingPlaces a_pendingRounds a_pendingLimits := by
    intro be hbe
    rw [hbe] at h
    refine ⟨hv, ?_⟩
    refine nm_r (e' := cc_tOn a_timerOn k e) (by rw [hc, cc_vb]; rfl) ?_
    refine ⟨hv, ?_⟩
    refine nm_r (e' := f_time - be k) (by rw [hc]) ?_
    have c55 : wX_runTimer_55 post (nI k) (cc_bI e) f (f_time - be k) (cc_tSh (f_time - be k) f) f_time f_active f_running f_pending f_roundsBegun a_variables a_row a_inputs a_outputs (cc_tOn a_timerOn k e) be a_timerElapsed a_timerDone a_counterLast a_counterValue a_counterDone a_edgeLast a_edgeDone a_tokens a_lengths a_ends a_worths a_pendingPlaces a_pendingRounds a_pendingLimits := by
      cases e with
      | false =>
        refine br_t cc_bf ?_
        refine ⟨hv, ?_⟩
        refine nm_r (e' := cc_tEl a_timerElapsed k false (f_time - be k) f) (by rw [hc]; unfold cc_tEl; rw [if_neg (fun z => by cases z.1)]) ?_
        refine br_t cc_bf ?_
        refine ⟨hv, ?_⟩
        refine nm_r (e' := cc_tDo a_timerDone k false (f_time - be k) f) (by rw [hc]; unfold cc_tDo; rw [if_neg (fun z => by cases z.1)]) ?_
        exact h
      | true =>
        refine br_f cc_n10 ?_
        have c77 : wX_runTimer_77 post (nI k) (cc_bI true) f (f_time - be k) (if true = true ∧ 0 < cc_tSh (f_time - be k) f then cc_tSh (f_time - be k) f else 0) (nI k) f_time f_active f_running f_pending f_roundsBegun a_variables a_row a_inputs a_outputs (cc_tOn a_timerOn k true) be a_timerElapsed a_timerDone a_counterLast a_counterValue a_counterDone a_edgeLast a_edgeDone a_tokens a_lengths a_ends a_worths a_pendingPlaces a_pendingRounds a_pendingLimits := by
          refine ⟨hv, ?_⟩
          refine nm_r (e' := cc_tEl a_timerElapsed k true (f_time - be k) f) (by rw [hc]; rfl) ?_
          refine br_f cc_n10 ?_
          refine br_c (fun z => ?_) (fun z => ?_)
          · refine ⟨hv, ?_⟩
            refine nm_r (e' := cc_tDo a_timerDone k true (f_time - be k) f) (by rw [hc]; unfold cc_tDo; rw [if_neg (fun y => y.2 z)]) ?_
            exact h
          · refine ⟨hv, ?_⟩
            refine nm_r (e' := cc_tDo a_timerDone k true (f_time - be k) f) (by rw [hc]; unfold cc_tDo; rw [if_pos ⟨rfl, z⟩]) ?_
            exact h
        refine br_c (fun z => ?_) (fun z => ?_)
        · rw [if_neg (fun y => absurd z (Int32.not_le.mpr y.2))] at c77
          exact c77
        · rw [if_pos ⟨rfl, Int32.not_le.mp z⟩] at c77
          exact c77
    unfold cc_tSh at c55
    refine br_c (fun z => ?_) (fun z => ?_)
    · rw [if_pos z] at c55; exact c55
    · rw [if_neg z] at c55; exact c55
  cases e with
  | false =>
    refine br_t cc_bf ?_
    exact core a_timerBegin (if_neg (fun z => by cases z.1))
  | true =>
    refine br_f cc_n10 ⟨hv, ?_⟩
    rw [hc]
    refine br_c (fun z => ⟨hv, ?_⟩) (fun z => ?_)
    · refine nm_e ?_
      exact core _ (if_pos ⟨rfl, z⟩)
    · exact core a_timerBegin (if_neg (fun y => z y.2))

theorem cc_xcn {post : SX → Prop} {k : Nat} {e f : Bool} {g : Int32} (hk : k < 3)
    (h : post (f_time, f_active, f_running, f_pending, f_roundsBegun, a_variables, a_row, a_inputs, a_outputs, a_timerOn, a_timerBegin, a_timerElapsed, a_timerDone, upd a_counterLast k (cc_bI e), cc_cVa a_counterLast a_counterValue k e f, cc_cDo (cc_cVa a_counterLast a_counterValue k e f) a_counterDone k g, a_edgeLast, a_edgeDone, a_tokens, a_lengths, a_ends, a_worths, a_pendingPlaces, a_pendingRounds, a_pendingLimits)) :
    wpX_runCounter post (f_time, f_active, f_running, f_pending, f_roundsBegun, a_variables, a_row, a_inputs, a_outputs, a_timerOn, a_timerBegin, a_timerElapsed, a_timerDone, a_counterLast, a_counterValue, a_counterDone, a_edgeLast, a_edgeDone, a_tokens, a_lengths, a_ends, a_worths, a_pendingPlaces, a_pendingRounds, a_pendingLimits) (nI k) (cc_bI e) (cc_bI f) g := by
  have hv : vp_in (nI k) 3 := vp_in_nI hk (by omega)
  have hc : (nI k).toNatClampNeg = k := nI_clamp (by omega)
  have core : ∀ va : Nat → Int32, cc_cVa a_counterLast a_counterValue k e f = va → wX_runCounter_37 post (nI k) (cc_bI e) g f_time f_active f_running f_pending f_roundsBegun a_variables a_row a_inputs a_outputs a_timerOn a_timerBegin a_timerElapsed a_timerDone a_counterLast va a_counterDone a_edgeLast a_edgeDone a_tokens a_lengths a_ends a_worths a_pendingPlaces a_pendingRounds a_pendingLimits := by
    intro va hva
    rw [hva] at h
    refine ⟨hv, ?_⟩
    refine nm_r (e' := upd a_counterLast k (cc_bI e)) (by rw [hc, cc_vb]) ?_
    refine ⟨hv, ?_⟩
    rw [hc]
    refine br_c (fun z => ?_) (fun z => ?_)
    · refine ⟨hv, ?_⟩
      refine nm_r (e' := cc_cDo va a_counterDone k g) (by unfold cc_cDo; rw [if_pos z]) ?_
      exact h
    · refine ⟨hv, ?_⟩
      refine nm_r (e' := cc_cDo va a_counterDone k g) (by unfold cc_cDo; rw [if_neg z]) ?_
      exact h
  cases f with
  | true =>
    refine br_f cc_n10 ⟨hv, ?_⟩
    refine nm_e ?_
    rw [hc]
    exact core _ rfl
  | false =>
    refine br_t cc_bf ?_
    cases e with
    | false => exact br_t cc_bf (core a_counterValue (by unfold cc_cVa; rw [if_neg (fun z => by cases z), if_neg (fun z => by cases z.1)]))
    | true =>
      refine br_f cc_n10 ⟨hv, ?_⟩
      rw [hc]
      refine br_c (fun z => ⟨hv, hv, ?_⟩) (fun z => ?_)
      · refine nm_e ?_
        exact core _ (by unfold cc_cVa; rw [if_neg (fun z => by cases z), if_pos ⟨rfl, z⟩])
      · exact core a_counterValue (by unfold cc_cVa; rw [if_neg (fun z => by cases z), if_neg (fun y => z y.2)])

theorem cc_xed {post : SX → Prop} {k : Nat} {e : Bool} (hk : k < 3)
    (h : post (f_time, f_active, f_running, f_pending, f_roundsBegun, a_variables, a_row, a_inputs, a_outputs, a_timerOn, a_timerBegin, a_timerElapsed, a_timerDone, a_counterLast, a_counterValue, a_counterDone, upd a_edgeLast k (cc_bI e), cc_eDo a_edgeLast a_edgeDone k e, a_tokens, a_lengths, a_ends, a_worths, a_pendingPlaces, a_pendingRounds, a_pendingLimits)) : wpX_runEdge post (f_time, f_active, f_running, f_pending, f_roundsBegun, a_variables, a_row, a_inputs, a_outputs, a_timerOn, a_timerBegin, a_timerElapsed, a_timerDone, a_counterLast, a_counterValue, a_counterDone, a_edgeLast, a_edgeDone, a_tokens, a_lengths, a_ends, a_worths, a_pendingPlaces, a_pendingRounds, a_pendingLimits) (nI k) (cc_bI e) := by
  have hv : vp_in (nI k) 3 := vp_in_nI hk (by omega)
  have hc : (nI k).toNatClampNeg = k := nI_clamp (by omega)
  have c22 : ¬ (e = true ∧ a_edgeLast k = 0) → wX_runEdge_22 post (nI k) (cc_bI e) (nI k) f_time f_active f_running f_pending f_roundsBegun a_variables a_row a_inputs a_outputs a_timerOn a_timerBegin a_timerElapsed a_timerDone a_counterLast a_counterValue a_counterDone a_edgeLast a_edgeDone a_tokens a_lengths a_ends a_worths a_pendingPlaces a_pendingRounds a_pendingLimits := by
    intro z
    refine ⟨hv, ?_⟩
    refine nm_r (e' := cc_eDo a_edgeLast a_edgeDone k e) (by rw [hc]; unfold cc_eDo; rw [if_neg z]) ?_
    refine ⟨hv, ?_⟩
    refine nm_r (e' := upd a_edgeLast k (cc_bI e)) (by rw [hc, cc_vb]) ?_
    exact h
  cases e with
  | false => exact br_t cc_bf (c22 (fun z => by cases z.1))
  | true =>
    refine br_f cc_n10 ⟨hv, ?_⟩
    rw [hc]
    refine br_c (fun z => ⟨hv, ?_⟩) (fun z => c22 (fun y => z y.2))
    refine nm_r (e' := cc_eDo a_edgeLast a_edgeDone k true) (by unfold cc_eDo; rw [if_pos ⟨rfl, z⟩]) ?_
    refine ⟨hv, ?_⟩
    refine nm_r (e' := upd a_edgeLast k (cc_bI true)) (by rw [cc_vb]) ?_
    exact h

theorem cc_xpu {post : SX → Prop} {m : Nat} {x y z : Int32} (hm : m < 61)
    (h : post (f_time, f_active, f_running, nI (m + 1), f_roundsBegun, a_variables, a_row, a_inputs, a_outputs, a_timerOn, a_timerBegin, a_timerElapsed, a_timerDone, a_counterLast, a_counterValue, a_counterDone, a_edgeLast, a_edgeDone, a_tokens, a_lengths, a_ends, a_worths, upd a_pendingPlaces m x, upd a_pendingRounds m y, upd a_pendingLimits m z)) :
    wpX_push post (f_time, f_active, f_running, nI m, f_roundsBegun, a_variables, a_row, a_inputs, a_outputs, a_timerOn, a_timerBegin, a_timerElapsed, a_timerDone, a_counterLast, a_counterValue, a_counterDone, a_edgeLast, a_edgeDone, a_tokens, a_lengths, a_ends, a_worths, a_pendingPlaces, a_pendingRounds, a_pendingLimits) x y z := by
  have hv : vp_in (nI m) 61 := vp_in_nI hm (by omega)
  have hc : (nI m).toNatClampNeg = m := nI_clamp (by omega)
  refine br_f (cc_nle 61 m hm) ⟨hv, ?_⟩
  rw [hc]
  refine nm_e ⟨hv, ?_⟩
  refine nm_e ⟨hv, ?_⟩
  refine nm_e ?_
  refine nm_r (e' := nI (m + 1)) (nI_1 m) ?_
  exact h

theorem cc_m1n {m : Nat} (h : m < 2 ^ 31) : ¬ nI m = -1 := by
  intro e
  have := nI_pos h
  rw [e] at this
  exact this (by decide)

theorem cc_xll {post : SX → Prop} {L : List (Nat × Nat × Int32)} (hlen : L.length ≤ 60) (hcode : ∀ e, e ∈ L → e.2.1 ≤ 21)
    (hxs : cc_xs a_pendingPlaces a_pendingRounds a_pendingLimits L)
    (h : post (f_time, f_active, f_running, nI (cc_lv L).length, f_roundsBegun, a_variables, a_row, a_inputs, a_outputs, a_timerOn, a_timerBegin, a_timerElapsed, a_timerDone, a_counterLast, a_counterValue, a_counterDone, a_edgeLast, a_edgeDone, a_tokens, a_lengths, a_ends, a_worths, a_pendingPlaces, a_pendingRounds, a_pendingLimits)) :
    wX_leaveLoop_9 post f_time f_active f_running f_roundsBegun a_variables a_row a_inputs a_outputs a_timerOn a_timerBegin a_timerElapsed a_timerDone a_counterLast a_counterValue a_counterDone a_edgeLast a_edgeDone a_tokens a_lengths a_ends a_worths a_pendingPlaces a_pendingRounds a_pendingLimits (L.length + 2) 0 (nI L.length + (-1)) (nI L.length) := by
  induction L with
  | nil => exact br_t (by decide) h
  | cons e L ih =>
    simp only [List.length_cons] at hlen ⊢
    rw [pk_m1]
    have hc : (nI L.length).toNatClampNeg = L.length := nI_clamp (by omega)
    refine br_f (cc_nlt L.length 0 (by omega)) ?_
    refine br_t rfl ⟨vp_in_nI (by omega) (by omega), ?_⟩
    have h1 := hxs.2.1
    have h2 := hcode e (List.mem_cons_self)
    rw [hc, h1]
    by_cases z : e.2.1 = 0
    · refine br_t (by rw [z]; decide) ?_
      refine nm_e ?_
      refine ih (by omega) (fun x hx => hcode x (List.mem_cons_of_mem _ hx)) hxs.2.2.2 ?_
      simp only [cc_lv, z, if_true] at h
      exact h
    · refine br_f (by rw [cc_s1 (by omega)]; exact cc_m1n (by omega)) ?_
      refine nm_e ?_
      simp only [cc_lv, z, if_false] at h
      refine br_c (fun y => h) (fun y => br_f cc_n10 h)

theorem cc_xle {post : SX → Prop} {L : List (Nat × Nat × Int32)} (hlen : L.length ≤ 60) (hcode : ∀ e, e ∈ L → e.2.1 ≤ 21)
    (hxs : cc_xs a_pendingPlaces a_pendingRounds a_pendingLimits L)
    (h : post (f_time, f_active, f_running, nI (cc_lv L).length, f_roundsBegun, a_variables, a_row, a_inputs, a_outputs, a_timerOn, a_timerBegin, a_timerElapsed, a_timerDone, a_counterLast, a_counterValue, a_counterDone, a_edgeLast, a_edgeDone, a_tokens, a_lengths, a_ends, a_worths, a_pendingPlaces, a_pendingRounds, a_pendingLimits)) : wpX_leaveLoop post (f_time, f_active, f_running, nI L.length, f_roundsBegun, a_variables, a_row, a_inputs, a_outputs, a_timerOn, a_timerBegin, a_timerElapsed, a_timerDone, a_counterLast, a_counterValue, a_counterDone, a_edgeLast, a_edgeDone, a_tokens, a_lengths, a_ends, a_worths, a_pendingPlaces, a_pendingRounds, a_pendingLimits) := by
  unfold wpX_leaveLoop
  dsimp only
  refine nm_r (e' := nI L.length + (-1)) (cc_sm1 _) ?_
  exact ⟨L.length + 2, cc_xll hlen hcode hxs h⟩
end

section
variable {f_time f_active f_running f_open f_depth f_tasks f_begun : Int32} {a_variables a_cells a_inputs a_outputs a_timerOn a_timerBegin a_timerElapsed a_timerDone a_counterLast a_counterValue a_counterDone a_edgeLast a_edgeDone a_sizes a_tokens a_ends a_wants a_numbers a_taskKind a_taskAt a_taskRounds a_taskLimit : Nat → Int32}
theorem cc_yti {post : SY → Prop} {k : Nat} {e : Bool} {f : Int32} (hk : k < 3) (hb : cc_b01 a_timerOn)
    (h : post (f_time, f_active, f_running, f_open, f_depth, f_tasks, f_begun, a_variables, a_cells, a_inputs, a_outputs, cc_tOn a_timerOn k e, cc_tBe a_timerOn a_timerBegin k e f_time, cc_tEl a_timerElapsed k e (f_time - cc_tBe a_timerOn a_timerBegin k e f_time k) f, cc_tDo a_timerDone k e (f_time - cc_tBe a_timerOn a_timerBegin k e f_time k) f, a_counterLast, a_counterValue, a_counterDone, a_edgeLast, a_edgeDone, a_sizes, a_tokens, a_ends, a_wants, a_numbers, a_taskKind, a_taskAt, a_taskRounds, a_taskLimit)) :
    wpY_timer post (f_time, f_active, f_running, f_open, f_depth, f_tasks, f_begun, a_variables, a_cells, a_inputs, a_outputs, a_timerOn, a_timerBegin, a_timerElapsed, a_timerDone, a_counterLast, a_counterValue, a_counterDone, a_edgeLast, a_edgeDone, a_sizes, a_tokens, a_ends, a_wants, a_numbers, a_taskKind, a_taskAt, a_taskRounds, a_taskLimit) (nI k) (cc_bI e) f := by
  have hv : vp_in (nI k) 3 := vp_in_nI hk (by omega)
  have hc : (nI k).toNatClampNeg = k := nI_clamp (by omega)
  cases e with
  | false =>
    have e1 : cc_tBe a_timerOn a_timerBegin k false f_time = a_timerBegin := if_neg (fun z => by cases z.1)
    rw [e1] at h
    refine br_t cc_bf ⟨hv, ?_⟩
    refine nm_r (e' := cc_tOn a_timerOn k false) (by rw [hc, cc_vb0]; rfl) ⟨hv, ?_⟩
    refine nm_r (e' := cc_tEl a_timerElapsed k false (f_time - a_timerBegin k) f) (by rw [hc]; unfold cc_tEl; rw [if_neg (fun z => by cases z.1)]) ⟨hv, ?_⟩
    refine nm_r (e' := cc_tDo a_timerDone k false (f_time - a_timerBegin k) f) (by rw [hc]; unfold cc_tDo; rw [if_neg (fun z => by cases z.1)]) ?_
    exact h
  | true =>
    have core : ∀ be on : Nat → Int32, cc_tBe a_timerOn a_timerBegin k true f_time = be → cc_tOn a_timerOn k true = on → wY_timer_52 post (nI k) f f_time f_active f_running f_open f_depth f_tasks f_begun a_variables a_cells a_inputs a_outputs on be a_timerElapsed a_timerDone a_counterLast a_counterValue a_counterDone a_edgeLast a_edgeDone a_sizes a_tokens a_ends a_wants a_numbers a_taskKind a_taskAt a_taskRounds a_taskLimit := by
      intro be on hbe hon
      rw [hbe, hon] at h
      refine ⟨hv, ?_⟩
      refine nm_r (e' := f_time - be k) (by rw [hc]) ?_
      have c77 : wY_timer_77 post (nI k) f (f_time - be k) (cc_tSh (f_time - be k) f) f_time f_active f_running f_open f_depth f_tasks f_begun a_variables a_cells a_inputs a_outputs on be a_timerElapsed a_timerDone a_counterLast a_counterValue a_counterDone a_edgeLast a_edgeDone a_sizes a_tokens a_ends a_wants a_numbers a_taskKind a_taskAt a_taskRounds a_taskLimit := by
        have c95 : wY_timer_95 post (nI k) f (f_time - be k) (if true = true ∧ 0 < cc_tSh (f_time - be k) f then cc_tSh (f_time - be k) f else 0) (nI k) f_time f_active f_running f_open f_depth f_tasks f_begun a_variables a_cells a_inputs a_outputs on be a_timerElapsed a_timerDone a_counterLast a_counterValue a_counterDone a_edgeLast a_edgeDone a_sizes a_tokens a_ends a_wants a_numbers a_taskKind a_taskAt a_taskRounds a_taskLimit := by
          refine ⟨hv, ?_⟩
          refine nm_r (e' := cc_tEl a_timerElapsed k true (f_time - be k) f) (by rw [hc]; rfl) ?_
          refine br_c (fun z => br_t rfl ⟨hv, ?_⟩) (fun z => br_f cc_n10 ⟨hv, ?_⟩)
          · refine nm_r (e' := cc_tDo a_timerDone k true (f_time - be k) f) (by rw [hc]; unfold cc_tDo; rw [if_neg (fun y => y.2 z)]) ?_
            exact h
          · refine nm_r (e' := cc_tDo a_timerDone k true (f_time - be k) f) (by rw [hc]; unfold cc_tDo; rw [if_pos ⟨rfl, z⟩]) ?_
            exact h
        refine br_c (fun z => ?_) (fun z => ?_)
        · by_cases y : 0 < cc_tSh (f_time - be k) f
          · rw [if_pos ⟨rfl, y⟩] at c95; exact c95
          · rw [if_neg (fun x => y x.2)] at c95
            have ee : cc_tSh (f_time - be k) f = 0 := Int32.le_antisymm (Int32.not_lt.mp y) z
            rw [ee]; exact c95
        · rw [if_neg (fun x => z (Int32.le_of_lt x.2))] at c95
          exact c95
      unfold cc_tSh at c77
      refine br_c (fun z => ?_) (fun z => ?_)
      · rw [if_pos z] at c77; exact c77
      · rw [if_neg z] at c77; exact c77
    refine br_f cc_n10 ⟨hv, ?_⟩
    rw [hc]
    refine br_c (fun z => ⟨hv, ?_⟩) (fun z => ?_)
    · refine nm_r (e' := cc_tOn a_timerOn k true) (by rw [cc_vb1]; rfl) ⟨hv, ?_⟩
      refine nm_e ?_
      exact core _ _ (if_pos ⟨rfl, z⟩) rfl
    · exact core a_timerBegin a_timerOn (if_neg (fun y => z y.2)) (cc_u_id ((hb k).resolve_left z))

theorem cc_ycn {post : SY → Prop} {k : Nat} {e f : Bool} {g : Int32} (hk : k < 3)
    (h : post (f_time, f_active, f_running, f_open, f_depth, f_tasks, f_begun, a_variables, a_cells, a_inputs, a_outputs, a_timerOn, a_timerBegin, a_timerElapsed, a_timerDone, upd a_counterLast k (cc_bI e), cc_cVa a_counterLast a_counterValue k e f, cc_cDo (cc_cVa a_counterLast a_counterValue k e f) a_counterDone k g, a_edgeLast, a_edgeDone, a_sizes, a_tokens, a_ends, a_wants, a_numbers, a_taskKind, a_taskAt, a_taskRounds, a_taskLimit)) :
    wpY_counter post (f_time, f_active, f_running, f_open, f_depth, f_tasks, f_begun, a_variables, a_cells, a_inputs, a_outputs, a_timerOn, a_timerBegin, a_timerElapsed, a_timerDone, a_counterLast, a_counterValue, a_counterDone, a_edgeLast, a_edgeDone, a_sizes, a_tokens, a_ends, a_wants, a_numbers, a_taskKind, a_taskAt, a_taskRounds, a_taskLimit) (nI k) (cc_bI e) (cc_bI f) g := by
  have hv : vp_in (nI k) 3 := vp_in_nI hk (by omega)
  have hc : (nI k).toNatClampNeg = k := nI_clamp (by omega)
  have core : ∀ va : Nat → Int32, cc_cVa a_counterLast a_counterValue k e f = va → wY_counter_37 post (nI k) (cc_bI e) g f_time f_active f_running f_open f_depth f_tasks f_begun a_variables a_cells a_inputs a_outputs a_timerOn a_timerBegin a_timerElapsed a_timerDone a_counterLast va a_counterDone a_edgeLast a_edgeDone a_sizes a_tokens a_ends a_wants a_numbers a_taskKind a_taskAt a_taskRounds a_taskLimit := by
    intro va hva
    rw [hva] at h
    refine ⟨hv, ?_⟩
    refine nm_r (e' := upd a_counterLast k (cc_bI e)) (by rw [hc, cc_vb]) ?_
    refine ⟨hv, ?_⟩
    rw [hc]
    refine br_c (fun z => br_t rfl ⟨hv, ?_⟩) (fun z => br_f cc_n10 ⟨hv, ?_⟩)
    · refine nm_r (e' := cc_cDo va a_counterDone k g) (by rw [hc]; unfold cc_cDo; rw [if_pos z]) ?_
      exact h
    · refine nm_r (e' := cc_cDo va a_counterDone k g) (by rw [hc]; unfold cc_cDo; rw [if_neg z]) ?_
      exact h
  cases f with
  | true =>
    refine br_f cc_n10 ⟨hv, ?_⟩
    refine nm_e ?_
    rw [hc]
    exact core _ rfl
  | false =>
    refine br_t cc_bf ?_
    cases e with
    | false => exact br_t cc_bf (core a_counterValue (by unfold cc_cVa; rw [if_neg (fun z => by cases z), if_neg (fun z => by cases z.1)]))
    | true =>
      refine br_f cc_n10 ⟨hv, ?_⟩
      rw [hc]
      refine br_c (fun z => ⟨hv, hv, ?_⟩) (fun z => ?_)
      · refine nm_e ?_
        exact core _ (by unfold cc_cVa; rw [if_neg (fun z => by cases z), if_pos ⟨rfl, z⟩])
      · exact core a_counterValue (by unfold cc_cVa; rw [if_neg (fun z => by cases z), if_neg (fun y => z y.2)])

theorem cc_yed {post : SY → Prop} {k : Nat} {e : Bool} (hk : k < 3)
    (h : post (f_time, f_active, f_running, f_open, f_depth, f_tasks, f_begun, a_variables, a_cells, a_inputs, a_outputs, a_timerOn, a_timerBegin, a_timerElapsed, a_timerDone, a_counterLast, a_counterValue, a_counterDone, upd a_edgeLast k (cc_bI e), cc_eDo a_edgeLast a_edgeDone k e, a_sizes, a_tokens, a_ends, a_wants, a_numbers, a_taskKind, a_taskAt, a_taskRounds, a_taskLimit)) : wpY_edge post (f_time, f_active, f_running, f_open, f_depth, f_tasks, f_begun, a_variables, a_cells, a_inputs, a_outputs, a_timerOn, a_timerBegin, a_timerElapsed, a_timerDone, a_counterLast, a_counterValue, a_counterDone, a_edgeLast, a_edgeDone, a_sizes, a_tokens, a_ends, a_wants, a_numbers, a_taskKind, a_taskAt, a_taskRounds, a_taskLimit) (nI k) (cc_bI e) := by
  have hv : vp_in (nI k) 3 := vp_in_nI hk (by omega)
  have hc : (nI k).toNatClampNeg = k := nI_clamp (by omega)
  have c23 : ¬ (e = true ∧ a_edgeLast k = 0) → wY_edge_23 post (nI k) (cc_bI e) (nI k) f_time f_active f_running f_open f_depth f_tasks f_begun a_variables a_cells a_inputs a_outputs a_timerOn a_timerBegin a_timerElapsed a_timerDone a_counterLast a_counterValue a_counterDone a_edgeLast a_edgeDone a_sizes a_tokens a_ends a_wants a_numbers a_taskKind a_taskAt a_taskRounds a_taskLimit := by
    intro z
    refine br_t rfl ⟨hv, ?_⟩
    refine nm_r (e' := cc_eDo a_edgeLast a_edgeDone k e) (by rw [hc]; unfold cc_eDo; rw [if_neg z]) ?_
    refine ⟨hv, ?_⟩
    refine nm_r (e' := upd a_edgeLast k (cc_bI e)) (by rw [hc, cc_vb]) ?_
    exact h
  cases e with
  | false => exact br_t cc_bf (c23 (fun z => by cases z.1))
  | true =>
    refine br_f cc_n10 ⟨hv, ?_⟩
    rw [hc]
    refine br_c (fun z => br_f cc_n10 ⟨hv, ?_⟩) (fun z => c23 (fun y => z y.2))
    refine nm_r (e' := cc_eDo a_edgeLast a_edgeDone k true) (by rw [hc]; unfold cc_eDo; rw [if_pos ⟨rfl, z⟩]) ?_
    refine ⟨hv, ?_⟩
    refine nm_r (e' := upd a_edgeLast k (cc_bI true)) (by rw [hc, cc_vb]) ?_
    exact h

theorem cc_ytd {post : SY → Prop} {m : Nat} {x y z u : Int32} (hm : m < 256)
    (h : post (f_time, f_active, f_running, f_open, f_depth, nI (m + 1), f_begun, a_variables, a_cells, a_inputs, a_outputs, a_timerOn, a_timerBegin, a_timerElapsed, a_timerDone, a_counterLast, a_counterValue, a_counterDone, a_edgeLast, a_edgeDone, a_sizes, a_tokens, a_ends, a_wants, a_numbers, upd a_taskKind m x, upd a_taskAt m y, upd a_taskRounds m z, upd a_taskLimit m u)) :
    wpY_toDo post (f_time, f_active, f_running, f_open, f_depth, nI m, f_begun, a_variables, a_cells, a_inputs, a_outputs, a_timerOn, a_timerBegin, a_timerElapsed, a_timerDone, a_counterLast, a_counterValue, a_counterDone, a_edgeLast, a_edgeDone, a_sizes, a_tokens, a_ends, a_wants, a_numbers, a_taskKind, a_taskAt, a_taskRounds, a_taskLimit) x y z u := by
  have hv : vp_in (nI m) 256 := vp_in_nI hm (by omega)
  have hc : (nI m).toNatClampNeg = m := nI_clamp (by omega)
  refine ⟨hv, ?_⟩
  rw [hc]
  refine nm_e ⟨hv, ?_⟩
  refine nm_e ⟨hv, ?_⟩
  refine nm_e ⟨hv, ?_⟩
  refine nm_e ?_
  refine nm_r (e' := nI (m + 1)) (nI_1 m) ?_
  exact h

theorem cc_yll {post : SY → Prop} {a : Nat} {L : List (Nat × Nat × Int32)} (hlen : L.length ≤ 60) (hn1 : cc_n1 L)
    (hys : cc_ys a a_taskKind a_taskAt a_taskRounds a_taskLimit L)
    (h : post (f_time, f_active, f_running, f_open, f_depth, nI (cc_lv L).length, f_begun, a_variables, a_cells, a_inputs, a_outputs, a_timerOn, a_timerBegin, a_timerElapsed, a_timerDone, a_counterLast, a_counterValue, a_counterDone, a_edgeLast, a_edgeDone, a_sizes, a_tokens, a_ends, a_wants, a_numbers, a_taskKind, a_taskAt, a_taskRounds, a_taskLimit)) :
    wY_leave_2 post f_time f_active f_running f_open f_depth f_begun a_variables a_cells a_inputs a_outputs a_timerOn a_timerBegin a_timerElapsed a_timerDone a_counterLast a_counterValue a_counterDone a_edgeLast a_edgeDone a_sizes a_tokens a_ends a_wants a_numbers a_taskKind a_taskAt a_taskRounds a_taskLimit (L.length + 2) 0 (nI L.length) := by
  induction L with
  | nil => exact br_t (by decide) h
  | cons e L ih =>
    simp only [List.length_cons] at hlen ⊢
    have hc : (nI L.length).toNatClampNeg = L.length := nI_clamp (by omega)
    refine br_f (cc_nle (L.length + 1) 0 (by omega)) ?_
    refine br_t rfl ?_
    refine nm_r (e' := nI L.length) (nI_pred _) ⟨vp_in_nI (by omega) (by omega), ?_⟩
    have h1 := hys.1
    have h2 := hn1 e (List.mem_cons_self)
    rw [hc, h1]
    by_cases z : e.2.1 = 0
    · refine br_f (by rw [z]; decide) ?_
      refine ih (by omega) (fun x hx => hn1 x (List.mem_cons_of_mem _ hx)) hys.2.2.2.2 ?_
      simp only [cc_lv, z, if_true] at h
      exact h
    · refine br_t (by unfold cc_yk; rw [if_neg z, if_neg h2]) ?_
      simp only [cc_lv, z, if_false] at h
      refine br_c (fun y => h) (fun y => br_f cc_n10 h)

theorem cc_yle {post : SY → Prop} {a : Nat} {L : List (Nat × Nat × Int32)} (hlen : L.length ≤ 60) (hn1 : cc_n1 L)
    (hys : cc_ys a a_taskKind a_taskAt a_taskRounds a_taskLimit L)
    (h : post (f_time, f_active, f_running, f_open, f_depth, nI (cc_lv L).length, f_begun, a_variables, a_cells, a_inputs, a_outputs, a_timerOn, a_timerBegin, a_timerElapsed, a_timerDone, a_counterLast, a_counterValue, a_counterDone, a_edgeLast, a_edgeDone, a_sizes, a_tokens, a_ends, a_wants, a_numbers, a_taskKind, a_taskAt, a_taskRounds, a_taskLimit)) : wpY_leave post (f_time, f_active, f_running, f_open, f_depth, nI L.length, f_begun, a_variables, a_cells, a_inputs, a_outputs, a_timerOn, a_timerBegin, a_timerElapsed, a_timerDone, a_counterLast, a_counterValue, a_counterDone, a_edgeLast, a_edgeDone, a_sizes, a_tokens, a_ends, a_wants, a_numbers, a_taskKind, a_taskAt, a_taskRounds, a_taskLimit) :=
  ⟨L.length + 2, cc_yll hlen hn1 hys h⟩
end
end
section
def cc_XC (T : Nat → Nat) (n a : Nat) (tk en : Nat → Int32) : Prop :=
  cc_wh T n ∧ a < 2 ∧ (∀ i, i < n → tk (a * 61 + i) = nI (T i)) ∧ cc_eb en ∧ (∀ i, i < n → en i = nI (cc_en T i))

def cc_tr (e : Int32) : Bool := decide (e ≠ 0)
theorem cc_tr0 {e : Int32} (h : e = 0) : cc_tr e = false := by unfold cc_tr; simp [h]
theorem cc_tr1 {e : Int32} (h : ¬ e = 0) : cc_tr e = true := by unfold cc_tr; simp [h]

theorem cc_spst {t : Nat} (h : cc_st t = true) (h0 : cc_sp t = 0) (k : Nat) : cc_ts t k = false := by
  have a := cc_st_r h
  have b : ¬ (t = 1 ∨ t = 35) ∧ ¬ t = 56 ∧ ¬ (t = 36 ∨ t = 37 ∨ (40 ≤ t ∧ t < 56)) := by
    unfold cc_sp at h0
    repeat' (split at h0)
    all_goals omega
  unfold cc_ts
  rw [if_neg (by omega), if_neg (by omega), if_neg (by omega)]
  simp only [decide_eq_false_iff_not]
  omega

theorem cc_exk {T : Nat → Nat} {n q k : Nat} (w : cc_wh T n) (hq : q < n) (hk : k < cc_ar (T q)) (hs : cc_ts (T q) k = false) : cc_ex (T (cc_nx T k (q + 1))) = true :=
  cc_kind w (cc_nx_lt w hq hk) ((cc_part w hq hk).trans hs)

section
variable {f_time f_active f_running f_pending f_roundsBegun : Int32} {a_variables a_row a_inputs a_outputs a_timerOn a_timerBegin a_timerElapsed a_timerDone a_counterLast a_counterValue a_counterDone a_edgeLast a_edgeDone a_tokens a_lengths a_ends a_worths a_pendingPlaces a_pendingRounds a_pendingLimits : Nat → Int32}
theorem cc_xsim {post : SX → Prop} {T : Nat → Nat} {n a q : Nat} (C : cc_XC T n a a_tokens a_ends) (hq : q < n) (hst : cc_st (T q) = true) (hsp : cc_sp (T q) = 0)
    (h : ∀ w', wX_carryOutSimple_73 post (nI (T q)) (if 0 < cc_ep (T q) then (cc_vl T n (cc_lf a_variables a_inputs a_outputs a_timerDone a_timerElapsed a_counterValue a_counterDone a_edgeDone) a_row) (q + 1) else 0) (if 1 < cc_ep (T q) then (cc_vl T n (cc_lf a_variables a_inputs a_outputs a_timerDone a_timerElapsed a_counterValue a_counterDone a_edgeDone) a_row) (cc_en T (q + 1)) else 0) (if 2 < cc_ep (T q) then (cc_vl T n (cc_lf a_variables a_inputs a_outputs a_timerDone a_timerElapsed a_counterValue a_counterDone a_edgeDone) a_row) (cc_en T (cc_en T (q + 1))) else 0) f_time (nI a) f_running f_pending f_roundsBegun a_variables a_row a_inputs a_outputs a_timerOn a_timerBegin a_timerElapsed a_timerDone a_counterLast a_counterValue a_counterDone a_edgeLast a_edgeDone a_tokens a_lengths a_ends w' a_pendingPlaces a_pendingRounds a_pendingLimits) :
    wpX_carryOutSimple post (f_time, nI a, f_running, f_pending, f_roundsBegun, a_variables, a_row, a_inputs, a_outputs, a_timerOn, a_timerBegin, a_timerElapsed, a_timerDone, a_counterLast, a_counterValue, a_counterDone, a_edgeLast, a_edgeDone, a_tokens, a_lengths, a_ends, a_worths, a_pendingPlaces, a_pendingRounds, a_pendingLimits) (nI q) (nI (T q)) := by
  obtain ⟨w, ha, htok, hb, hends⟩ := C
  have hn := w.2.2
  have hva : cc_va (T q) := Or.inl hst
  have ht := cc_va_lt hva
  have h5 := cc_epsp hva
  have h4 := cc_ar_le (T q)
  have hex : ∀ k, k < cc_ar (T q) → cc_ex (T (cc_nx T k (q + 1))) = true := fun k hk => cc_exk w hq hk (cc_spst hst hsp k)
  obtain ⟨s, hs, es⟩ := hb (q + 1) (by omega)
  obtain ⟨r, hr, er⟩ := hb s (by omega)
  have S1 : 0 < cc_ep (T q) → s = cc_en T (q + 1) := fun z => by
    have l := cc_nx_lt w hq (show 0 < cc_ar (T q) by omega)
    have l2 := cc_en_le w l
    have e := hends (q + 1) l
    rw [es, nI_eq (by omega) (by simp only [cc_nx] at l2; omega)] at e
    exact e
  have S2 : 1 < cc_ep (T q) → r = cc_en T (cc_en T (q + 1)) := fun z => by
    have l := cc_nx_lt w hq (show 1 < cc_ar (T q) by omega)
    have l2 := cc_en_le w l
    have e := hends (cc_en T (q + 1)) l
    rw [← S1 (by omega), er, nI_eq (by omega) (by simp only [cc_nx] at l2; rw [S1 (by omega)]; omega)] at e
    rw [e, S1 (by omega)]
  unfold wpX_carryOutSimple
  dsimp only
  refine cc_xep (t := T q) (by omega) (fun k hk => ?_)
  rw [hk] at h
  rw [nI_1]
  refine ⟨vp_in_nI (by omega) (by omega), ?_⟩
  refine nm_r (e' := nI s) (by rw [nI_clamp (by omega), es]) ?_
  refine ⟨vp_in_nI (by omega) (by omega), ?_⟩
  refine nm_r (e' := nI r) (by rw [nI_clamp (by omega), er]) ?_
  refine pk_le k 0 (fun z => ?_) (fun z => ?_)
  · refine br_t (cc_le k 1 (by omega)) ?_
    refine br_t (cc_le k 2 (by omega)) ?_
    have := h a_worths
    rw [if_neg (by omega), if_neg (by omega), if_neg (by omega)] at this
    exact this
  · refine cc_xv w ha (cc_nx_lt w hq (show 0 < cc_ar (T q) by omega)) (hex 0 (by omega)) htok hb hends (fun w1 => ?_)
    refine pk_le k 1 (fun z1 => ?_) (fun z1 => ?_)
    · refine br_t (cc_le k 2 (by omega)) ?_
      have := h w1
      rw [if_pos (by omega), if_neg (by omega), if_neg (by omega)] at this
      exact this
    · rw [S1 (by omega)]
      refine cc_xv w ha (cc_nx_lt w hq (show 1 < cc_ar (T q) by omega)) (hex 1 (by omega)) htok hb hends (fun w2 => ?_)
      refine pk_le k 2 (fun z2 => ?_) (fun z2 => ?_)
      · have := h w2
        rw [if_pos (by omega), if_pos (by omega), if_neg (by omega)] at this
        exact this
      · rw [S2 (by omega)]
        refine cc_xv w ha (cc_nx_lt w hq (show 2 < cc_ar (T q) by omega)) (hex 2 (by omega)) htok hb hends (fun w3 => ?_)
        have := h w3
        rw [if_pos (by omega), if_pos (by omega), if_pos (by omega)] at this
        exact this

theorem cc_x73_set {post : SX → Prop} {t : Nat} {e f g : Int32} (h1 : 10 ≤ t) (h2 : t ≤ 25) (h : post (f_time, f_active, f_running, f_pending, f_roundsBegun, upd a_variables (t - 10) e, a_row, a_inputs, a_outputs, a_timerOn, a_timerBegin, a_timerElapsed, a_timerDone, a_counterLast, a_counterValue, a_counterDone, a_edgeLast, a_edgeDone, a_tokens, a_lengths, a_ends, a_worths, a_pendingPlaces, a_pendingRounds, a_pendingLimits)) : wX_carryOutSimple_73 post (nI t) e f g f_time f_active f_running f_pending f_roundsBegun a_variables a_row a_inputs a_outputs a_timerOn a_timerBegin a_timerElapsed a_timerDone a_counterLast a_counterValue a_counterDone a_edgeLast a_edgeDone a_tokens a_lengths a_ends a_worths a_pendingPlaces a_pendingRounds a_pendingLimits := by
  have hT := cc_tI (show t < 2147483648 by omega)
  repeat (first | refine br_t (by simp only [Int32.lt_iff_toInt_lt, Int32.le_iff_toInt_le, ← Int32.toInt_inj, hT, Int32.reduceToInt]; omega) ?_ | refine br_f (by simp only [Int32.lt_iff_toInt_lt, Int32.le_iff_toInt_le, ← Int32.toInt_inj, hT, Int32.reduceToInt]; omega) ?_)
  refine ⟨cc_sV 10 16 (by omega) (by omega) (by omega), ?_⟩
  exact nm_r (e' := upd a_variables (t - 10) e) (congrArg (fun k => upd a_variables k e) (cc_sI 10 (by omega) (by omega))) h

theorem cc_x73_out {post : SX → Prop} {t : Nat} {e f g : Int32} (h1 : 30 ≤ t) (h2 : t ≤ 33) (h : post (f_time, f_active, f_running, f_pending, f_roundsBegun, a_variables, a_row, a_inputs, upd a_outputs (t - 30) e, a_timerOn, a_timerBegin, a_timerElapsed, a_timerDone, a_counterLast, a_counterValue, a_counterDone, a_edgeLast, a_edgeDone, a_tokens, a_lengths, a_ends, a_worths, a_pendingPlaces, a_pendingRounds, a_pendingLimits)) : wX_carryOutSimple_73 post (nI t) e f g f_time f_active f_running f_pending f_roundsBegun a_variables a_row a_inputs a_outputs a_timerOn a_timerBegin a_timerElapsed a_timerDone a_counterLast a_counterValue a_counterDone a_edgeLast a_edgeDone a_tokens a_lengths a_ends a_worths a_pendingPlaces a_pendingRounds a_pendingLimits := by
  have hT := cc_tI (show t < 2147483648 by omega)
  repeat (first | refine br_t (by simp only [Int32.lt_iff_toInt_lt, Int32.le_iff_toInt_le, ← Int32.toInt_inj, hT, Int32.reduceToInt]; omega) ?_ | refine br_f (by simp only [Int32.lt_iff_toInt_lt, Int32.le_iff_toInt_le, ← Int32.toInt_inj, hT, Int32.reduceToInt]; omega) ?_)
  refine ⟨cc_sV 30 4 (by omega) (by omega) (by omega), ?_⟩
  exact nm_r (e' := upd a_outputs (t - 30) e) (congrArg (fun k => upd a_outputs k e) (cc_sI 30 (by omega) (by omega))) h

theorem cc_x73_cel {post : SX → Prop} {e f g : Int32} (h : post (f_time, f_active, f_running, f_pending, f_roundsBegun, a_variables, upd a_row (e &&& 7).toNatClampNeg f, a_inputs, a_outputs, a_timerOn, a_timerBegin, a_timerElapsed, a_timerDone, a_counterLast, a_counterValue, a_counterDone, a_edgeLast, a_edgeDone, a_tokens, a_lengths, a_ends, a_worths, a_pendingPlaces, a_pendingRounds, a_pendingLimits)) : wX_carryOutSimple_73 post (nI 34) e f g f_time f_active f_running f_pending f_roundsBegun a_variables a_row a_inputs a_outputs a_timerOn a_timerBegin a_timerElapsed a_timerDone a_counterLast a_counterValue a_counterDone a_edgeLast a_edgeDone a_tokens a_lengths a_ends a_worths a_pendingPlaces a_pendingRounds a_pendingLimits := by
  refine br_f (by decide) (br_f (by decide) (br_t (by decide) ?_))
  refine br_f (by decide) (br_t (by decide) ?_)
  refine br_t (by decide) ⟨cc_and7 _, ?_⟩
  exact nm_e h

theorem cc_x73_two {post : SX → Prop} {e f g : Int32} (h : post (f_time, f_active, f_running, f_pending, f_roundsBegun, a_variables, a_row, a_inputs, a_outputs, a_timerOn, a_timerBegin, a_timerElapsed, a_timerDone, a_counterLast, a_counterValue, a_counterDone, a_edgeLast, a_edgeDone, a_tokens, a_lengths, a_ends, a_worths, a_pendingPlaces, a_pendingRounds, a_pendingLimits)) : wX_carryOutSimple_73 post (nI 2) e f g f_time f_active f_running f_pending f_roundsBegun a_variables a_row a_inputs a_outputs a_timerOn a_timerBegin a_timerElapsed a_timerDone a_counterLast a_counterValue a_counterDone a_edgeLast a_edgeDone a_tokens a_lengths a_ends a_worths a_pendingPlaces a_pendingRounds a_pendingLimits := by
  repeat (first | refine br_t (by decide) ?_ | refine br_f (by decide) ?_)
  exact h

theorem cc_x73_tim {post : SX → Prop} {t : Nat} {e f g : Int32} (h1 : 60 ≤ t) (h2 : t ≤ 62)
    (h : post (f_time, f_active, f_running, f_pending, f_roundsBegun, a_variables, a_row, a_inputs, a_outputs, cc_tOn a_timerOn (t - 60) (cc_tr e), cc_tBe a_timerOn a_timerBegin (t - 60) (cc_tr e) f_time, cc_tEl a_timerElapsed (t - 60) (cc_tr e) (f_time - cc_tBe a_timerOn a_timerBegin (t - 60) (cc_tr e) f_time (t - 60)) f, cc_tDo a_timerDone (t - 60) (cc_tr e) (f_time - cc_tBe a_timerOn a_timerBegin (t - 60) (cc_tr e) f_time (t - 60)) f, a_counterLast, a_counterValue, a_counterDone, a_edgeLast, a_edgeDone, a_tokens, a_lengths, a_ends, a_worths, a_pendingPlaces, a_pendingRounds, a_pendingLimits)) :
    wX_carryOutSimple_73 post (nI t) e f g f_time f_active f_running f_pending f_roundsBegun a_variables a_row a_inputs a_outputs a_timerOn a_timerBegin a_timerElapsed a_timerDone a_counterLast a_counterValue a_counterDone a_edgeLast a_edgeDone a_tokens a_lengths a_ends a_worths a_pendingPlaces a_pendingRounds a_pendingLimits := by
  have hT := cc_tI (show t < 2147483648 by omega)
  repeat (first | refine br_t (by simp only [Int32.lt_iff_toInt_lt, Int32.le_iff_toInt_le, ← Int32.toInt_inj, hT, Int32.reduceToInt]; omega) ?_ | refine br_f (by simp only [Int32.lt_iff_toInt_lt, Int32.le_iff_toInt_le, ← Int32.toInt_inj, hT, Int32.reduceToInt]; omega) ?_)
  rw [show nI t - 60 = nI (t - 60) from pk_sub (b := 60) h1]
  refine br_c (fun z => ?_) (fun z => ?_)
  · rw [cc_tr0 z] at h; exact cc_xti (e := false) (by omega) h
  · rw [cc_tr1 z] at h; exact cc_xti (e := true) (by omega) h

theorem cc_x73_cnt {post : SX → Prop} {t : Nat} {e f g : Int32} (h1 : 63 ≤ t) (h2 : t ≤ 65)
    (h : post (f_time, f_active, f_running, f_pending, f_roundsBegun, a_variables, a_row, a_inputs, a_outputs, a_timerOn, a_timerBegin, a_timerElapsed, a_timerDone, upd a_counterLast (t - 63) (cc_bI (cc_tr e)), cc_cVa a_counterLast a_counterValue (t - 63) (cc_tr e) (cc_tr f), cc_cDo (cc_cVa a_counterLast a_counterValue (t - 63) (cc_tr e) (cc_tr f)) a_counterDone (t - 63) g, a_edgeLast, a_edgeDone, a_tokens, a_lengths, a_ends, a_worths, a_pendingPlaces, a_pendingRounds, a_pendingLimits)) :
    wX_carryOutSimple_73 post (nI t) e f g f_time f_active f_running f_pending f_roundsBegun a_variables a_row a_inputs a_outputs a_timerOn a_timerBegin a_timerElapsed a_timerDone a_counterLast a_counterValue a_counterDone a_edgeLast a_edgeDone a_tokens a_lengths a_ends a_worths a_pendingPlaces a_pendingRounds a_pendingLimits := by
  have hT := cc_tI (show t < 2147483648 by omega)
  repeat (first | refine br_t (by simp only [Int32.lt_iff_toInt_lt, Int32.le_iff_toInt_le, ← Int32.toInt_inj, hT, Int32.reduceToInt]; omega) ?_ | refine br_f (by simp only [Int32.lt_iff_toInt_lt, Int32.le_iff_toInt_le, ← Int32.toInt_inj, hT, Int32.reduceToInt]; omega) ?_)
  rw [show nI t - 63 = nI (t - 63) from pk_sub (b := 63) h1]
  refine br_c (fun z => br_c (fun y => ?_) (fun y => ?_)) (fun z => br_c (fun y => ?_) (fun y => ?_))
  · rw [cc_tr0 z, cc_tr0 y] at h; exact cc_xcn (e := false) (f := false) (by omega) h
  · rw [cc_tr0 z, cc_tr1 y] at h; exact cc_xcn (e := false) (f := true) (by omega) h
  · rw [cc_tr1 z, cc_tr0 y] at h; exact cc_xcn (e := true) (f := false) (by omega) h
  · rw [cc_tr1 z, cc_tr1 y] at h; exact cc_xcn (e := true) (f := true) (by omega) h

theorem cc_x73_edg {post : SX → Prop} {t : Nat} {e f g : Int32} (h1 : 66 ≤ t) (h2 : t ≤ 68)
    (h : post (f_time, f_active, f_running, f_pending, f_roundsBegun, a_variables, a_row, a_inputs, a_outputs, a_timerOn, a_timerBegin, a_timerElapsed, a_timerDone, a_counterLast, a_counterValue, a_counterDone, upd a_edgeLast (t - 66) (cc_bI (cc_tr e)), cc_eDo a_edgeLast a_edgeDone (t - 66) (cc_tr e), a_tokens, a_lengths, a_ends, a_worths, a_pendingPlaces, a_pendingRounds, a_pendingLimits)) :
    wX_carryOutSimple_73 post (nI t) e f g f_time f_active f_running f_pending f_roundsBegun a_variables a_row a_inputs a_outputs a_timerOn a_timerBegin a_timerElapsed a_timerDone a_counterLast a_counterValue a_counterDone a_edgeLast a_edgeDone a_tokens a_lengths a_ends a_worths a_pendingPlaces a_pendingRounds a_pendingLimits := by
  have hT := cc_tI (show t < 2147483648 by omega)
  repeat (first | refine br_t (by simp only [Int32.lt_iff_toInt_lt, Int32.le_iff_toInt_le, ← Int32.toInt_inj, hT, Int32.reduceToInt]; omega) ?_ | refine br_f (by simp only [Int32.lt_iff_toInt_lt, Int32.le_iff_toInt_le, ← Int32.toInt_inj, hT, Int32.reduceToInt]; omega) ?_)
  rw [show nI t - 66 = nI (t - 66) from pk_sub (b := 66) h1]
  refine br_c (fun z => ?_) (fun z => ?_)
  · rw [cc_tr0 z] at h; exact cc_xed (e := false) (by omega) h
  · rw [cc_tr1 z] at h; exact cc_xed (e := true) (by omega) h

theorem cc_x73_lea {post : SX → Prop} {L : List (Nat × Nat × Int32)} {e f g : Int32} (hlen : L.length ≤ 60) (hcode : ∀ e, e ∈ L → e.2.1 ≤ 21)
    (hxs : cc_xs a_pendingPlaces a_pendingRounds a_pendingLimits L) (h : post (f_time, f_active, f_running, nI (cc_lv L).length, f_roundsBegun, a_variables, a_row, a_inputs, a_outputs, a_timerOn, a_timerBegin, a_timerElapsed, a_timerDone, a_counterLast, a_counterValue, a_counterDone, a_edgeLast, a_edgeDone, a_tokens, a_lengths, a_ends, a_worths, a_pendingPlaces, a_pendingRounds, a_pendingLimits)) : wX_carryOutSimple_73 post (nI 39) e f g f_time f_active f_running (nI L.length) f_roundsBegun a_variables a_row a_inputs a_outputs a_timerOn a_timerBegin a_timerElapsed a_timerDone a_counterLast a_counterValue a_counterDone a_edgeLast a_edgeDone a_tokens a_lengths a_ends a_worths a_pendingPlaces a_pendingRounds a_pendingLimits :=
  br_t (by decide) (cc_xle hlen hcode hxs h)
end
end
section
theorem cc_xs_push0 {pp pr pl : Nat → Int32} {L : List (Nat × Nat × Int32)} (q : Nat) (l : Int32) (h : cc_xs pp pr pl L) :
    cc_xs (upd pp L.length (nI q)) (upd pr L.length (-1)) (upd pl L.length l) ((q, 0, l) :: L) := cc_xs_push q 0 l h
theorem cc_xs_push1 {pp pr pl : Nat → Int32} {L : List (Nat × Nat × Int32)} (q : Nat) (l : Int32) (h : cc_xs pp pr pl L) :
    cc_xs (upd pp L.length (nI q)) (upd pr L.length 0) (upd pl L.length l) ((q, 1, l) :: L) := cc_xs_push q 1 l h

def cc_cl (t : Nat) (va : Nat → Int32) : Nat → Int32 := if 40 ≤ t then upd va (t - 40) (va (t - 40) + 1) else va
def cc_bd (T : Nat → Nat) (q : Nat) : Nat := if T q = 37 then q + 1 else if T q = 36 then cc_en T (q + 1) else cc_en T (cc_en T (q + 1))
def cc_gob (t : Nat) (lim : Int32) (va : Nat → Int32) (e : Int32) : Bool := if t = 36 then cc_tr e else if 40 ≤ t then decide (va (t - 40) ≤ lim) else true
def cc_ovb (t : Nat) (e : Int32) : Bool := if t = 37 then cc_tr e else false

theorem cc_lp_ar {t : Nat} (h : cc_lp t) : 2 ≤ cc_ar t := by
  unfold cc_lp at h
  unfold cc_ar
  repeat' split
  all_goals omega
theorem cc_lp_lt {t : Nat} (h : cc_lp t) : t < 56 := by
  unfold cc_lp at h
  omega
theorem cc_lp3 {t : Nat} (h1 : 40 ≤ t) (h2 : t ≤ 55) : cc_ar t = 3 := by
  unfold cc_ar
  repeat' split
  all_goals omega

section
variable {f_time f_active f_running f_pending f_roundsBegun : Int32} {a_variables a_row a_inputs a_outputs a_timerOn a_timerBegin a_timerElapsed a_timerDone a_counterLast a_counterValue a_counterDone a_edgeLast a_edgeDone a_tokens a_lengths a_ends a_worths a_pendingPlaces a_pendingRounds a_pendingLimits : Nat → Int32}
theorem cc_xpre {T : Nat → Nat} {n a q : Nat} (C : cc_XC T n a a_tokens a_ends) (hq : q < n) (h2 : 2 ≤ cc_ar (T q)) :
    q + 1 < n ∧ cc_en T (q + 1) < n ∧ cc_en T (cc_en T (q + 1)) ≤ n ∧ a_ends (q + 1) = nI (cc_en T (q + 1)) ∧ a_ends (cc_en T (q + 1)) = nI (cc_en T (cc_en T (q + 1))) := by
  obtain ⟨w, ha, htok, hb, hends⟩ := C
  have l0 := cc_nx_lt w hq (show 0 < cc_ar (T q) by omega)
  have l1 := cc_nx_lt w hq (show 1 < cc_ar (T q) by omega)
  exact ⟨l0, l1, cc_en_le w l1, hends _ l0, hends _ l1⟩

theorem cc_xo1 {post : SX → Prop} {T : Nat → Nat} {n a q : Nat} {L : List (Nat × Nat × Int32)} (C : cc_XC T n a a_tokens a_ends) (hq : q < n) (ht : T q = 1) (hlen : L.length ≤ 59)
    (hxs : cc_xs a_pendingPlaces a_pendingRounds a_pendingLimits L)
    (h : ∀ w' pp pr pl, cc_xs pp pr pl ((cc_nx T 0 (q + 1), 0, 0) :: (cc_nx T 1 (q + 1), 0, 0) :: L) → post (f_time, nI a, f_running, nI (L.length + 1 + 1), f_roundsBegun, a_variables, a_row, a_inputs, a_outputs, a_timerOn, a_timerBegin, a_timerElapsed, a_timerDone, a_counterLast, a_counterValue, a_counterDone, a_edgeLast, a_edgeDone, a_tokens, a_lengths, a_ends, w', pp, pr, pl)) :
    wpX_openCompound post (f_time, nI a, f_running, nI L.length, f_roundsBegun, a_variables, a_row, a_inputs, a_outputs, a_timerOn, a_timerBegin, a_timerElapsed, a_timerDone, a_counterLast, a_counterValue, a_counterDone, a_edgeLast, a_edgeDone, a_tokens, a_lengths, a_ends, a_worths, a_pendingPlaces, a_pendingRounds, a_pendingLimits) (nI q) (nI (T q)) := by
  have hn := C.1.2.2
  obtain ⟨p1, p2, p3, p4, p5⟩ := cc_xpre C hq (by rw [ht]; decide)
  rw [ht]
  unfold wpX_openCompound
  dsimp only
  rw [nI_1]
  refine ⟨vp_in_nI (by omega) (by omega), ?_⟩
  refine nm_r (e' := nI (cc_en T (q + 1))) (by rw [nI_clamp (by omega), p4]) ?_
  refine ⟨vp_in_nI (by omega) (by omega), ?_⟩
  refine nm_r (e' := nI (cc_en T (cc_en T (q + 1)))) (by rw [nI_clamp (by omega), p5]) ?_
  refine br_t (by decide) ?_
  refine cc_xpu (by omega) ?_
  refine cc_xpu (by omega) ?_
  exact h _ _ _ _ (cc_xs_push0 (q + 1) 0 (cc_xs_push0 (cc_en T (q + 1)) 0 hxs))

theorem cc_xo35 {post : SX → Prop} {T : Nat → Nat} {n a q : Nat} {L : List (Nat × Nat × Int32)} (C : cc_XC T n a a_tokens a_ends) (hq : q < n) (ht : T q = 35) (hlen : L.length ≤ 59)
    (hxs : cc_xs a_pendingPlaces a_pendingRounds a_pendingLimits L)
    (h : ∀ w' pp pr pl, cc_xs pp pr pl ((cc_nx T (if (cc_vl T n (cc_lf a_variables a_inputs a_outputs a_timerDone a_timerElapsed a_counterValue a_counterDone a_edgeDone) a_row) (q + 1) = 0 then 2 else 1) (q + 1), 0, 0) :: L) → post (f_time, nI a, f_running, nI (L.length + 1), f_roundsBegun, a_variables, a_row, a_inputs, a_outputs, a_timerOn, a_timerBegin, a_timerElapsed, a_timerDone, a_counterLast, a_counterValue, a_counterDone, a_edgeLast, a_edgeDone, a_tokens, a_lengths, a_ends, w', pp, pr, pl)) :
    wpX_openCompound post (f_time, nI a, f_running, nI L.length, f_roundsBegun, a_variables, a_row, a_inputs, a_outputs, a_timerOn, a_timerBegin, a_timerElapsed, a_timerDone, a_counterLast, a_counterValue, a_counterDone, a_edgeLast, a_edgeDone, a_tokens, a_lengths, a_ends, a_worths, a_pendingPlaces, a_pendingRounds, a_pendingLimits) (nI q) (nI (T q)) := by
  have hn := C.1.2.2
  obtain ⟨p1, p2, p3, p4, p5⟩ := cc_xpre C hq (by rw [ht]; decide)
  have hex : cc_ex (T (q + 1)) = true := cc_exk (k := 0) C.1 hq (by rw [ht]; decide) (by rw [ht]; decide)
  rw [ht]
  unfold wpX_openCompound
  dsimp only
  rw [nI_1]
  refine ⟨vp_in_nI (by omega) (by omega), ?_⟩
  refine nm_r (e' := nI (cc_en T (q + 1))) (by rw [nI_clamp (by omega), p4]) ?_
  refine ⟨vp_in_nI (by omega) (by omega), ?_⟩
  refine nm_r (e' := nI (cc_en T (cc_en T (q + 1)))) (by rw [nI_clamp (by omega), p5]) ?_
  refine br_f (by decide) (br_t (by decide) ?_)
  refine cc_xv C.1 C.2.1 p1 hex C.2.2.1 C.2.2.2.1 C.2.2.2.2 (fun w1 => ?_)
  refine br_c (fun z => ?_) (fun z => ?_)
  · rw [if_pos z] at h
    refine cc_xpu (by omega) ?_
    exact h _ _ _ _ (cc_xs_push0 _ 0 hxs)
  · rw [if_neg z] at h
    refine cc_xpu (by omega) ?_
    exact h _ _ _ _ (cc_xs_push0 _ 0 hxs)

theorem cc_xo56 {post : SX → Prop} {T : Nat → Nat} {n a q : Nat} {L : List (Nat × Nat × Int32)} (C : cc_XC T n a a_tokens a_ends) (hq : q < n) (ht : T q = 56) (hlen : L.length ≤ 59)
    (hxs : cc_xs a_pendingPlaces a_pendingRounds a_pendingLimits L)
    (h : ∀ w' pp pr pl, cc_xs pp pr pl ((cc_nx T (if (cc_vl T n (cc_lf a_variables a_inputs a_outputs a_timerDone a_timerElapsed a_counterValue a_counterDone a_edgeDone) a_row) (q + 1) = 0 then 1 else if (cc_vl T n (cc_lf a_variables a_inputs a_outputs a_timerDone a_timerElapsed a_counterValue a_counterDone a_edgeDone) a_row) (q + 1) = 1 then 2 else 3) (q + 1), 0, 0) :: L) → post (f_time, nI a, f_running, nI (L.length + 1), f_roundsBegun, a_variables, a_row, a_inputs, a_outputs, a_timerOn, a_timerBegin, a_timerElapsed, a_timerDone, a_counterLast, a_counterValue, a_counterDone, a_edgeLast, a_edgeDone, a_tokens, a_lengths, a_ends, w', pp, pr, pl)) :
    wpX_openCompound post (f_time, nI a, f_running, nI L.length, f_roundsBegun, a_variables, a_row, a_inputs, a_outputs, a_timerOn, a_timerBegin, a_timerElapsed, a_timerDone, a_counterLast, a_counterValue, a_counterDone, a_edgeLast, a_edgeDone, a_tokens, a_lengths, a_ends, a_worths, a_pendingPlaces, a_pendingRounds, a_pendingLimits) (nI q) (nI (T q)) := by
  have hn := C.1.2.2
  obtain ⟨p1, p2, p3, p4, p5⟩ := cc_xpre C hq (by rw [ht]; decide)
  have hex : cc_ex (T (q + 1)) = true := cc_exk (k := 0) C.1 hq (by rw [ht]; decide) (by rw [ht]; decide)
  have l2 : cc_en T (cc_en T (q + 1)) < n := cc_nx_lt (k := 2) C.1 hq (by rw [ht]; decide)
  have e2 := C.2.2.2.2 _ l2
  rw [ht]
  unfold wpX_openCompound
  dsimp only
  rw [nI_1]
  refine ⟨vp_in_nI (by omega) (by omega), ?_⟩
  refine nm_r (e' := nI (cc_en T (q + 1))) (by rw [nI_clamp (by omega), p4]) ?_
  refine ⟨vp_in_nI (by omega) (by omega), ?_⟩
  refine nm_r (e' := nI (cc_en T (cc_en T (q + 1)))) (by rw [nI_clamp (by omega), p5]) ?_
  refine br_f (by decide) (br_f (by decide) (br_t (by decide) ?_))
  refine cc_xv C.1 C.2.1 p1 hex C.2.2.1 C.2.2.2.1 C.2.2.2.2 (fun w1 => ?_)
  refine br_c (fun z => ?_) (fun z => ⟨vp_in_nI (by omega) (by omega), ?_⟩)
  · rw [if_neg (by rw [z]; decide), if_pos z] at h
    refine br_f (by rw [z]; decide) ?_
    refine cc_xpu (by omega) ?_
    exact h _ _ _ _ (cc_xs_push0 _ 0 hxs)
  · dsimp only
    rw [nI_clamp (by omega), e2]
    refine br_c (fun y => ?_) (fun y => ?_)
    · rw [if_pos y] at h
      refine cc_xpu (by omega) ?_
      exact h _ _ _ _ (cc_xs_push0 _ 0 hxs)
    · rw [if_neg y, if_neg z] at h
      refine cc_xpu (by omega) ?_
      exact h _ _ _ _ (cc_xs_push0 _ 0 hxs)

theorem cc_xo40 {post : SX → Prop} {T : Nat → Nat} {n a q : Nat} {L : List (Nat × Nat × Int32)} (C : cc_XC T n a a_tokens a_ends) (hq : q < n) (ht1 : 40 ≤ T q) (ht2 : T q ≤ 55) (hlen : L.length ≤ 59)
    (hxs : cc_xs a_pendingPlaces a_pendingRounds a_pendingLimits L)
    (h : ∀ w' pp pr pl, cc_xs pp pr pl ((q, 1, (cc_vl T n (cc_lf a_variables a_inputs a_outputs a_timerDone a_timerElapsed a_counterValue a_counterDone a_edgeDone) a_row) (cc_en T (q + 1))) :: L) → post (f_time, nI a, f_running, nI (L.length + 1), f_roundsBegun, upd a_variables (T q - 40) ((cc_vl T n (cc_lf a_variables a_inputs a_outputs a_timerDone a_timerElapsed a_counterValue a_counterDone a_edgeDone) a_row) (q + 1)), a_row, a_inputs, a_outputs, a_timerOn, a_timerBegin, a_timerElapsed, a_timerDone, a_counterLast, a_counterValue, a_counterDone, a_edgeLast, a_edgeDone, a_tokens, a_lengths, a_ends, w', pp, pr, pl)) :
    wpX_openCompound post (f_time, nI a, f_running, nI L.length, f_roundsBegun, a_variables, a_row, a_inputs, a_outputs, a_timerOn, a_timerBegin, a_timerElapsed, a_timerDone, a_counterLast, a_counterValue, a_counterDone, a_edgeLast, a_edgeDone, a_tokens, a_lengths, a_ends, a_worths, a_pendingPlaces, a_pendingRounds, a_pendingLimits) (nI q) (nI (T q)) := by
  have hn := C.1.2.2
  have ha3 := cc_lp3 ht1 ht2
  obtain ⟨p1, p2, p3, p4, p5⟩ := cc_xpre C hq (by omega)
  have ts0 : ∀ k, k < 2 → cc_ts (T q) k = false := by
    intro k hk
    unfold cc_ts
    rw [if_neg (by omega), if_neg (by omega), if_neg (by omega)]
    simp only [decide_eq_false_iff_not]
    omega
  have hex : cc_ex (T (q + 1)) = true := cc_exk (k := 0) C.1 hq (by omega) (ts0 0 (by omega))
  have hex1 : cc_ex (T (cc_en T (q + 1))) = true := cc_exk (k := 1) C.1 hq (by omega) (ts0 1 (by omega))
  unfold wpX_openCompound
  dsimp only
  rw [nI_1]
  refine ⟨vp_in_nI (by omega) (by omega), ?_⟩
  refine nm_r (e' := nI (cc_en T (q + 1))) (by rw [nI_clamp (by omega), p4]) ?_
  refine ⟨vp_in_nI (by omega) (by omega), ?_⟩
  refine nm_r (e' := nI (cc_en T (cc_en T (q + 1)))) (by rw [nI_clamp (by omega), p5]) ?_
  refine br_f (cc_ne (T q) 1 (by omega)) (br_f (cc_ne (T q) 35 (by omega)) (br_f (cc_ne (T q) 56 (by omega)) ?_))
  refine br_f (cc_nlt (T q) 40 (by omega)) (br_f (cc_nle 56 (T q) (by omega)) ?_)
  refine cc_xv C.1 C.2.1 p1 hex C.2.2.1 C.2.2.2.1 C.2.2.2.2 (fun w1 => ?_)
  refine cc_xv C.1 C.2.1 p2 hex1 C.2.2.1 C.2.2.2.1 C.2.2.2.2 (fun w2 => ?_)
  refine ⟨cc_sV 40 16 (by omega) (by omega) (by omega), ?_⟩
  refine nm_r (e' := upd a_variables (T q - 40) ((cc_vl T n (cc_lf a_variables a_inputs a_outputs a_timerDone a_timerElapsed a_counterValue a_counterDone a_edgeDone) a_row) (q + 1))) (congrArg (fun k => upd a_variables k ((cc_vl T n (cc_lf a_variables a_inputs a_outputs a_timerDone a_timerElapsed a_counterValue a_counterDone a_edgeDone) a_row) (q + 1))) (cc_sI 40 (by omega) (by omega))) ?_
  refine cc_xpu (by omega) ?_
  exact h _ _ _ _ (cc_xs_push1 _ _ hxs)

theorem cc_xoL {post : SX → Prop} {T : Nat → Nat} {n a q : Nat} {L : List (Nat × Nat × Int32)} (C : cc_XC T n a a_tokens a_ends) (hq : q < n) (ht : T q = 36 ∨ T q = 37) (hlen : L.length ≤ 59)
    (hxs : cc_xs a_pendingPlaces a_pendingRounds a_pendingLimits L)
    (h : ∀ w' pp pr pl, cc_xs pp pr pl ((q, 1, 0) :: L) → post (f_time, nI a, f_running, nI (L.length + 1), f_roundsBegun, a_variables, a_row, a_inputs, a_outputs, a_timerOn, a_timerBegin, a_timerElapsed, a_timerDone, a_counterLast, a_counterValue, a_counterDone, a_edgeLast, a_edgeDone, a_tokens, a_lengths, a_ends, w', pp, pr, pl)) :
    wpX_openCompound post (f_time, nI a, f_running, nI L.length, f_roundsBegun, a_variables, a_row, a_inputs, a_outputs, a_timerOn, a_timerBegin, a_timerElapsed, a_timerDone, a_counterLast, a_counterValue, a_counterDone, a_edgeLast, a_edgeDone, a_tokens, a_lengths, a_ends, a_worths, a_pendingPlaces, a_pendingRounds, a_pendingLimits) (nI q) (nI (T q)) := by
  have hn := C.1.2.2
  have ha2 : 2 ≤ cc_ar (T q) := cc_lp_ar (by unfold cc_lp; omega)
  obtain ⟨p1, p2, p3, p4, p5⟩ := cc_xpre C hq ha2
  unfold wpX_openCompound
  dsimp only
  rw [nI_1]
  refine ⟨vp_in_nI (by omega) (by omega), ?_⟩
  refine nm_r (e' := nI (cc_en T (q + 1))) (by rw [nI_clamp (by omega), p4]) ?_
  refine ⟨vp_in_nI (by omega) (by omega), ?_⟩
  refine nm_r (e' := nI (cc_en T (cc_en T (q + 1)))) (by rw [nI_clamp (by omega), p5]) ?_
  refine br_f (cc_ne (T q) 1 (by omega)) (br_f (cc_ne (T q) 35 (by omega)) (br_f (cc_ne (T q) 56 (by omega)) ?_))
  refine br_t (cc_lt (T q) 40 (by omega)) ?_
  refine cc_xpu (by omega) ?_
  exact h _ _ _ _ (cc_xs_push1 _ _ hxs)

theorem cc_xcr {post : Int32 → SX → Prop} {T : Nat → Nat} {n a q : Nat} (C : cc_XC T n a a_tokens a_ends) (hq : q < n) (hl : cc_lp (T q))
    (h : ∀ w', post (cc_bI (cc_ovb (T q) ((cc_vl T n (cc_lf a_variables a_inputs a_outputs a_timerDone a_timerElapsed a_counterValue a_counterDone a_edgeDone) a_row) (cc_en T (q + 1))))) (f_time, nI a, f_running, f_pending, f_roundsBegun, cc_cl (T q) a_variables, a_row, a_inputs, a_outputs, a_timerOn, a_timerBegin, a_timerElapsed, a_timerDone, a_counterLast, a_counterValue, a_counterDone, a_edgeLast, a_edgeDone, a_tokens, a_lengths, a_ends, w', a_pendingPlaces, a_pendingRounds, a_pendingLimits)) :
    wpX_closeRound post (f_time, nI a, f_running, f_pending, f_roundsBegun, a_variables, a_row, a_inputs, a_outputs, a_timerOn, a_timerBegin, a_timerElapsed, a_timerDone, a_counterLast, a_counterValue, a_counterDone, a_edgeLast, a_edgeDone, a_tokens, a_lengths, a_ends, a_worths, a_pendingPlaces, a_pendingRounds, a_pendingLimits) (nI q) (nI (T q)) := by
  have hn := C.1.2.2
  obtain ⟨p1, p2, p3, p4, p5⟩ := cc_xpre C hq (cc_lp_ar hl)
  have hlt := cc_lp_lt hl
  by_cases h40 : 40 ≤ T q
  · have e1 : cc_ovb (T q) ((cc_vl T n (cc_lf a_variables a_inputs a_outputs a_timerDone a_timerElapsed a_counterValue a_counterDone a_edgeDone) a_row) (cc_en T (q + 1))) = false := if_neg (by omega)
    have e2 : cc_cl (T q) a_variables = upd a_variables (T q - 40) (a_variables (T q - 40) + 1) := if_pos h40
    rw [e1, e2] at h
    refine br_f (cc_nlt (T q) 40 (by omega)) (br_f (cc_nle 56 (T q) (by omega)) ?_)
    refine ⟨cc_sV 40 16 (by omega) (by omega) (by omega), cc_sV 40 16 (by omega) (by omega) (by omega), ?_⟩
    refine nm_r (e' := upd a_variables (T q - 40) (a_variables (T q - 40) + 1)) (congrArg (fun k => upd a_variables k (a_variables k + 1)) (cc_sI 40 (by omega) (by omega))) ?_
    exact h a_worths
  · have e2 : cc_cl (T q) a_variables = a_variables := if_neg h40
    rw [e2] at h
    refine br_t (cc_lt (T q) 40 (by omega)) ?_
    unfold wX_closeRound_27
    rw [nI_1]
    refine ⟨vp_in_nI (by omega) (by omega), ?_⟩
    refine nm_r (e' := nI (cc_en T (q + 1))) (by rw [nI_clamp (by omega), p4]) ?_
    by_cases h37 : T q = 37
    · have hex1 : cc_ex (T (cc_en T (q + 1))) = true := cc_exk (k := 1) C.1 hq (by rw [h37]; decide) (by rw [h37]; decide)
      refine br_t (cc_eq (T q) 37 h37) ?_
      refine cc_xv C.1 C.2.1 p2 hex1 C.2.2.1 C.2.2.2.1 C.2.2.2.2 (fun w1 => ?_)
      have e1 : cc_ovb (T q) ((cc_vl T n (cc_lf a_variables a_inputs a_outputs a_timerDone a_timerElapsed a_counterValue a_counterDone a_edgeDone) a_row) (cc_en T (q + 1))) = cc_tr ((cc_vl T n (cc_lf a_variables a_inputs a_outputs a_timerDone a_timerElapsed a_counterValue a_counterDone a_edgeDone) a_row) (cc_en T (q + 1))) := if_pos h37
      rw [e1] at h
      refine br_c (fun z => ?_) (fun z => ?_)
      · rw [cc_tr0 z] at h; exact h w1
      · rw [cc_tr1 z] at h; exact h w1
    · have e1 : cc_ovb (T q) ((cc_vl T n (cc_lf a_variables a_inputs a_outputs a_timerDone a_timerElapsed a_counterValue a_counterDone a_edgeDone) a_row) (cc_en T (q + 1))) = false := if_neg h37
      rw [e1] at h
      exact br_f (cc_ne (T q) 37 h37) (h a_worths)

theorem cc_xob {post : Int32 → SX → Prop} {T : Nat → Nat} {n a q : Nat} {lim : Int32} (C : cc_XC T n a a_tokens a_ends) (hq : q < n) (hl : cc_lp (T q))
    (h : ∀ w', post (cc_bI (!cc_gob (T q) lim a_variables ((cc_vl T n (cc_lf a_variables a_inputs a_outputs a_timerDone a_timerElapsed a_counterValue a_counterDone a_edgeDone) a_row) (q + 1)))) (f_time, nI a, f_running, f_pending, f_roundsBegun, a_variables, a_row, a_inputs, a_outputs, a_timerOn, a_timerBegin, a_timerElapsed, a_timerDone, a_counterLast, a_counterValue, a_counterDone, a_edgeLast, a_edgeDone, a_tokens, a_lengths, a_ends, w', a_pendingPlaces, a_pendingRounds, a_pendingLimits)) :
    wpX_isOverBeforeBody post (f_time, nI a, f_running, f_pending, f_roundsBegun, a_variables, a_row, a_inputs, a_outputs, a_timerOn, a_timerBegin, a_timerElapsed, a_timerDone, a_counterLast, a_counterValue, a_counterDone, a_edgeLast, a_edgeDone, a_tokens, a_lengths, a_ends, a_worths, a_pendingPlaces, a_pendingRounds, a_pendingLimits) (nI q) (nI (T q)) lim := by
  have hn := C.1.2.2
  obtain ⟨p1, p2, p3, p4, p5⟩ := cc_xpre C hq (cc_lp_ar hl)
  have hlt := cc_lp_lt hl
  by_cases h40 : 40 ≤ T q
  · have e1 : cc_gob (T q) lim a_variables ((cc_vl T n (cc_lf a_variables a_inputs a_outputs a_timerDone a_timerElapsed a_counterValue a_counterDone a_edgeDone) a_row) (q + 1)) = decide (a_variables (T q - 40) ≤ lim) := by
      unfold cc_gob; rw [if_neg (by omega), if_pos h40]
    rw [e1] at h
    refine br_f (cc_nlt (T q) 40 (by omega)) (br_f (cc_nle 56 (T q) (by omega)) ?_)
    refine ⟨cc_sV 40 16 (by omega) (by omega) (by omega), ?_⟩
    rw [show (nI (T q) - 40).toNatClampNeg = T q - 40 from cc_sI 40 h40 (by omega)]
    refine br_c (fun z => ?_) (fun z => ?_)
    · rw [decide_eq_true z] at h; exact h a_worths
    · rw [decide_eq_false z] at h; exact h a_worths
  · refine br_t (cc_lt (T q) 40 (by omega)) ?_
    unfold wX_isOverBeforeBody_31
    rw [nI_1]
    by_cases h36 : T q = 36
    · have hex : cc_ex (T (q + 1)) = true := cc_exk (k := 0) C.1 hq (by rw [h36]; decide) (by rw [h36]; decide)
      refine br_t (cc_eq (T q) 36 h36) ?_
      refine cc_xv C.1 C.2.1 p1 hex C.2.2.1 C.2.2.2.1 C.2.2.2.2 (fun w1 => ?_)
      have e1 : cc_gob (T q) lim a_variables ((cc_vl T n (cc_lf a_variables a_inputs a_outputs a_timerDone a_timerElapsed a_counterValue a_counterDone a_edgeDone) a_row) (q + 1)) = cc_tr ((cc_vl T n (cc_lf a_variables a_inputs a_outputs a_timerDone a_timerElapsed a_counterValue a_counterDone a_edgeDone) a_row) (q + 1)) := if_pos h36
      rw [e1] at h
      refine br_c (fun z => ?_) (fun z => ?_)
      · rw [cc_tr0 z] at h; exact h w1
      · rw [cc_tr1 z] at h; exact h w1
    · have e1 : cc_gob (T q) lim a_variables ((cc_vl T n (cc_lf a_variables a_inputs a_outputs a_timerDone a_timerElapsed a_counterValue a_counterDone a_edgeDone) a_row) (q + 1)) = true := by
        unfold cc_gob; rw [if_neg h36, if_neg h40]
      rw [e1] at h
      exact br_f (cc_ne (T q) 36 h36) (h a_worths)

theorem cc_xlb {post : Int32 → Prop} {T : Nat → Nat} {n a q : Nat} (C : cc_XC T n a a_tokens a_ends) (hq : q < n) (hl : cc_lp (T q))
    (h : post (nI (cc_bd T q))) : wpX_loopBody post (f_time, f_active, f_running, f_pending, f_roundsBegun, a_variables, a_row, a_inputs, a_outputs, a_timerOn, a_timerBegin, a_timerElapsed, a_timerDone, a_counterLast, a_counterValue, a_counterDone, a_edgeLast, a_edgeDone, a_tokens, a_lengths, a_ends, a_worths, a_pendingPlaces, a_pendingRounds, a_pendingLimits) (nI q) (nI (T q)) := by
  have hn := C.1.2.2
  obtain ⟨p1, p2, p3, p4, p5⟩ := cc_xpre C hq (cc_lp_ar hl)
  have hlt := cc_lp_lt hl
  unfold wpX_loopBody
  dsimp only
  rw [nI_1]
  unfold cc_bd at h
  by_cases h37 : T q = 37
  · rw [if_pos h37] at h
    exact br_t (cc_eq (T q) 37 h37) h
  · rw [if_neg h37] at h
    refine br_f (cc_ne (T q) 37 h37) ⟨vp_in_nI (by omega) (by omega), ?_⟩
    refine nm_r (e' := nI (cc_en T (q + 1))) (by rw [nI_clamp (by omega), p4]) ?_
    by_cases h36 : T q = 36
    · rw [if_pos h36] at h
      exact br_t (cc_eq (T q) 36 h36) h
    · rw [if_neg h36] at h
      refine br_f (cc_ne (T q) 36 h36) ⟨vp_in_nI (by omega) (by omega), ?_⟩
      rw [nI_clamp (by omega), p5]
      exact h

theorem cc_xg30 {post : SX → Prop} {T : Nat → Nat} {n a q c M R : Nat} {lim : Int32} {b : Bool} (C : cc_XC T n a a_tokens a_ends) (hq : q < n) (hl : cc_lp (T q))
    (hpr : a_pendingRounds M = nI (c - 1)) (hpl : a_pendingLimits M = lim) (hc1 : 1 ≤ c) (hc : c ≤ 21) (hR : R ≤ 300) (hM : M ≤ 59)
    (h1 : (b = true ∨ c = 21) → post (f_time, nI a, f_running, nI M, nI R, a_variables, a_row, a_inputs, a_outputs, a_timerOn, a_timerBegin, a_timerElapsed, a_timerDone, a_counterLast, a_counterValue, a_counterDone, a_edgeLast, a_edgeDone, a_tokens, a_lengths, a_ends, a_worths, a_pendingPlaces, a_pendingRounds, a_pendingLimits))
    (h2 : ¬ (b = true ∨ c = 21) → R = 300 → post (f_time, nI a, f_running, 0, nI R, a_variables, a_row, a_inputs, a_outputs, a_timerOn, a_timerBegin, a_timerElapsed, a_timerDone, a_counterLast, a_counterValue, a_counterDone, a_edgeLast, a_edgeDone, a_tokens, a_lengths, a_ends, a_worths, a_pendingPlaces, a_pendingRounds, a_pendingLimits))
    (h3 : ¬ (b = true ∨ c = 21) → R < 300 → cc_gob (T q) lim a_variables ((cc_vl T n (cc_lf a_variables a_inputs a_outputs a_timerDone a_timerElapsed a_counterValue a_counterDone a_edgeDone) a_row) (q + 1)) = false → ∀ w', post (f_time, nI a, f_running, nI M, nI (R + 1), a_variables, a_row, a_inputs, a_outputs, a_timerOn, a_timerBegin, a_timerElapsed, a_timerDone, a_counterLast, a_counterValue, a_counterDone, a_edgeLast, a_edgeDone, a_tokens, a_lengths, a_ends, w', a_pendingPlaces, a_pendingRounds, a_pendingLimits))
    (h4 : ¬ (b = true ∨ c = 21) → R < 300 → cc_gob (T q) lim a_variables ((cc_vl T n (cc_lf a_variables a_inputs a_outputs a_timerDone a_timerElapsed a_counterValue a_counterDone a_edgeDone) a_row) (q + 1)) = true → ∀ w', post (f_time, nI a, f_running, nI (M + 1 + 1), nI (R + 1), a_variables, a_row, a_inputs, a_outputs, a_timerOn, a_timerBegin, a_timerElapsed, a_timerDone, a_counterLast, a_counterValue, a_counterDone, a_edgeLast, a_edgeDone, a_tokens, a_lengths, a_ends, w', upd a_pendingPlaces (M + 1) (nI (cc_bd T q)), upd (upd a_pendingRounds M (nI c)) (M + 1) (-1), upd a_pendingLimits (M + 1) 0)) :
    wX_goOnWithLoop_30 post (nI q) (nI (T q)) (nI M) (cc_bI b) f_time (nI a) f_running (nI (M + 1)) (nI R) a_variables a_row a_inputs a_outputs a_timerOn a_timerBegin a_timerElapsed a_timerDone a_counterLast a_counterValue a_counterDone a_edgeLast a_edgeDone a_tokens a_lengths a_ends a_worths a_pendingPlaces a_pendingRounds a_pendingLimits := by
  have hv : vp_in (nI M) 61 := vp_in_nI (by omega) (by omega)
  have hcl : (nI M).toNatClampNeg = M := nI_clamp (by omega)
  cases b with
  | true => exact br_f cc_n10 (h1 (Or.inl rfl))
  | false =>
    refine br_t cc_bf ⟨hv, ?_⟩
    rw [hcl, hpr]
    refine pk_lt (c - 1) 20 (fun z => ?_) (fun z => h1 (Or.inr (by omega)))
    have hno : ¬ (false = true ∨ c = 21) := by
      intro y
      rcases y with y | y
      · cases y
      · omega
    refine pk_lt R 300 (fun y => ?_) (fun y => h2 hno (by omega))
    refine nm_r (e' := nI (R + 1)) (nI_1 R) ⟨hv, ?_⟩
    rw [hpl]
    refine cc_xob C hq hl (fun w1 => ?_)
    cases hg : cc_gob (T q) lim a_variables ((cc_vl T n (cc_lf a_variables a_inputs a_outputs a_timerDone a_timerElapsed a_counterValue a_counterDone a_edgeDone) a_row) (q + 1)) with
    | false => exact br_f cc_n10 (h3 hno y hg w1)
    | true =>
      refine br_t cc_bf ⟨hv, hv, ?_⟩
      refine nm_r (e' := upd a_pendingRounds M (nI c)) (by rw [hpr, nI_1]; congr 2; omega) ?_
      refine cc_xlb C hq hl ?_
      refine cc_xpu (by omega) ?_
      exact h4 hno y hg w1
end
end
section
def cc_YC (T : Nat → Nat) (n a : Nat) (tk en : Nat → Int32) : Prop :=
  cc_wh T n ∧ a < 2 ∧ (∀ i, i < n → tk (60 * a + i) = nI (T i)) ∧ (∀ i, i < n → en (60 * a + i) = nI (60 * a + cc_en T i))

theorem cc_arr {t : Nat} (h : cc_st t = true) (h2 : t ≠ 2) (h39 : t ≠ 39) : 1 ≤ cc_ar t := by
  have := cc_st_r h
  unfold cc_ar
  repeat' split
  all_goals omega

theorem cc_ys_push0 {a : Nat} {tk ta tr tl : Nat → Int32} {L : List (Nat × Nat × Int32)} (q : Nat) (l : Int32) (h : cc_ys a tk ta tr tl L) :
    cc_ys a (upd tk L.length 0) (upd ta L.length (nI (60 * a + q))) (upd tr L.length 0) (upd tl L.length l) ((q, 0, l) :: L) := cc_ys_push q 0 l h
theorem cc_ys_push1 {a : Nat} {tk ta tr tl : Nat → Int32} {L : List (Nat × Nat × Int32)} (q : Nat) (l : Int32) (h : cc_ys a tk ta tr tl L) :
    cc_ys a (upd tk L.length 1) (upd ta L.length (nI (60 * a + q))) (upd tr L.length 0) (upd tl L.length l) ((q, 1, l) :: L) := cc_ys_push q 1 l h

section
variable {f_time f_active f_running f_open f_depth f_tasks f_begun : Int32} {a_variables a_cells a_inputs a_outputs a_timerOn a_timerBegin a_timerElapsed a_timerDone a_counterLast a_counterValue a_counterDone a_edgeLast a_edgeDone a_sizes a_tokens a_ends a_wants a_numbers a_taskKind a_taskAt a_taskRounds a_taskLimit : Nat → Int32}
theorem cc_yinT {post : Int32 → Prop} {t : Nat} {x y : Int32} (l m : Nat) (h1 : l ≤ t) (h2 : t ≤ m) (h : post 1) (hx : x = nI l := by rfl) (hy : y = nI m := by rfl) (hm : m < 2 ^ 31 := by omega) : wpY_in post (f_time, f_active, f_running, f_open, f_depth, f_tasks, f_begun, a_variables, a_cells, a_inputs, a_outputs, a_timerOn, a_timerBegin, a_timerElapsed, a_timerDone, a_counterLast, a_counterValue, a_counterDone, a_edgeLast, a_edgeDone, a_sizes, a_tokens, a_ends, a_wants, a_numbers, a_taskKind, a_taskAt, a_taskRounds, a_taskLimit) (nI t) x y := by
  subst hx hy
  exact br_f (nI_nlt h1 (by omega)) (br_f (nI_nlt h2 hm) h)
theorem cc_yinF {post : Int32 → Prop} {t : Nat} {x y : Int32} (l m : Nat) (h1 : t < l ∨ m < t) (h : post 0) (hx : x = nI l := by rfl) (hy : y = nI m := by rfl) (hm : m < 2 ^ 30 := by omega) (hl : l < 2 ^ 30 := by omega) (ht : t < 2 ^ 31 := by omega) : wpY_in post (f_time, f_active, f_running, f_open, f_depth, f_tasks, f_begun, a_variables, a_cells, a_inputs, a_outputs, a_timerOn, a_timerBegin, a_timerElapsed, a_timerDone, a_counterLast, a_counterValue, a_counterDone, a_edgeLast, a_edgeDone, a_sizes, a_tokens, a_ends, a_wants, a_numbers, a_taskKind, a_taskAt, a_taskRounds, a_taskLimit) (nI t) x y := by
  subst hx hy
  by_cases z : t < l
  · exact br_t (nI_lt z (by omega)) h
  · exact br_f (nI_nlt (by omega) (by omega)) (br_t (nI_lt (by omega) (by omega)) h)

theorem cc_ys_two {post : SY → Prop} {T : Nat → Nat} {n a q : Nat} {L : List (Nat × Nat × Int32)} (C : cc_YC T n a a_tokens a_ends) (hq : q < n) (ht : T q = 2) (hlen : L.length ≤ 59)
    (hys : cc_ys a a_taskKind a_taskAt a_taskRounds a_taskLimit L)
    (h : ∀ num tk ta tr tl, cc_ys a tk ta tr tl L → post (f_time, f_active, f_running, f_open, 0, nI L.length, f_begun, a_variables, a_cells, a_inputs, a_outputs, a_timerOn, a_timerBegin, a_timerElapsed, a_timerDone, a_counterLast, a_counterValue, a_counterDone, a_edgeLast, a_edgeDone, a_sizes, a_tokens, a_ends, a_wants, num, tk, ta, tr, tl)) :
    wpY_statement post (f_time, f_active, f_running, f_open, 0, nI L.length, f_begun, a_variables, a_cells, a_inputs, a_outputs, a_timerOn, a_timerBegin, a_timerElapsed, a_timerDone, a_counterLast, a_counterValue, a_counterDone, a_edgeLast, a_edgeDone, a_sizes, a_tokens, a_ends, a_wants, a_numbers, a_taskKind, a_taskAt, a_taskRounds, a_taskLimit) (nI (60 * a + q)) := by
  have hn := C.1.2.2
  have ha := C.2.1
  have htq : T q < 291 := cc_va_lt (C.1.1 q hq).2
  have hT := cc_tI (show T q < 2147483648 by omega)
  refine ⟨vp_in_nI (by omega) (by omega), ?_⟩
  refine nm_r (e' := nI (T q)) (by rw [nI_clamp (by omega)]; exact C.2.2.1 q hq) ?_
  refine br_t (cc_eq (T q) 2 ht) ?_
  refine br_f (cc_ne (T q) 1 (by omega)) ?_
  refine cc_yinF 10 25 (by omega) ?_
  refine br_t rfl ?_
  refine cc_yinF 30 33 (by omega) ?_
  refine br_t rfl ?_
  refine br_f (cc_ne (T q) 34 (by omega)) ?_
  refine br_f (cc_ne (T q) 35 (by omega)) ?_
  refine br_f (cc_ne (T q) 36 (by omega)) ?_
  refine br_f (cc_ne (T q) 37 (by omega)) ?_
  refine br_f (cc_ne (T q) 39 (by omega)) ?_
  refine cc_yinF 40 55 (by omega) ?_
  refine br_t rfl ?_
  refine br_f (cc_ne (T q) 56 (by omega)) ?_
  refine cc_yinF 60 62 (by omega) ?_
  refine br_t rfl ?_
  refine cc_yinF 63 65 (by omega) ?_
  refine br_t rfl ?_
  refine cc_yinF 66 68 (by omega) ?_
  refine br_t rfl ?_
  exact h _ _ _ _ _ hys


theorem cc_ys_lea {post : SY → Prop} {T : Nat → Nat} {n a q : Nat} {L : List (Nat × Nat × Int32)} (C : cc_YC T n a a_tokens a_ends) (hq : q < n) (ht : T q = 39) (hlen : L.length ≤ 59)
    (hys : cc_ys a a_taskKind a_taskAt a_taskRounds a_taskLimit L) (hn1 : cc_n1 L)
    (h : ∀ num tk ta tr tl, cc_ys a tk ta tr tl (cc_lv L) → post (f_time, f_active, f_running, f_open, 0, nI (cc_lv L).length, f_begun, a_variables, a_cells, a_inputs, a_outputs, a_timerOn, a_timerBegin, a_timerElapsed, a_timerDone, a_counterLast, a_counterValue, a_counterDone, a_edgeLast, a_edgeDone, a_sizes, a_tokens, a_ends, a_wants, num, tk, ta, tr, tl)) :
    wpY_statement post (f_time, f_active, f_running, f_open, 0, nI L.length, f_begun, a_variables, a_cells, a_inputs, a_outputs, a_timerOn, a_timerBegin, a_timerElapsed, a_timerDone, a_counterLast, a_counterValue, a_counterDone, a_edgeLast, a_edgeDone, a_sizes, a_tokens, a_ends, a_wants, a_numbers, a_taskKind, a_taskAt, a_taskRounds, a_taskLimit) (nI (60 * a + q)) := by
  have hn := C.1.2.2
  have ha := C.2.1
  have htq : T q < 291 := cc_va_lt (C.1.1 q hq).2
  have hT := cc_tI (show T q < 2147483648 by omega)
  refine ⟨vp_in_nI (by omega) (by omega), ?_⟩
  refine nm_r (e' := nI (T q)) (by rw [nI_clamp (by omega)]; exact C.2.2.1 q hq) ?_
  refine br_f (cc_ne (T q) 2 (by omega)) (br_t (cc_eq (T q) 39 ht) ?_)
  refine br_f (cc_ne (T q) 1 (by omega)) ?_
  refine cc_yinF 10 25 (by omega) ?_
  refine br_t rfl ?_
  refine cc_yinF 30 33 (by omega) ?_
  refine br_t rfl ?_
  refine br_f (cc_ne (T q) 34 (by omega)) ?_
  refine br_f (cc_ne (T q) 35 (by omega)) ?_
  refine br_f (cc_ne (T q) 36 (by omega)) ?_
  refine br_f (cc_ne (T q) 37 (by omega)) ?_
  refine br_t (cc_eq (T q) 39 (by omega)) ?_
  refine cc_yle (a := a) (by omega) hn1 hys ?_
  exact h _ _ _ _ _ (cc_lv_ys hys)


theorem cc_ys_set {post : SY → Prop} {T : Nat → Nat} {n a q : Nat} {L : List (Nat × Nat × Int32)} (C : cc_YC T n a a_tokens a_ends) (hq : q < n) (h1 : 10 ≤ T q) (h2 : T q ≤ 25) (hlen : L.length ≤ 59)
    (hys : cc_ys a a_taskKind a_taskAt a_taskRounds a_taskLimit L)
    (h : ∀ num tk ta tr tl, cc_ys a tk ta tr tl L → post (f_time, f_active, f_running, f_open, 0, nI L.length, f_begun, upd a_variables (T q - 10) ((cc_vl T n (cc_lf a_variables a_inputs a_outputs a_timerDone a_timerElapsed a_counterValue a_counterDone a_edgeDone) a_cells) (q + 1)), a_cells, a_inputs, a_outputs, a_timerOn, a_timerBegin, a_timerElapsed, a_timerDone, a_counterLast, a_counterValue, a_counterDone, a_edgeLast, a_edgeDone, a_sizes, a_tokens, a_ends, a_wants, num, tk, ta, tr, tl)) :
    wpY_statement post (f_time, f_active, f_running, f_open, 0, nI L.length, f_begun, a_variables, a_cells, a_inputs, a_outputs, a_timerOn, a_timerBegin, a_timerElapsed, a_timerDone, a_counterLast, a_counterValue, a_counterDone, a_edgeLast, a_edgeDone, a_sizes, a_tokens, a_ends, a_wants, a_numbers, a_taskKind, a_taskAt, a_taskRounds, a_taskLimit) (nI (60 * a + q)) := by
  have hn := C.1.2.2
  have ha := C.2.1
  have htq : T q < 291 := cc_va_lt (C.1.1 q hq).2
  have hT := cc_tI (show T q < 2147483648 by omega)
  have h2a : 2 ≤ cc_ar (T q) ∨ 1 ≤ cc_ar (T q) := by
    right
    have hh : cc_st (T q) = true := by unfold cc_st; simp only [decide_eq_true_eq]; omega
    exact cc_arr hh (by omega) (by omega)
  have l0 : q + 1 < n := cc_nx_lt C.1 hq (show 0 < cc_ar (T q) by omega)
  have e0 := C.2.2.2 (q + 1) l0
  have le0 := cc_en_le C.1 l0
  refine ⟨vp_in_nI (by omega) (by omega), ?_⟩
  refine nm_r (e' := nI (T q)) (by rw [nI_clamp (by omega)]; exact C.2.2.1 q hq) ?_
  refine br_f (cc_ne (T q) 2 (by omega)) (br_f (cc_ne (T q) 39 (by omega)) ?_)
  rw [show nI (60 * a + q) + 1 = nI (60 * a + (q + 1)) from nI_1 _]
  refine ⟨vp_in_nI (by omega) (by omega), ?_⟩
  rw [nI_clamp (show 60 * a + (q + 1) < 2 ^ 31 by omega), e0]
  have hst : cc_st (T q) = true := by unfold cc_st; simp only [decide_eq_true_eq]; omega
  have hsp : cc_sp (T q) = 0 := by
    unfold cc_sp
    repeat' split
    all_goals omega
  have har : cc_ar (T q) = 1 := by
    unfold cc_ar
    repeat' split
    all_goals omega
  refine br_f (cc_ne (T q) 1 (by omega)) ?_
  refine cc_yinT 10 25 (by omega) (by omega) ?_
  refine br_f cc_n10 ?_
  rw [show nI (60 * a + q) + 1 = nI (60 * a + (q + 1)) from nI_1 _]
  refine cc_yw C.1 C.2.1 l0 (cc_exk (k := 0) C.1 hq (by omega) (cc_spst hst hsp 0)) C.2.2.1 C.2.2.2 (fun w0 => ?_)
  refine ⟨cc_sV 10 16 (by omega) (by omega) (by omega), ?_⟩
  refine nm_r (e' := upd a_variables (T q - 10) ((cc_vl T n (cc_lf a_variables a_inputs a_outputs a_timerDone a_timerElapsed a_counterValue a_counterDone a_edgeDone) a_cells) (q + 1))) (congrArg (fun k => upd a_variables k ((cc_vl T n (cc_lf a_variables a_inputs a_outputs a_timerDone a_timerElapsed a_counterValue a_counterDone a_edgeDone) a_cells) (q + 1))) (cc_sI 10 (by omega) (by omega))) ?_
  exact h _ _ _ _ _ hys


theorem cc_ys_out {post : SY → Prop} {T : Nat → Nat} {n a q : Nat} {L : List (Nat × Nat × Int32)} (C : cc_YC T n a a_tokens a_ends) (hq : q < n) (h1 : 30 ≤ T q) (h2 : T q ≤ 33) (hlen : L.length ≤ 59)
    (hys : cc_ys a a_taskKind a_taskAt a_taskRounds a_taskLimit L)
    (h : ∀ num tk ta tr tl, cc_ys a tk ta tr tl L → post (f_time, f_active, f_running, f_open, 0, nI L.length, f_begun, a_variables, a_cells, a_inputs, upd a_outputs (T q - 30) ((cc_vl T n (cc_lf a_variables a_inputs a_outputs a_timerDone a_timerElapsed a_counterValue a_counterDone a_edgeDone) a_cells) (q + 1)), a_timerOn, a_timerBegin, a_timerElapsed, a_timerDone, a_counterLast, a_counterValue, a_counterDone, a_edgeLast, a_edgeDone, a_sizes, a_tokens, a_ends, a_wants, num, tk, ta, tr, tl)) :
    wpY_statement post (f_time, f_active, f_running, f_open, 0, nI L.length, f_begun, a_variables, a_cells, a_inputs, a_outputs, a_timerOn, a_timerBegin, a_timerElapsed, a_timerDone, a_counterLast, a_counterValue, a_counterDone, a_edgeLast, a_edgeDone, a_sizes, a_tokens, a_ends, a_wants, a_numbers, a_taskKind, a_taskAt, a_taskRounds, a_taskLimit) (nI (60 * a + q)) := by
  have hn := C.1.2.2
  have ha := C.2.1
  have htq : T q < 291 := cc_va_lt (C.1.1 q hq).2
  have hT := cc_tI (show T q < 2147483648 by omega)
  have h2a : 2 ≤ cc_ar (T q) ∨ 1 ≤ cc_ar (T q) := by
    right
    have hh : cc_st (T q) = true := by unfold cc_st; simp only [decide_eq_true_eq]; omega
    exact cc_arr hh (by omega) (by omega)
  have l0 : q + 1 < n := cc_nx_lt C.1 hq (show 0 < cc_ar (T q) by omega)
  have e0 := C.2.2.2 (q + 1) l0
  have le0 := cc_en_le C.1 l0
  refine ⟨vp_in_nI (by omega) (by omega), ?_⟩
  refine nm_r (e' := nI (T q)) (by rw [nI_clamp (by omega)]; exact C.2.2.1 q hq) ?_
  refine br_f (cc_ne (T q) 2 (by omega)) (br_f (cc_ne (T q) 39 (by omega)) ?_)
  rw [show nI (60 * a + q) + 1 = nI (60 * a + (q + 1)) from nI_1 _]
  refine ⟨vp_in_nI (by omega) (by omega), ?_⟩
  rw [nI_clamp (show 60 * a + (q + 1) < 2 ^ 31 by omega), e0]
  have hst : cc_st (T q) = true := by unfold cc_st; simp only [decide_eq_true_eq]; omega
  have hsp : cc_sp (T q) = 0 := by
    unfold cc_sp
    repeat' split
    all_goals omega
  have har : cc_ar (T q) = 1 := by
    unfold cc_ar
    repeat' split
    all_goals omega
  refine br_f (cc_ne (T q) 1 (by omega)) ?_
  refine cc_yinF 10 25 (by omega) ?_
  refine br_t rfl ?_
  refine cc_yinT 30 33 (by omega) (by omega) ?_
  refine br_f cc_n10 ?_
  rw [show nI (60 * a + q) + 1 = nI (60 * a + (q + 1)) from nI_1 _]
  refine cc_yw C.1 C.2.1 l0 (cc_exk (k := 0) C.1 hq (by omega) (cc_spst hst hsp 0)) C.2.2.1 C.2.2.2 (fun w0 => ?_)
  refine ⟨cc_sV 30 4 (by omega) (by omega) (by omega), ?_⟩
  refine nm_r (e' := upd a_outputs (T q - 30) ((cc_vl T n (cc_lf a_variables a_inputs a_outputs a_timerDone a_timerElapsed a_counterValue a_counterDone a_edgeDone) a_cells) (q + 1))) (congrArg (fun k => upd a_outputs k ((cc_vl T n (cc_lf a_variables a_inputs a_outputs a_timerDone a_timerElapsed a_counterValue a_counterDone a_edgeDone) a_cells) (q + 1))) (cc_sI 30 (by omega) (by omega))) ?_
  exact h _ _ _ _ _ hys


theorem cc_ys_cel {post : SY → Prop} {T : Nat → Nat} {n a q : Nat} {L : List (Nat × Nat × Int32)} (C : cc_YC T n a a_tokens a_ends) (hq : q < n) (ht : T q = 34) (hlen : L.length ≤ 59)
    (hys : cc_ys a a_taskKind a_taskAt a_taskRounds a_taskLimit L)
    (h : ∀ num tk ta tr tl, cc_ys a tk ta tr tl L → post (f_time, f_active, f_running, f_open, 0, nI L.length, f_begun, a_variables, upd a_cells ((cc_vl T n (cc_lf a_variables a_inputs a_outputs a_timerDone a_timerElapsed a_counterValue a_counterDone a_edgeDone) a_cells) (q + 1) &&& 7).toNatClampNeg ((cc_vl T n (cc_lf a_variables a_inputs a_outputs a_timerDone a_timerElapsed a_counterValue a_counterDone a_edgeDone) a_cells) (cc_en T (q + 1))), a_inputs, a_outputs, a_timerOn, a_timerBegin, a_timerElapsed, a_timerDone, a_counterLast, a_counterValue, a_counterDone, a_edgeLast, a_edgeDone, a_sizes, a_tokens, a_ends, a_wants, num, tk, ta, tr, tl)) :
    wpY_statement post (f_time, f_active, f_running, f_open, 0, nI L.length, f_begun, a_variables, a_cells, a_inputs, a_outputs, a_timerOn, a_timerBegin, a_timerElapsed, a_timerDone, a_counterLast, a_counterValue, a_counterDone, a_edgeLast, a_edgeDone, a_sizes, a_tokens, a_ends, a_wants, a_numbers, a_taskKind, a_taskAt, a_taskRounds, a_taskLimit) (nI (60 * a + q)) := by
  have hn := C.1.2.2
  have ha := C.2.1
  have htq : T q < 291 := cc_va_lt (C.1.1 q hq).2
  have hT := cc_tI (show T q < 2147483648 by omega)
  have h2a : 2 ≤ cc_ar (T q) ∨ 1 ≤ cc_ar (T q) := by
    right
    have hh : cc_st (T q) = true := by unfold cc_st; simp only [decide_eq_true_eq]; omega
    exact cc_arr hh (by omega) (by omega)
  have l0 : q + 1 < n := cc_nx_lt C.1 hq (show 0 < cc_ar (T q) by omega)
  have e0 := C.2.2.2 (q + 1) l0
  have le0 := cc_en_le C.1 l0
  refine ⟨vp_in_nI (by omega) (by omega), ?_⟩
  refine nm_r (e' := nI (T q)) (by rw [nI_clamp (by omega)]; exact C.2.2.1 q hq) ?_
  refine br_f (cc_ne (T q) 2 (by omega)) (br_f (cc_ne (T q) 39 (by omega)) ?_)
  rw [show nI (60 * a + q) + 1 = nI (60 * a + (q + 1)) from nI_1 _]
  refine ⟨vp_in_nI (by omega) (by omega), ?_⟩
  rw [nI_clamp (show 60 * a + (q + 1) < 2 ^ 31 by omega), e0]
  have hst : cc_st (T q) = true := by unfold cc_st; simp only [decide_eq_true_eq]; omega
  have hsp : cc_sp (T q) = 0 := by
    unfold cc_sp
    repeat' split
    all_goals omega
  have har : cc_ar (T q) = 2 := by
    unfold cc_ar
    repeat' split
    all_goals omega
  have l1 : cc_en T (q + 1) < n := cc_nx_lt (k := 1) C.1 hq (by omega)
  refine br_f (cc_ne (T q) 1 (by omega)) ?_
  refine cc_yinF 10 25 (by omega) ?_
  refine br_t rfl ?_
  refine cc_yinF 30 33 (by omega) ?_
  refine br_t rfl ?_
  refine br_t (cc_eq (T q) 34 (by omega)) ?_
  rw [show nI (60 * a + q) + 1 = nI (60 * a + (q + 1)) from nI_1 _]
  refine cc_yw C.1 C.2.1 l0 (cc_exk (k := 0) C.1 hq (by omega) (cc_spst hst hsp 0)) C.2.2.1 C.2.2.2 (fun w0 => ?_)
  refine nm_e ?_
  refine cc_yw C.1 C.2.1 l1 (cc_exk (k := 1) C.1 hq (by omega) (cc_spst hst hsp 1)) C.2.2.1 C.2.2.2 (fun w1 => ?_)
  refine ⟨cc_and7 _, ?_⟩
  refine nm_e ?_
  exact h _ _ _ _ _ hys


theorem cc_ys_tim {post : SY → Prop} {T : Nat → Nat} {n a q : Nat} {L : List (Nat × Nat × Int32)} (C : cc_YC T n a a_tokens a_ends) (hq : q < n) (h1 : 60 ≤ T q) (h2 : T q ≤ 62) (hlen : L.length ≤ 59)
    (hys : cc_ys a a_taskKind a_taskAt a_taskRounds a_taskLimit L) (hb01 : cc_b01 a_timerOn)
    (h : ∀ num tk ta tr tl, cc_ys a tk ta tr tl L → post (f_time, f_active, f_running, f_open, 0, nI L.length, f_begun, a_variables, a_cells, a_inputs, a_outputs, cc_tOn a_timerOn (T q - 60) (cc_tr ((cc_vl T n (cc_lf a_variables a_inputs a_outputs a_timerDone a_timerElapsed a_counterValue a_counterDone a_edgeDone) a_cells) (q + 1))), cc_tBe a_timerOn a_timerBegin (T q - 60) (cc_tr ((cc_vl T n (cc_lf a_variables a_inputs a_outputs a_timerDone a_timerElapsed a_counterValue a_counterDone a_edgeDone) a_cells) (q + 1))) f_time, cc_tEl a_timerElapsed (T q - 60) (cc_tr ((cc_vl T n (cc_lf a_variables a_inputs a_outputs a_timerDone a_timerElapsed a_counterValue a_counterDone a_edgeDone) a_cells) (q + 1))) (f_time - cc_tBe a_timerOn a_timerBegin (T q - 60) (cc_tr ((cc_vl T n (cc_lf a_variables a_inputs a_outputs a_timerDone a_timerElapsed a_counterValue a_counterDone a_edgeDone) a_cells) (q + 1))) f_time (T q - 60)) ((cc_vl T n (cc_lf a_variables a_inputs a_outputs a_timerDone a_timerElapsed a_counterValue a_counterDone a_edgeDone) a_cells) (cc_en T (q + 1))), cc_tDo a_timerDone (T q - 60) (cc_tr ((cc_vl T n (cc_lf a_variables a_inputs a_outputs a_timerDone a_timerElapsed a_counterValue a_counterDone a_edgeDone) a_cells) (q + 1))) (f_time - cc_tBe a_timerOn a_timerBegin (T q - 60) (cc_tr ((cc_vl T n (cc_lf a_variables a_inputs a_outputs a_timerDone a_timerElapsed a_counterValue a_counterDone a_edgeDone) a_cells) (q + 1))) f_time (T q - 60)) ((cc_vl T n (cc_lf a_variables a_inputs a_outputs a_timerDone a_timerElapsed a_counterValue a_counterDone a_edgeDone) a_cells) (cc_en T (q + 1))), a_counterLast, a_counterValue, a_counterDone, a_edgeLast, a_edgeDone, a_sizes, a_tokens, a_ends, a_wants, num, tk, ta, tr, tl)) :
    wpY_statement post (f_time, f_active, f_running, f_open, 0, nI L.length, f_begun, a_variables, a_cells, a_inputs, a_outputs, a_timerOn, a_timerBegin, a_timerElapsed, a_timerDone, a_counterLast, a_counterValue, a_counterDone, a_edgeLast, a_edgeDone, a_sizes, a_tokens, a_ends, a_wants, a_numbers, a_taskKind, a_taskAt, a_taskRounds, a_taskLimit) (nI (60 * a + q)) := by
  have hn := C.1.2.2
  have ha := C.2.1
  have htq : T q < 291 := cc_va_lt (C.1.1 q hq).2
  have hT := cc_tI (show T q < 2147483648 by omega)
  have h2a : 2 ≤ cc_ar (T q) ∨ 1 ≤ cc_ar (T q) := by
    right
    have hh : cc_st (T q) = true := by unfold cc_st; simp only [decide_eq_true_eq]; omega
    exact cc_arr hh (by omega) (by omega)
  have l0 : q + 1 < n := cc_nx_lt C.1 hq (show 0 < cc_ar (T q) by omega)
  have e0 := C.2.2.2 (q + 1) l0
  have le0 := cc_en_le C.1 l0
  refine ⟨vp_in_nI (by omega) (by omega), ?_⟩
  refine nm_r (e' := nI (T q)) (by rw [nI_clamp (by omega)]; exact C.2.2.1 q hq) ?_
  refine br_f (cc_ne (T q) 2 (by omega)) (br_f (cc_ne (T q) 39 (by omega)) ?_)
  rw [show nI (60 * a + q) + 1 = nI (60 * a + (q + 1)) from nI_1 _]
  refine ⟨vp_in_nI (by omega) (by omega), ?_⟩
  rw [nI_clamp (show 60 * a + (q + 1) < 2 ^ 31 by omega), e0]
  have hst : cc_st (T q) = true := by unfold cc_st; simp only [decide_eq_true_eq]; omega
  have hsp : cc_sp (T q) = 0 := by
    unfold cc_sp
    repeat' split
    all_goals omega
  have har : cc_ar (T q) = 2 := by
    unfold cc_ar
    repeat' split
    all_goals omega
  have l1 : cc_en T (q + 1) < n := cc_nx_lt (k := 1) C.1 hq (by omega)
  refine br_f (cc_ne (T q) 1 (by omega)) ?_
  refine cc_yinF 10 25 (by omega) ?_
  refine br_t rfl ?_
  refine cc_yinF 30 33 (by omega) ?_
  refine br_t rfl ?_
  refine br_f (cc_ne (T q) 34 (by omega)) ?_
  refine br_f (cc_ne (T q) 35 (by omega)) ?_
  refine br_f (cc_ne (T q) 36 (by omega)) ?_
  refine br_f (cc_ne (T q) 37 (by omega)) ?_
  refine br_f (cc_ne (T q) 39 (by omega)) ?_
  refine cc_yinF 40 55 (by omega) ?_
  refine br_t rfl ?_
  refine br_f (cc_ne (T q) 56 (by omega)) ?_
  refine cc_yinT 60 62 (by omega) (by omega) ?_
  refine br_f cc_n10 ?_
  rw [show nI (60 * a + q) + 1 = nI (60 * a + (q + 1)) from nI_1 _]
  rw [show nI (T q) - 60 = nI (T q - 60) from pk_sub (b := 60) h1]
  refine cc_yw C.1 C.2.1 l0 (cc_exk (k := 0) C.1 hq (by omega) (cc_spst hst hsp 0)) C.2.2.1 C.2.2.2 (fun w0 => ?_)
  refine br_c (fun z => ?_) (fun z => ?_)
  · rw [cc_tr0 z] at h
    refine cc_yw C.1 C.2.1 l1 (cc_exk (k := 1) C.1 hq (by omega) (cc_spst hst hsp 1)) C.2.2.1 C.2.2.2 (fun w1 => ?_)
    exact cc_yti (e := false) (by omega) hb01 (h _ _ _ _ _ hys)
  · rw [cc_tr1 z] at h
    refine cc_yw C.1 C.2.1 l1 (cc_exk (k := 1) C.1 hq (by omega) (cc_spst hst hsp 1)) C.2.2.1 C.2.2.2 (fun w1 => ?_)
    exact cc_yti (e := true) (by omega) hb01 (h _ _ _ _ _ hys)


theorem cc_ys_cnt {post : SY → Prop} {T : Nat → Nat} {n a q : Nat} {L : List (Nat × Nat × Int32)} (C : cc_YC T n a a_tokens a_ends) (hq : q < n) (h1 : 63 ≤ T q) (h2 : T q ≤ 65) (hlen : L.length ≤ 59)
    (hys : cc_ys a a_taskKind a_taskAt a_taskRounds a_taskLimit L)
    (h : ∀ num tk ta tr tl, cc_ys a tk ta tr tl L → post (f_time, f_active, f_running, f_open, 0, nI L.length, f_begun, a_variables, a_cells, a_inputs, a_outputs, a_timerOn, a_timerBegin, a_timerElapsed, a_timerDone, upd a_counterLast (T q - 63) (cc_bI (cc_tr ((cc_vl T n (cc_lf a_variables a_inputs a_outputs a_timerDone a_timerElapsed a_counterValue a_counterDone a_edgeDone) a_cells) (q + 1)))), cc_cVa a_counterLast a_counterValue (T q - 63) (cc_tr ((cc_vl T n (cc_lf a_variables a_inputs a_outputs a_timerDone a_timerElapsed a_counterValue a_counterDone a_edgeDone) a_cells) (q + 1))) (cc_tr ((cc_vl T n (cc_lf a_variables a_inputs a_outputs a_timerDone a_timerElapsed a_counterValue a_counterDone a_edgeDone) a_cells) (cc_en T (q + 1)))), cc_cDo (cc_cVa a_counterLast a_counterValue (T q - 63) (cc_tr ((cc_vl T n (cc_lf a_variables a_inputs a_outputs a_timerDone a_timerElapsed a_counterValue a_counterDone a_edgeDone) a_cells) (q + 1))) (cc_tr ((cc_vl T n (cc_lf a_variables a_inputs a_outputs a_timerDone a_timerElapsed a_counterValue a_counterDone a_edgeDone) a_cells) (cc_en T (q + 1))))) a_counterDone (T q - 63) ((cc_vl T n (cc_lf a_variables a_inputs a_outputs a_timerDone a_timerElapsed a_counterValue a_counterDone a_edgeDone) a_cells) (cc_en T (cc_en T (q + 1)))), a_edgeLast, a_edgeDone, a_sizes, a_tokens, a_ends, a_wants, num, tk, ta, tr, tl)) :
    wpY_statement post (f_time, f_active, f_running, f_open, 0, nI L.length, f_begun, a_variables, a_cells, a_inputs, a_outputs, a_timerOn, a_timerBegin, a_timerElapsed, a_timerDone, a_counterLast, a_counterValue, a_counterDone, a_edgeLast, a_edgeDone, a_sizes, a_tokens, a_ends, a_wants, a_numbers, a_taskKind, a_taskAt, a_taskRounds, a_taskLimit) (nI (60 * a + q)) := by
  have hn := C.1.2.2
  have ha := C.2.1
  have htq : T q < 291 := cc_va_lt (C.1.1 q hq).2
  have hT := cc_tI (show T q < 2147483648 by omega)
  have h2a : 2 ≤ cc_ar (T q) ∨ 1 ≤ cc_ar (T q) := by
    right
    have hh : cc_st (T q) = true := by unfold cc_st; simp only [decide_eq_true_eq]; omega
    exact cc_arr hh (by omega) (by omega)
  have l0 : q + 1 < n := cc_nx_lt C.1 hq (show 0 < cc_ar (T q) by omega)
  have e0 := C.2.2.2 (q + 1) l0
  have le0 := cc_en_le C.1 l0
  refine ⟨vp_in_nI (by omega) (by omega), ?_⟩
  refine nm_r (e' := nI (T q)) (by rw [nI_clamp (by omega)]; exact C.2.2.1 q hq) ?_
  refine br_f (cc_ne (T q) 2 (by omega)) (br_f (cc_ne (T q) 39 (by omega)) ?_)
  rw [show nI (60 * a + q) + 1 = nI (60 * a + (q + 1)) from nI_1 _]
  refine ⟨vp_in_nI (by omega) (by omega), ?_⟩
  rw [nI_clamp (show 60 * a + (q + 1) < 2 ^ 31 by omega), e0]
  have hst : cc_st (T q) = true := by unfold cc_st; simp only [decide_eq_true_eq]; omega
  have hsp : cc_sp (T q) = 0 := by
    unfold cc_sp
    repeat' split
    all_goals omega
  have har : cc_ar (T q) = 3 := by
    unfold cc_ar
    repeat' split
    all_goals omega
  have l1 : cc_en T (q + 1) < n := cc_nx_lt (k := 1) C.1 hq (by omega)
  have l2 : cc_en T (cc_en T (q + 1)) < n := cc_nx_lt (k := 2) C.1 hq (by omega)
  have e1 := C.2.2.2 _ l1
  refine br_f (cc_ne (T q) 1 (by omega)) ?_
  refine cc_yinF 10 25 (by omega) ?_
  refine br_t rfl ?_
  refine cc_yinF 30 33 (by omega) ?_
  refine br_t rfl ?_
  refine br_f (cc_ne (T q) 34 (by omega)) ?_
  refine br_f (cc_ne (T q) 35 (by omega)) ?_
  refine br_f (cc_ne (T q) 36 (by omega)) ?_
  refine br_f (cc_ne (T q) 37 (by omega)) ?_
  refine br_f (cc_ne (T q) 39 (by omega)) ?_
  refine cc_yinF 40 55 (by omega) ?_
  refine br_t rfl ?_
  refine br_f (cc_ne (T q) 56 (by omega)) ?_
  refine cc_yinF 60 62 (by omega) ?_
  refine br_t rfl ?_
  refine cc_yinT 63 65 (by omega) (by omega) ?_
  refine br_f cc_n10 ?_
  rw [show nI (60 * a + q) + 1 = nI (60 * a + (q + 1)) from nI_1 _]
  rw [show nI (T q) - 63 = nI (T q - 63) from pk_sub (b := 63) h1]
  refine cc_yw C.1 C.2.1 l0 (cc_exk (k := 0) C.1 hq (by omega) (cc_spst hst hsp 0)) C.2.2.1 C.2.2.2 (fun w0 => ?_)
  refine br_c (fun z => ?_) (fun z => ?_)
  · rw [cc_tr0 z] at h
    refine cc_yw C.1 C.2.1 l1 (cc_exk (k := 1) C.1 hq (by omega) (cc_spst hst hsp 1)) C.2.2.1 C.2.2.2 (fun w1 => ?_)
    refine br_c (fun y => ?_) (fun y => ?_)
    · rw [cc_tr0 y] at h
      refine ⟨vp_in_nI (by omega) (by omega), ?_⟩
      try dsimp only
      rw [nI_clamp (by omega), e1]
      refine cc_yw C.1 C.2.1 l2 (cc_exk (k := 2) C.1 hq (by omega) (cc_spst hst hsp 2)) C.2.2.1 C.2.2.2 (fun w2 => ?_)
      exact cc_ycn (e := false) (f := false) (by omega) (h _ _ _ _ _ hys)
    · rw [cc_tr1 y] at h
      refine ⟨vp_in_nI (by omega) (by omega), ?_⟩
      try dsimp only
      rw [nI_clamp (by omega), e1]
      refine cc_yw C.1 C.2.1 l2 (cc_exk (k := 2) C.1 hq (by omega) (cc_spst hst hsp 2)) C.2.2.1 C.2.2.2 (fun w2 => ?_)
      exact cc_ycn (e := false) (f := true) (by omega) (h _ _ _ _ _ hys)
  · rw [cc_tr1 z] at h
    refine cc_yw C.1 C.2.1 l1 (cc_exk (k := 1) C.1 hq (by omega) (cc_spst hst hsp 1)) C.2.2.1 C.2.2.2 (fun w1 => ?_)
    refine br_c (fun y => ?_) (fun y => ?_)
    · rw [cc_tr0 y] at h
      refine ⟨vp_in_nI (by omega) (by omega), ?_⟩
      try dsimp only
      rw [nI_clamp (by omega), e1]
      refine cc_yw C.1 C.2.1 l2 (cc_exk (k := 2) C.1 hq (by omega) (cc_spst hst hsp 2)) C.2.2.1 C.2.2.2 (fun w2 => ?_)
      exact cc_ycn (e := true) (f := false) (by omega) (h _ _ _ _ _ hys)
    · rw [cc_tr1 y] at h
      refine ⟨vp_in_nI (by omega) (by omega), ?_⟩
      try dsimp only
      rw [nI_clamp (by omega), e1]
      refine cc_yw C.1 C.2.1 l2 (cc_exk (k := 2) C.1 hq (by omega) (cc_spst hst hsp 2)) C.2.2.1 C.2.2.2 (fun w2 => ?_)
      exact cc_ycn (e := true) (f := true) (by omega) (h _ _ _ _ _ hys)


theorem cc_ys_edg {post : SY → Prop} {T : Nat → Nat} {n a q : Nat} {L : List (Nat × Nat × Int32)} (C : cc_YC T n a a_tokens a_ends) (hq : q < n) (h1 : 66 ≤ T q) (h2 : T q ≤ 68) (hlen : L.length ≤ 59)
    (hys : cc_ys a a_taskKind a_taskAt a_taskRounds a_taskLimit L)
    (h : ∀ num tk ta tr tl, cc_ys a tk ta tr tl L → post (f_time, f_active, f_running, f_open, 0, nI L.length, f_begun, a_variables, a_cells, a_inputs, a_outputs, a_timerOn, a_timerBegin, a_timerElapsed, a_timerDone, a_counterLast, a_counterValue, a_counterDone, upd a_edgeLast (T q - 66) (cc_bI (cc_tr ((cc_vl T n (cc_lf a_variables a_inputs a_outputs a_timerDone a_timerElapsed a_counterValue a_counterDone a_edgeDone) a_cells) (q + 1)))), cc_eDo a_edgeLast a_edgeDone (T q - 66) (cc_tr ((cc_vl T n (cc_lf a_variables a_inputs a_outputs a_timerDone a_timerElapsed a_counterValue a_counterDone a_edgeDone) a_cells) (q + 1))), a_sizes, a_tokens, a_ends, a_wants, num, tk, ta, tr, tl)) :
    wpY_statement post (f_time, f_active, f_running, f_open, 0, nI L.length, f_begun, a_variables, a_cells, a_inputs, a_outputs, a_timerOn, a_timerBegin, a_timerElapsed, a_timerDone, a_counterLast, a_counterValue, a_counterDone, a_edgeLast, a_edgeDone, a_sizes, a_tokens, a_ends, a_wants, a_numbers, a_taskKind, a_taskAt, a_taskRounds, a_taskLimit) (nI (60 * a + q)) := by
  have hn := C.1.2.2
  have ha := C.2.1
  have htq : T q < 291 := cc_va_lt (C.1.1 q hq).2
  have hT := cc_tI (show T q < 2147483648 by omega)
  have h2a : 2 ≤ cc_ar (T q) ∨ 1 ≤ cc_ar (T q) := by
    right
    have hh : cc_st (T q) = true := by unfold cc_st; simp only [decide_eq_true_eq]; omega
    exact cc_arr hh (by omega) (by omega)
  have l0 : q + 1 < n := cc_nx_lt C.1 hq (show 0 < cc_ar (T q) by omega)
  have e0 := C.2.2.2 (q + 1) l0
  have le0 := cc_en_le C.1 l0
  refine ⟨vp_in_nI (by omega) (by omega), ?_⟩
  refine nm_r (e' := nI (T q)) (by rw [nI_clamp (by omega)]; exact C.2.2.1 q hq) ?_
  refine br_f (cc_ne (T q) 2 (by omega)) (br_f (cc_ne (T q) 39 (by omega)) ?_)
  rw [show nI (60 * a + q) + 1 = nI (60 * a + (q + 1)) from nI_1 _]
  refine ⟨vp_in_nI (by omega) (by omega), ?_⟩
  rw [nI_clamp (show 60 * a + (q + 1) < 2 ^ 31 by omega), e0]
  have hst : cc_st (T q) = true := by unfold cc_st; simp only [decide_eq_true_eq]; omega
  have hsp : cc_sp (T q) = 0 := by
    unfold cc_sp
    repeat' split
    all_goals omega
  have har : cc_ar (T q) = 1 := by
    unfold cc_ar
    repeat' split
    all_goals omega
  refine br_f (cc_ne (T q) 1 (by omega)) ?_
  refine cc_yinF 10 25 (by omega) ?_
  refine br_t rfl ?_
  refine cc_yinF 30 33 (by omega) ?_
  refine br_t rfl ?_
  refine br_f (cc_ne (T q) 34 (by omega)) ?_
  refine br_f (cc_ne (T q) 35 (by omega)) ?_
  refine br_f (cc_ne (T q) 36 (by omega)) ?_
  refine br_f (cc_ne (T q) 37 (by omega)) ?_
  refine br_f (cc_ne (T q) 39 (by omega)) ?_
  refine cc_yinF 40 55 (by omega) ?_
  refine br_t rfl ?_
  refine br_f (cc_ne (T q) 56 (by omega)) ?_
  refine cc_yinF 60 62 (by omega) ?_
  refine br_t rfl ?_
  refine cc_yinF 63 65 (by omega) ?_
  refine br_t rfl ?_
  refine cc_yinT 66 68 (by omega) (by omega) ?_
  refine br_f cc_n10 ?_
  rw [show nI (60 * a + q) + 1 = nI (60 * a + (q + 1)) from nI_1 _]
  rw [show nI (T q) - 66 = nI (T q - 66) from pk_sub (b := 66) h1]
  refine cc_yw C.1 C.2.1 l0 (cc_exk (k := 0) C.1 hq (by omega) (cc_spst hst hsp 0)) C.2.2.1 C.2.2.2 (fun w0 => ?_)
  refine br_c (fun z => ?_) (fun z => ?_)
  · rw [cc_tr0 z] at h
    exact cc_yed (e := false) (by omega) (h _ _ _ _ _ hys)
  · rw [cc_tr1 z] at h
    exact cc_yed (e := true) (by omega) (h _ _ _ _ _ hys)


theorem cc_ys_seq {post : SY → Prop} {T : Nat → Nat} {n a q : Nat} {L : List (Nat × Nat × Int32)} (C : cc_YC T n a a_tokens a_ends) (hq : q < n) (ht : T q = 1) (hlen : L.length ≤ 59)
    (hys : cc_ys a a_taskKind a_taskAt a_taskRounds a_taskLimit L)
    (h : ∀ num tk ta tr tl, cc_ys a tk ta tr tl ((cc_nx T 0 (q + 1), 0, 0) :: (cc_nx T 1 (q + 1), 0, 0) :: L) → post (f_time, f_active, f_running, f_open, 0, nI (L.length + 1 + 1), f_begun, a_variables, a_cells, a_inputs, a_outputs, a_timerOn, a_timerBegin, a_timerElapsed, a_timerDone, a_counterLast, a_counterValue, a_counterDone, a_edgeLast, a_edgeDone, a_sizes, a_tokens, a_ends, a_wants, num, tk, ta, tr, tl)) :
    wpY_statement post (f_time, f_active, f_running, f_open, 0, nI L.length, f_begun, a_variables, a_cells, a_inputs, a_outputs, a_timerOn, a_timerBegin, a_timerElapsed, a_timerDone, a_counterLast, a_counterValue, a_counterDone, a_edgeLast, a_edgeDone, a_sizes, a_tokens, a_ends, a_wants, a_numbers, a_taskKind, a_taskAt, a_taskRounds, a_taskLimit) (nI (60 * a + q)) := by
  have hn := C.1.2.2
  have ha := C.2.1
  have htq : T q < 291 := cc_va_lt (C.1.1 q hq).2
  have hT := cc_tI (show T q < 2147483648 by omega)
  have h2a : 2 ≤ cc_ar (T q) ∨ 1 ≤ cc_ar (T q) := by
    right
    have hh : cc_st (T q) = true := by unfold cc_st; simp only [decide_eq_true_eq]; omega
    exact cc_arr hh (by omega) (by omega)
  have l0 : q + 1 < n := cc_nx_lt C.1 hq (show 0 < cc_ar (T q) by omega)
  have e0 := C.2.2.2 (q + 1) l0
  have le0 := cc_en_le C.1 l0
  refine ⟨vp_in_nI (by omega) (by omega), ?_⟩
  refine nm_r (e' := nI (T q)) (by rw [nI_clamp (by omega)]; exact C.2.2.1 q hq) ?_
  refine br_f (cc_ne (T q) 2 (by omega)) (br_f (cc_ne (T q) 39 (by omega)) ?_)
  rw [show nI (60 * a + q) + 1 = nI (60 * a + (q + 1)) from nI_1 _]
  refine ⟨vp_in_nI (by omega) (by omega), ?_⟩
  rw [nI_clamp (show 60 * a + (q + 1) < 2 ^ 31 by omega), e0]
  have har : cc_ar (T q) = 2 := by
    unfold cc_ar
    repeat' split
    all_goals omega
  refine br_t (cc_eq (T q) 1 (by omega)) ?_
  rw [show nI (60 * a + q) + 1 = nI (60 * a + (q + 1)) from nI_1 _]
  refine cc_ytd (by omega) ?_
  refine cc_ytd (by omega) ?_
  exact h _ _ _ _ _ (cc_ys_push0 (q + 1) 0 (cc_ys_push0 (cc_en T (q + 1)) 0 hys))


theorem cc_ys_if {post : SY → Prop} {T : Nat → Nat} {n a q : Nat} {L : List (Nat × Nat × Int32)} (C : cc_YC T n a a_tokens a_ends) (hq : q < n) (ht : T q = 35) (hlen : L.length ≤ 59)
    (hys : cc_ys a a_taskKind a_taskAt a_taskRounds a_taskLimit L)
    (h : ∀ num tk ta tr tl, cc_ys a tk ta tr tl ((cc_nx T (if (cc_vl T n (cc_lf a_variables a_inputs a_outputs a_timerDone a_timerElapsed a_counterValue a_counterDone a_edgeDone) a_cells) (q + 1) = 0 then 2 else 1) (q + 1), 0, 0) :: L) → post (f_time, f_active, f_running, f_open, 0, nI (L.length + 1), f_begun, a_variables, a_cells, a_inputs, a_outputs, a_timerOn, a_timerBegin, a_timerElapsed, a_timerDone, a_counterLast, a_counterValue, a_counterDone, a_edgeLast, a_edgeDone, a_sizes, a_tokens, a_ends, a_wants, num, tk, ta, tr, tl)) :
    wpY_statement post (f_time, f_active, f_running, f_open, 0, nI L.length, f_begun, a_variables, a_cells, a_inputs, a_outputs, a_timerOn, a_timerBegin, a_timerElapsed, a_timerDone, a_counterLast, a_counterValue, a_counterDone, a_edgeLast, a_edgeDone, a_sizes, a_tokens, a_ends, a_wants, a_numbers, a_taskKind, a_taskAt, a_taskRounds, a_taskLimit) (nI (60 * a + q)) := by
  have hn := C.1.2.2
  have ha := C.2.1
  have htq : T q < 291 := cc_va_lt (C.1.1 q hq).2
  have hT := cc_tI (show T q < 2147483648 by omega)
  have h2a : 2 ≤ cc_ar (T q) ∨ 1 ≤ cc_ar (T q) := by
    right
    have hh : cc_st (T q) = true := by unfold cc_st; simp only [decide_eq_true_eq]; omega
    exact cc_arr hh (by omega) (by omega)
  have l0 : q + 1 < n := cc_nx_lt C.1 hq (show 0 < cc_ar (T q) by omega)
  have e0 := C.2.2.2 (q + 1) l0
  have le0 := cc_en_le C.1 l0
  refine ⟨vp_in_nI (by omega) (by omega), ?_⟩
  refine nm_r (e' := nI (T q)) (by rw [nI_clamp (by omega)]; exact C.2.2.1 q hq) ?_
  refine br_f (cc_ne (T q) 2 (by omega)) (br_f (cc_ne (T q) 39 (by omega)) ?_)
  rw [show nI (60 * a + q) + 1 = nI (60 * a + (q + 1)) from nI_1 _]
  refine ⟨vp_in_nI (by omega) (by omega), ?_⟩
  rw [nI_clamp (show 60 * a + (q + 1) < 2 ^ 31 by omega), e0]
  have har : cc_ar (T q) = 3 := by
    unfold cc_ar
    repeat' split
    all_goals omega
  have l1 : cc_en T (q + 1) < n := cc_nx_lt (k := 1) C.1 hq (by omega)
  have e1 := C.2.2.2 _ l1
  refine br_f (cc_ne (T q) 1 (by omega)) ?_
  refine cc_yinF 10 25 (by omega) ?_
  refine br_t rfl ?_
  refine cc_yinF 30 33 (by omega) ?_
  refine br_t rfl ?_
  refine br_f (cc_ne (T q) 34 (by omega)) ?_
  refine br_t (cc_eq (T q) 35 (by omega)) ?_
  rw [show nI (60 * a + q) + 1 = nI (60 * a + (q + 1)) from nI_1 _]
  refine cc_yw C.1 C.2.1 l0 (cc_exk (k := 0) C.1 hq (by omega) (by rw [ht]; decide)) C.2.2.1 C.2.2.2 (fun w0 => ?_)
  refine br_c (fun z => ?_) (fun z => ?_)
  · rw [if_pos z] at h
    refine ⟨vp_in_nI (by omega) (by omega), ?_⟩
    try dsimp only
    rw [nI_clamp (by omega), e1]
    refine cc_ytd (by omega) ?_
    exact h _ _ _ _ _ (cc_ys_push0 _ 0 hys)
  · rw [if_neg z] at h
    refine cc_ytd (by omega) ?_
    exact h _ _ _ _ _ (cc_ys_push0 _ 0 hys)


theorem cc_ys_cho {post : SY → Prop} {T : Nat → Nat} {n a q : Nat} {L : List (Nat × Nat × Int32)} (C : cc_YC T n a a_tokens a_ends) (hq : q < n) (ht : T q = 56) (hlen : L.length ≤ 59)
    (hys : cc_ys a a_taskKind a_taskAt a_taskRounds a_taskLimit L)
    (h : ∀ num tk ta tr tl, cc_ys a tk ta tr tl ((cc_nx T (if (cc_vl T n (cc_lf a_variables a_inputs a_outputs a_timerDone a_timerElapsed a_counterValue a_counterDone a_edgeDone) a_cells) (q + 1) = 0 then 1 else if (cc_vl T n (cc_lf a_variables a_inputs a_outputs a_timerDone a_timerElapsed a_counterValue a_counterDone a_edgeDone) a_cells) (q + 1) = 1 then 2 else 3) (q + 1), 0, 0) :: L) → post (f_time, f_active, f_running, f_open, 0, nI (L.length + 1), f_begun, a_variables, a_cells, a_inputs, a_outputs, a_timerOn, a_timerBegin, a_timerElapsed, a_timerDone, a_counterLast, a_counterValue, a_counterDone, a_edgeLast, a_edgeDone, a_sizes, a_tokens, a_ends, a_wants, num, tk, ta, tr, tl)) :
    wpY_statement post (f_time, f_active, f_running, f_open, 0, nI L.length, f_begun, a_variables, a_cells, a_inputs, a_outputs, a_timerOn, a_timerBegin, a_timerElapsed, a_timerDone, a_counterLast, a_counterValue, a_counterDone, a_edgeLast, a_edgeDone, a_sizes, a_tokens, a_ends, a_wants, a_numbers, a_taskKind, a_taskAt, a_taskRounds, a_taskLimit) (nI (60 * a + q)) := by
  have hn := C.1.2.2
  have ha := C.2.1
  have htq : T q < 291 := cc_va_lt (C.1.1 q hq).2
  have hT := cc_tI (show T q < 2147483648 by omega)
  have h2a : 2 ≤ cc_ar (T q) ∨ 1 ≤ cc_ar (T q) := by
    right
    have hh : cc_st (T q) = true := by unfold cc_st; simp only [decide_eq_true_eq]; omega
    exact cc_arr hh (by omega) (by omega)
  have l0 : q + 1 < n := cc_nx_lt C.1 hq (show 0 < cc_ar (T q) by omega)
  have e0 := C.2.2.2 (q + 1) l0
  have le0 := cc_en_le C.1 l0
  refine ⟨vp_in_nI (by omega) (by omega), ?_⟩
  refine nm_r (e' := nI (T q)) (by rw [nI_clamp (by omega)]; exact C.2.2.1 q hq) ?_
  refine br_f (cc_ne (T q) 2 (by omega)) (br_f (cc_ne (T q) 39 (by omega)) ?_)
  rw [show nI (60 * a + q) + 1 = nI (60 * a + (q + 1)) from nI_1 _]
  refine ⟨vp_in_nI (by omega) (by omega), ?_⟩
  rw [nI_clamp (show 60 * a + (q + 1) < 2 ^ 31 by omega), e0]
  have har : cc_ar (T q) = 4 := by
    unfold cc_ar
    repeat' split
    all_goals omega
  have l1 : cc_en T (q + 1) < n := cc_nx_lt (k := 1) C.1 hq (by omega)
  have l2 : cc_en T (cc_en T (q + 1)) < n := cc_nx_lt (k := 2) C.1 hq (by omega)
  have e1 := C.2.2.2 _ l1
  have e2 := C.2.2.2 _ l2
  refine br_f (cc_ne (T q) 1 (by omega)) ?_
  refine cc_yinF 10 25 (by omega) ?_
  refine br_t rfl ?_
  refine cc_yinF 30 33 (by omega) ?_
  refine br_t rfl ?_
  refine br_f (cc_ne (T q) 34 (by omega)) ?_
  refine br_f (cc_ne (T q) 35 (by omega)) ?_
  refine br_f (cc_ne (T q) 36 (by omega)) ?_
  refine br_f (cc_ne (T q) 37 (by omega)) ?_
  refine br_f (cc_ne (T q) 39 (by omega)) ?_
  refine cc_yinF 40 55 (by omega) ?_
  refine br_t rfl ?_
  refine br_t (cc_eq (T q) 56 (by omega)) ?_
  rw [show nI (60 * a + q) + 1 = nI (60 * a + (q + 1)) from nI_1 _]
  refine cc_yw C.1 C.2.1 l0 (cc_exk (k := 0) C.1 hq (by omega) (by rw [ht]; decide)) C.2.2.1 C.2.2.2 (fun w0 => ?_)
  refine br_c (fun z => ?_) (fun z => br_c (fun y => ?_) (fun y => ?_))
  · rw [if_pos z] at h
    refine cc_ytd (by omega) ?_
    exact h _ _ _ _ _ (cc_ys_push0 _ 0 hys)
  · rw [if_neg z, if_pos y] at h
    refine ⟨vp_in_nI (by omega) (by omega), ?_⟩
    try dsimp only
    rw [nI_clamp (by omega), e1]
    refine cc_ytd (by omega) ?_
    exact h _ _ _ _ _ (cc_ys_push0 _ 0 hys)
  · rw [if_neg z, if_neg y] at h
    refine ⟨vp_in_nI (by omega) (by omega), ?_⟩
    try dsimp only
    rw [nI_clamp (show 60 * a + cc_en T (q + 1) < 2 ^ 31 by omega), e1]
    refine ⟨vp_in_nI (by omega) (by omega), ?_⟩
    rw [nI_clamp (show 60 * a + cc_en T (cc_en T (q + 1)) < 2 ^ 31 by omega), e2]
    refine cc_ytd (by omega) ?_
    exact h _ _ _ _ _ (cc_ys_push0 _ 0 hys)


theorem cc_ys_for {post : SY → Prop} {T : Nat → Nat} {n a q : Nat} {L : List (Nat × Nat × Int32)} (C : cc_YC T n a a_tokens a_ends) (hq : q < n) (h1 : 40 ≤ T q) (h2 : T q ≤ 55) (hlen : L.length ≤ 59)
    (hys : cc_ys a a_taskKind a_taskAt a_taskRounds a_taskLimit L)
    (h : ∀ num tk ta tr tl, cc_ys a tk ta tr tl ((q, 1, (cc_vl T n (cc_lf a_variables a_inputs a_outputs a_timerDone a_timerElapsed a_counterValue a_counterDone a_edgeDone) a_cells) (cc_en T (q + 1))) :: L) → post (f_time, f_active, f_running, f_open, 0, nI (L.length + 1), f_begun, upd a_variables (T q - 40) ((cc_vl T n (cc_lf a_variables a_inputs a_outputs a_timerDone a_timerElapsed a_counterValue a_counterDone a_edgeDone) a_cells) (q + 1)), a_cells, a_inputs, a_outputs, a_timerOn, a_timerBegin, a_timerElapsed, a_timerDone, a_counterLast, a_counterValue, a_counterDone, a_edgeLast, a_edgeDone, a_sizes, a_tokens, a_ends, a_wants, num, tk, ta, tr, tl)) :
    wpY_statement post (f_time, f_active, f_running, f_open, 0, nI L.length, f_begun, a_variables, a_cells, a_inputs, a_outputs, a_timerOn, a_timerBegin, a_timerElapsed, a_timerDone, a_counterLast, a_counterValue, a_counterDone, a_edgeLast, a_edgeDone, a_sizes, a_tokens, a_ends, a_wants, a_numbers, a_taskKind, a_taskAt, a_taskRounds, a_taskLimit) (nI (60 * a + q)) := by
  have hn := C.1.2.2
  have ha := C.2.1
  have htq : T q < 291 := cc_va_lt (C.1.1 q hq).2
  have hT := cc_tI (show T q < 2147483648 by omega)
  have h2a : 2 ≤ cc_ar (T q) ∨ 1 ≤ cc_ar (T q) := by
    right
    have hh : cc_st (T q) = true := by unfold cc_st; simp only [decide_eq_true_eq]; omega
    exact cc_arr hh (by omega) (by omega)
  have l0 : q + 1 < n := cc_nx_lt C.1 hq (show 0 < cc_ar (T q) by omega)
  have e0 := C.2.2.2 (q + 1) l0
  have le0 := cc_en_le C.1 l0
  refine ⟨vp_in_nI (by omega) (by omega), ?_⟩
  refine nm_r (e' := nI (T q)) (by rw [nI_clamp (by omega)]; exact C.2.2.1 q hq) ?_
  refine br_f (cc_ne (T q) 2 (by omega)) (br_f (cc_ne (T q) 39 (by omega)) ?_)
  rw [show nI (60 * a + q) + 1 = nI (60 * a + (q + 1)) from nI_1 _]
  refine ⟨vp_in_nI (by omega) (by omega), ?_⟩
  rw [nI_clamp (show 60 * a + (q + 1) < 2 ^ 31 by omega), e0]
  have har : cc_ar (T q) = 3 := by
    unfold cc_ar
    repeat' split
    all_goals omega
  have l1 : cc_en T (q + 1) < n := cc_nx_lt (k := 1) C.1 hq (by omega)
  have ts0 : ∀ k, k < 2 → cc_ts (T q) k = false := by
    intro k hk
    unfold cc_ts
    rw [if_neg (by omega), if_neg (by omega), if_neg (by omega)]
    simp only [decide_eq_false_iff_not]
    omega
  refine br_f (cc_ne (T q) 1 (by omega)) ?_
  refine cc_yinF 10 25 (by omega) ?_
  refine br_t rfl ?_
  refine cc_yinF 30 33 (by omega) ?_
  refine br_t rfl ?_
  refine br_f (cc_ne (T q) 34 (by omega)) ?_
  refine br_f (cc_ne (T q) 35 (by omega)) ?_
  refine br_f (cc_ne (T q) 36 (by omega)) ?_
  refine br_f (cc_ne (T q) 37 (by omega)) ?_
  refine br_f (cc_ne (T q) 39 (by omega)) ?_
  refine cc_yinT 40 55 (by omega) (by omega) ?_
  refine br_f cc_n10 ?_
  rw [show nI (60 * a + q) + 1 = nI (60 * a + (q + 1)) from nI_1 _]
  refine cc_yw C.1 C.2.1 l1 (cc_exk (k := 1) C.1 hq (by omega) (ts0 1 (by omega))) C.2.2.1 C.2.2.2 (fun w1 => ?_)
  refine cc_yw C.1 C.2.1 l0 (cc_exk (k := 0) C.1 hq (by omega) (ts0 0 (by omega))) C.2.2.1 C.2.2.2 (fun w0 => ?_)
  refine ⟨cc_sV 40 16 (by omega) (by omega) (by omega), ?_⟩
  refine nm_r (e' := upd a_variables (T q - 40) ((cc_vl T n (cc_lf a_variables a_inputs a_outputs a_timerDone a_timerElapsed a_counterValue a_counterDone a_edgeDone) a_cells) (q + 1))) (congrArg (fun k => upd a_variables k ((cc_vl T n (cc_lf a_variables a_inputs a_outputs a_timerDone a_timerElapsed a_counterValue a_counterDone a_edgeDone) a_cells) (q + 1))) (cc_sI 40 (by omega) (by omega))) ?_
  refine cc_ytd (by omega) ?_
  exact h _ _ _ _ _ (cc_ys_push1 _ _ hys)


theorem cc_ys_whi {post : SY → Prop} {T : Nat → Nat} {n a q : Nat} {L : List (Nat × Nat × Int32)} (C : cc_YC T n a a_tokens a_ends) (hq : q < n) (ht : T q = 36 ∨ T q = 37) (hlen : L.length ≤ 59)
    (hys : cc_ys a a_taskKind a_taskAt a_taskRounds a_taskLimit L)
    (h : ∀ num tk ta tr tl, cc_ys a tk ta tr tl ((q, 1, 0) :: L) → post (f_time, f_active, f_running, f_open, 0, nI (L.length + 1), f_begun, a_variables, a_cells, a_inputs, a_outputs, a_timerOn, a_timerBegin, a_timerElapsed, a_timerDone, a_counterLast, a_counterValue, a_counterDone, a_edgeLast, a_edgeDone, a_sizes, a_tokens, a_ends, a_wants, num, tk, ta, tr, tl)) :
    wpY_statement post (f_time, f_active, f_running, f_open, 0, nI L.length, f_begun, a_variables, a_cells, a_inputs, a_outputs, a_timerOn, a_timerBegin, a_timerElapsed, a_timerDone, a_counterLast, a_counterValue, a_counterDone, a_edgeLast, a_edgeDone, a_sizes, a_tokens, a_ends, a_wants, a_numbers, a_taskKind, a_taskAt, a_taskRounds, a_taskLimit) (nI (60 * a + q)) := by
  have hn := C.1.2.2
  have ha := C.2.1
  have htq : T q < 291 := cc_va_lt (C.1.1 q hq).2
  have hT := cc_tI (show T q < 2147483648 by omega)
  have h2a : 2 ≤ cc_ar (T q) ∨ 1 ≤ cc_ar (T q) := by
    right
    have hh : cc_st (T q) = true := by unfold cc_st; simp only [decide_eq_true_eq]; omega
    exact cc_arr hh (by omega) (by omega)
  have l0 : q + 1 < n := cc_nx_lt C.1 hq (show 0 < cc_ar (T q) by omega)
  have e0 := C.2.2.2 (q + 1) l0
  have le0 := cc_en_le C.1 l0
  refine ⟨vp_in_nI (by omega) (by omega), ?_⟩
  refine nm_r (e' := nI (T q)) (by rw [nI_clamp (by omega)]; exact C.2.2.1 q hq) ?_
  refine br_f (cc_ne (T q) 2 (by omega)) (br_f (cc_ne (T q) 39 (by omega)) ?_)
  rw [show nI (60 * a + q) + 1 = nI (60 * a + (q + 1)) from nI_1 _]
  refine ⟨vp_in_nI (by omega) (by omega), ?_⟩
  rw [nI_clamp (show 60 * a + (q + 1) < 2 ^ 31 by omega), e0]
  by_cases h36 : T q = 36
  · refine br_f (cc_ne (T q) 1 (by omega)) ?_
    refine cc_yinF 10 25 (by omega) ?_
    refine br_t rfl ?_
    refine cc_yinF 30 33 (by omega) ?_
    refine br_t rfl ?_
    refine br_f (cc_ne (T q) 34 (by omega)) ?_
    refine br_f (cc_ne (T q) 35 (by omega)) ?_
    refine br_t (cc_eq (T q) 36 (by omega)) ?_
    refine cc_ytd (by omega) ?_
    exact h _ _ _ _ _ (cc_ys_push1 _ _ hys)
  · refine br_f (cc_ne (T q) 1 (by omega)) ?_
    refine cc_yinF 10 25 (by omega) ?_
    refine br_t rfl ?_
    refine cc_yinF 30 33 (by omega) ?_
    refine br_t rfl ?_
    refine br_f (cc_ne (T q) 34 (by omega)) ?_
    refine br_f (cc_ne (T q) 35 (by omega)) ?_
    refine br_f (cc_ne (T q) 36 (by omega)) ?_
    refine br_t (cc_eq (T q) 37 (by omega)) ?_
    refine cc_ytd (by omega) ?_
    exact h _ _ _ _ _ (cc_ys_push1 _ _ hys)


end
end
section
section
variable {f_time f_active f_running f_open f_depth f_tasks f_begun : Int32} {a_variables a_cells a_inputs a_outputs a_timerOn a_timerBegin a_timerElapsed a_timerDone a_counterLast a_counterValue a_counterDone a_edgeLast a_edgeDone a_sizes a_tokens a_ends a_wants a_numbers a_taskKind a_taskAt a_taskRounds a_taskLimit : Nat → Int32}
theorem cc_ypre {T : Nat → Nat} {n a q : Nat} (C : cc_YC T n a a_tokens a_ends) (hq : q < n) (h2 : 2 ≤ cc_ar (T q)) :
    q + 1 < n ∧ cc_en T (q + 1) < n ∧ cc_en T (cc_en T (q + 1)) ≤ n ∧ a_ends (60 * a + (q + 1)) = nI (60 * a + cc_en T (q + 1)) ∧ a_ends (60 * a + cc_en T (q + 1)) = nI (60 * a + cc_en T (cc_en T (q + 1))) := by
  obtain ⟨w, ha, htok, hends⟩ := C
  have l0 := cc_nx_lt w hq (show 0 < cc_ar (T q) by omega)
  have l1 := cc_nx_lt w hq (show 1 < cc_ar (T q) by omega)
  exact ⟨l0, l1, cc_en_le w l1, hends _ l0, hends _ l1⟩

theorem cc_ybr {post : SY → Prop} {T : Nat → Nat} {n a q r M R : Nat} {lim : Int32} (C : cc_YC T n a a_tokens a_ends) (hq : q < n) (hl : cc_lp (T q)) (hM : M ≤ 59) (hR : R ≤ 300)
    (h2 : R = 300 → post (f_time, f_active, f_running, f_open, 0, 0, nI R, a_variables, a_cells, a_inputs, a_outputs, a_timerOn, a_timerBegin, a_timerElapsed, a_timerDone, a_counterLast, a_counterValue, a_counterDone, a_edgeLast, a_edgeDone, a_sizes, a_tokens, a_ends, a_wants, a_numbers, a_taskKind, a_taskAt, a_taskRounds, a_taskLimit))
    (h3 : R < 300 → cc_gob (T q) lim a_variables ((cc_vl T n (cc_lf a_variables a_inputs a_outputs a_timerDone a_timerElapsed a_counterValue a_counterDone a_edgeDone) a_cells) (q + 1)) = false → ∀ num, post (f_time, f_active, f_running, f_open, 0, nI M, nI (R + 1), a_variables, a_cells, a_inputs, a_outputs, a_timerOn, a_timerBegin, a_timerElapsed, a_timerDone, a_counterLast, a_counterValue, a_counterDone, a_edgeLast, a_edgeDone, a_sizes, a_tokens, a_ends, a_wants, num, a_taskKind, a_taskAt, a_taskRounds, a_taskLimit))
    (h4 : R < 300 → cc_gob (T q) lim a_variables ((cc_vl T n (cc_lf a_variables a_inputs a_outputs a_timerDone a_timerElapsed a_counterValue a_counterDone a_edgeDone) a_cells) (q + 1)) = true → ∀ num, post (f_time, f_active, f_running, f_open, 0, nI (M + 1 + 1), nI (R + 1), a_variables, a_cells, a_inputs, a_outputs, a_timerOn, a_timerBegin, a_timerElapsed, a_timerDone, a_counterLast, a_counterValue, a_counterDone, a_edgeLast, a_edgeDone, a_sizes, a_tokens, a_ends, a_wants, num, upd (upd a_taskKind M 2) (M + 1) 0, upd (upd a_taskAt M (nI (60 * a + q))) (M + 1) (nI (60 * a + cc_bd T q)), upd (upd a_taskRounds M (nI r)) (M + 1) 0, upd (upd a_taskLimit M lim) (M + 1) 0)) :
    wpY_beginRound post (f_time, f_active, f_running, f_open, 0, nI M, nI R, a_variables, a_cells, a_inputs, a_outputs, a_timerOn, a_timerBegin, a_timerElapsed, a_timerDone, a_counterLast, a_counterValue, a_counterDone, a_edgeLast, a_edgeDone, a_sizes, a_tokens, a_ends, a_wants, a_numbers, a_taskKind, a_taskAt, a_taskRounds, a_taskLimit) (nI (60 * a + q)) (nI r) lim := by
  have hn := C.1.2.2
  have ha := C.2.1
  have hlt := cc_lp_lt hl
  obtain ⟨p1, p2, p3, p4, p5⟩ := cc_ypre C hq (cc_lp_ar hl)
  refine pk_eq R 300 (fun z => h2 z) (fun z => ?_)
  have hR2 : R < 300 := by omega
  refine nm_r (e' := nI (R + 1)) (nI_1 R) ?_
  refine ⟨vp_in_nI (by omega) (by omega), ?_⟩
  refine nm_r (e' := nI (T q)) (by rw [nI_clamp (by omega)]; exact C.2.2.1 q hq) ?_
  rw [show nI (60 * a + q) + 1 = nI (60 * a + (q + 1)) from nI_1 _]
  have c152 : ∀ (b : Bool) num, cc_gob (T q) lim a_variables ((cc_vl T n (cc_lf a_variables a_inputs a_outputs a_timerDone a_timerElapsed a_counterValue a_counterDone a_edgeDone) a_cells) (q + 1)) = b → wY_beginRound_152 post (nI (60 * a + q)) (nI r) lim (nI (60 * a + cc_bd T q)) (cc_bI b) f_time f_active f_running f_open 0 (nI M) (nI (R + 1)) a_variables a_cells a_inputs a_outputs a_timerOn a_timerBegin a_timerElapsed a_timerDone a_counterLast a_counterValue a_counterDone a_edgeLast a_edgeDone a_sizes a_tokens a_ends a_wants num a_taskKind a_taskAt a_taskRounds a_taskLimit := by
    intro b num hb
    cases b with
    | false => exact br_t cc_bf (h3 hR2 hb num)
    | true =>
      refine br_f cc_n10 ?_
      refine cc_ytd (by omega) ?_
      refine cc_ytd (by omega) ?_
      exact h4 hR2 hb num
  have c78 : wY_beginRound_78 post (nI (60 * a + q)) (nI r) lim (nI (T q)) (nI (60 * a + cc_bd T q)) f_time f_active f_running f_open 0 (nI M) (nI (R + 1)) a_variables a_cells a_inputs a_outputs a_timerOn a_timerBegin a_timerElapsed a_timerDone a_counterLast a_counterValue a_counterDone a_edgeLast a_edgeDone a_sizes a_tokens a_ends a_wants a_numbers a_taskKind a_taskAt a_taskRounds a_taskLimit := by
    by_cases h37 : T q = 37
    · refine br_t (cc_eq (T q) 37 h37) ?_
      refine br_f (cc_ne (T q) 36 (by omega)) ?_
      refine cc_yinF 40 55 (by omega) ?_
      refine br_t rfl ?_
      refine c152 true a_numbers ?_
      unfold cc_gob
      rw [if_neg (by omega), if_neg (by omega)]
    · refine br_f (cc_ne (T q) 37 h37) ?_
      by_cases h36 : T q = 36
      · have hex : cc_ex (T (q + 1)) = true := cc_exk (k := 0) C.1 hq (by rw [h36]; decide) (by rw [h36]; decide)
        have e1 : cc_gob (T q) lim a_variables ((cc_vl T n (cc_lf a_variables a_inputs a_outputs a_timerDone a_timerElapsed a_counterValue a_counterDone a_edgeDone) a_cells) (q + 1)) = cc_tr ((cc_vl T n (cc_lf a_variables a_inputs a_outputs a_timerDone a_timerElapsed a_counterValue a_counterDone a_edgeDone) a_cells) (q + 1)) := if_pos h36
        refine br_t (cc_eq (T q) 36 h36) ?_
        rw [show nI (60 * a + q) + 1 = nI (60 * a + (q + 1)) from nI_1 _]
        refine cc_yw C.1 C.2.1 p1 hex C.2.2.1 C.2.2.2 (fun w1 => ?_)
        refine br_c (fun y => ?_) (fun y => ?_)
        · unfold wY_beginRound_116 wY_beginRound_118
          refine cc_yinF (t := T q) 40 55 (by omega) ?_
          refine br_t rfl ?_
          exact c152 false w1 (by rw [e1, cc_tr0 y])
        · unfold wY_beginRound_116 wY_beginRound_118
          refine cc_yinF (t := T q) 40 55 (by omega) ?_
          refine br_t rfl ?_
          exact c152 true w1 (by rw [e1, cc_tr1 y])
      · have h40 : 40 ≤ T q := by unfold cc_lp at hl; omega
        have e1 : cc_gob (T q) lim a_variables ((cc_vl T n (cc_lf a_variables a_inputs a_outputs a_timerDone a_timerElapsed a_counterValue a_counterDone a_edgeDone) a_cells) (q + 1)) = decide (a_variables (T q - 40) ≤ lim) := by
          unfold cc_gob; rw [if_neg h36, if_pos h40]
        refine br_f (cc_ne (T q) 36 h36) ?_
        refine cc_yinT 40 55 (by omega) (by omega) ?_
        refine br_f cc_n10 ?_
        refine ⟨cc_sV 40 16 (by omega) (by omega) (by omega), ?_⟩
        rw [show (nI (T q) - 40).toNatClampNeg = T q - 40 from cc_sI 40 h40 (by omega)]
        refine br_c (fun y => ?_) (fun y => ?_)
        · exact c152 false a_numbers (by rw [e1]; exact decide_eq_false (Int32.not_le.mpr y))
        · exact c152 true a_numbers (by rw [e1]; exact decide_eq_true (Int32.not_lt.mp y))
  unfold cc_bd at c78
  by_cases h37 : T q = 37
  · rw [if_pos h37] at c78
    exact br_t (cc_eq (T q) 37 h37) c78
  · rw [if_neg h37] at c78
    refine br_f (cc_ne (T q) 37 h37) ?_
    by_cases h36 : T q = 36
    · rw [if_pos h36] at c78
      refine br_t (cc_eq (T q) 36 h36) ⟨vp_in_nI (by omega) (by omega), ?_⟩
      rw [nI_clamp (by omega), p4]
      exact c78
    · rw [if_neg h36] at c78
      refine br_f (cc_ne (T q) 36 h36) ⟨vp_in_nI (by omega) (by omega), ?_⟩
      rw [nI_clamp (show 60 * a + (q + 1) < 2 ^ 31 by omega), p4]
      refine ⟨vp_in_nI (by omega) (by omega), ?_⟩
      rw [nI_clamp (show 60 * a + cc_en T (q + 1) < 2 ^ 31 by omega), p5]
      exact c78

theorem cc_yer {post : SY → Prop} {T : Nat → Nat} {n a q r M : Nat} {lim : Int32} (C : cc_YC T n a a_tokens a_ends) (hq : q < n) (hl : cc_lp (T q)) (hM : M ≤ 59) (hr : r ≤ 19)
    (h1 : (cc_ovb (T q) ((cc_vl T n (cc_lf a_variables a_inputs a_outputs a_timerDone a_timerElapsed a_counterValue a_counterDone a_edgeDone) a_cells) (cc_en T (q + 1))) = true ∨ r = 19) → ∀ num, post (f_time, f_active, f_running, f_open, 0, nI M, f_begun, cc_cl (T q) a_variables, a_cells, a_inputs, a_outputs, a_timerOn, a_timerBegin, a_timerElapsed, a_timerDone, a_counterLast, a_counterValue, a_counterDone, a_edgeLast, a_edgeDone, a_sizes, a_tokens, a_ends, a_wants, num, a_taskKind, a_taskAt, a_taskRounds, a_taskLimit))
    (h2 : ¬ (cc_ovb (T q) ((cc_vl T n (cc_lf a_variables a_inputs a_outputs a_timerDone a_timerElapsed a_counterValue a_counterDone a_edgeDone) a_cells) (cc_en T (q + 1))) = true ∨ r = 19) → ∀ num, post (f_time, f_active, f_running, f_open, 0, nI (M + 1), f_begun, cc_cl (T q) a_variables, a_cells, a_inputs, a_outputs, a_timerOn, a_timerBegin, a_timerElapsed, a_timerDone, a_counterLast, a_counterValue, a_counterDone, a_edgeLast, a_edgeDone, a_sizes, a_tokens, a_ends, a_wants, num, upd a_taskKind M 1, upd a_taskAt M (nI (60 * a + q)), upd a_taskRounds M (nI (r + 1)), upd a_taskLimit M lim)) :
    wpY_endRound post (f_time, f_active, f_running, f_open, 0, nI M, f_begun, a_variables, a_cells, a_inputs, a_outputs, a_timerOn, a_timerBegin, a_timerElapsed, a_timerDone, a_counterLast, a_counterValue, a_counterDone, a_edgeLast, a_edgeDone, a_sizes, a_tokens, a_ends, a_wants, a_numbers, a_taskKind, a_taskAt, a_taskRounds, a_taskLimit) (nI (60 * a + q)) (nI r) lim := by
  have hn := C.1.2.2
  have ha := C.2.1
  have hlt := cc_lp_lt hl
  obtain ⟨p1, p2, p3, p4, p5⟩ := cc_ypre C hq (cc_lp_ar hl)
  have c82 : ∀ (b : Bool) num, ((cc_ovb (T q) ((cc_vl T n (cc_lf a_variables a_inputs a_outputs a_timerDone a_timerElapsed a_counterValue a_counterDone a_edgeDone) a_cells) (cc_en T (q + 1))) = true ∨ r = 19) ↔ b = true) →
      wY_endRound_82 post (nI (60 * a + q)) (nI r) lim (cc_bI b) f_time f_active f_running f_open 0 (nI M) f_begun (cc_cl (T q) a_variables) a_cells a_inputs a_outputs a_timerOn a_timerBegin a_timerElapsed a_timerDone a_counterLast a_counterValue a_counterDone a_edgeLast a_edgeDone a_sizes a_tokens a_ends a_wants num a_taskKind a_taskAt a_taskRounds a_taskLimit := by
    intro b num hb
    cases b with
    | true => exact br_f cc_n10 (h1 (hb.mpr rfl) num)
    | false =>
      refine br_t cc_bf ?_
      rw [nI_1]
      refine cc_ytd (by omega) ?_
      exact h2 (fun z => by cases hb.mp z) num
  have c55 : ∀ (b : Bool) num, ((cc_ovb (T q) ((cc_vl T n (cc_lf a_variables a_inputs a_outputs a_timerDone a_timerElapsed a_counterValue a_counterDone a_edgeDone) a_cells) (cc_en T (q + 1))) = true ∨ r = 19) ↔ b = true) →
      wY_endRound_55 post (nI (60 * a + q)) (nI r) lim (nI (T q)) (cc_bI b) f_time f_active f_running f_open 0 (nI M) f_begun a_variables a_cells a_inputs a_outputs a_timerOn a_timerBegin a_timerElapsed a_timerDone a_counterLast a_counterValue a_counterDone a_edgeLast a_edgeDone a_sizes a_tokens a_ends a_wants num a_taskKind a_taskAt a_taskRounds a_taskLimit := by
    intro b num hb
    have g := c82 b num hb
    by_cases h40 : 40 ≤ T q
    · have e2 : cc_cl (T q) a_variables = upd a_variables (T q - 40) (a_variables (T q - 40) + 1) := if_pos h40
      rw [e2] at g
      refine cc_yinT 40 55 (by omega) (by omega) ?_
      refine br_f cc_n10 ?_
      refine ⟨cc_sV 40 16 (by omega) (by omega) (by omega), cc_sV 40 16 (by omega) (by omega) (by omega), ?_⟩
      refine nm_r (e' := upd a_variables (T q - 40) (a_variables (T q - 40) + 1)) (congrArg (fun k => upd a_variables k (a_variables k + 1)) (cc_sI 40 (by omega) (by omega))) ?_
      exact g
    · have e2 : cc_cl (T q) a_variables = a_variables := if_neg h40
      rw [e2] at g
      refine cc_yinF 40 55 (by omega) ?_
      exact br_t rfl g
  have c19 : ∀ b : Bool, (r = 19 ↔ b = true) → wY_endRound_19 post (nI (60 * a + q)) (nI r) lim (nI (T q)) (cc_bI b) f_time f_active f_running f_open 0 (nI M) f_begun a_variables a_cells a_inputs a_outputs a_timerOn a_timerBegin a_timerElapsed a_timerDone a_counterLast a_counterValue a_counterDone a_edgeLast a_edgeDone a_sizes a_tokens a_ends a_wants a_numbers a_taskKind a_taskAt a_taskRounds a_taskLimit := by
    intro b hb
    by_cases h37 : T q = 37
    · have e1 : cc_ovb (T q) ((cc_vl T n (cc_lf a_variables a_inputs a_outputs a_timerDone a_timerElapsed a_counterValue a_counterDone a_edgeDone) a_cells) (cc_en T (q + 1))) = cc_tr ((cc_vl T n (cc_lf a_variables a_inputs a_outputs a_timerDone a_timerElapsed a_counterValue a_counterDone a_edgeDone) a_cells) (cc_en T (q + 1))) := if_pos h37
      have hex1 : cc_ex (T (cc_en T (q + 1))) = true := cc_exk (k := 1) C.1 hq (by rw [h37]; decide) (by rw [h37]; decide)
      rw [e1] at c55
      refine br_t (cc_eq (T q) 37 h37) ?_
      rw [show nI (60 * a + q) + 1 = nI (60 * a + (q + 1)) from nI_1 _]
      refine ⟨vp_in_nI (by omega) (by omega), ?_⟩
      rw [nI_clamp (by omega), p4]
      refine cc_yw C.1 C.2.1 p2 hex1 C.2.2.1 C.2.2.2 (fun w1 => ?_)
      refine br_c (fun y => ?_) (fun y => ?_)
      · rw [cc_tr0 y] at c55
        cases b with
        | false => exact br_t cc_bf (c55 false w1 (by simp [hb]))
        | true => exact br_f cc_n10 (c55 true w1 (by simp [hb]))
      · rw [cc_tr1 y] at c55
        exact c55 true w1 (by simp)
    · have e1 : cc_ovb (T q) ((cc_vl T n (cc_lf a_variables a_inputs a_outputs a_timerDone a_timerElapsed a_counterValue a_counterDone a_edgeDone) a_cells) (cc_en T (q + 1))) = false := if_neg h37
      rw [e1] at c55
      exact br_f (cc_ne (T q) 37 h37) (c55 b a_numbers (by simp [hb]))
  refine ⟨vp_in_nI (by omega) (by omega), ?_⟩
  refine nm_r (e' := nI (T q)) (by rw [nI_clamp (by omega)]; exact C.2.2.1 q hq) ?_
  refine pk_eq r 19 (fun z => ?_) (fun z => ?_)
  · exact c19 true (by simp [z])
  · exact c19 false (by simp [z])
end
end
section
def cc_KX (post : SX → Prop) (a : Nat) (f_time f_running : Int32) (a_inputs a_tokens a_lengths a_ends : Nat → Int32) (m s : Nat) (L : List (Nat × Nat × Int32)) (R : Nat) (a_variables a_row a_outputs a_timerOn a_timerBegin a_timerElapsed a_timerDone a_counterLast a_counterValue a_counterDone a_edgeLast a_edgeDone : Nat → Int32) : Prop :=
  ∀ a_worths a_pendingPlaces a_pendingRounds a_pendingLimits : Nat → Int32, cc_xs a_pendingPlaces a_pendingRounds a_pendingLimits L →
    wX_carryOut_19 post m (nI s) f_time (nI a) f_running (nI L.length) (nI R) a_variables a_row a_inputs a_outputs a_timerOn a_timerBegin a_timerElapsed a_timerDone a_counterLast a_counterValue a_counterDone a_edgeLast a_edgeDone a_tokens a_lengths a_ends a_worths a_pendingPlaces a_pendingRounds a_pendingLimits

def cc_KY (post : SY → Prop) (a : Nat) (f_time f_running f_open : Int32) (a_inputs b_sizes b_tokens b_ends b_wants : Nat → Int32) (m : Nat) (L : List (Nat × Nat × Int32)) (R : Nat) (a_variables a_row a_outputs a_timerOn a_timerBegin a_timerElapsed a_timerDone a_counterLast a_counterValue a_counterDone a_edgeLast a_edgeDone : Nat → Int32) : Prop :=
  ∀ a_numbers a_taskKind a_taskAt a_taskRounds a_taskLimit : Nat → Int32, cc_ys a a_taskKind a_taskAt a_taskRounds a_taskLimit L →
    wY_carryOut_31 post m f_time (nI a) f_running f_open 0 (nI L.length) (nI R) a_variables a_row a_inputs a_outputs a_timerOn a_timerBegin a_timerElapsed a_timerDone a_counterLast a_counterValue a_counterDone a_edgeLast a_edgeDone b_sizes b_tokens b_ends b_wants a_numbers a_taskKind a_taskAt a_taskRounds a_taskLimit

section
variable {f_time f_active f_running f_pending f_roundsBegun : Int32} {a_variables a_row a_inputs a_outputs a_timerOn a_timerBegin a_timerElapsed a_timerDone a_counterLast a_counterValue a_counterDone a_edgeLast a_edgeDone a_tokens a_lengths a_ends a_worths a_pendingPlaces a_pendingRounds a_pendingLimits : Nat → Int32}
variable {a_variables_2 a_row_2 a_outputs_2 a_timerOn_2 a_timerBegin_2 a_timerElapsed_2 a_timerDone_2 a_counterLast_2 a_counterValue_2 a_counterDone_2 a_edgeLast_2 a_edgeDone_2 : Nat → Int32}
theorem cc_kx_w {post : SX → Prop} {T : Nat → Nat} {n a q m s R : Nat} {l : Int32} {L L' : List (Nat × Nat × Int32)} (C : cc_XC T n a a_tokens a_ends) (hq : q < n) (hlen : L.length ≤ 59) (hs : s < 1000000)
    (hstep : ∀ (P : SX → Prop) (w0 pp pr pl : Nat → Int32), cc_xs pp pr pl L →
      (∀ w' pp' pr' pl' : Nat → Int32, cc_xs pp' pr' pl' L' → P (f_time, nI a, f_running, nI L'.length, nI R, a_variables_2, a_row_2, a_inputs, a_outputs_2, a_timerOn_2, a_timerBegin_2, a_timerElapsed_2, a_timerDone_2, a_counterLast_2, a_counterValue_2, a_counterDone_2, a_edgeLast_2, a_edgeDone_2, a_tokens, a_lengths, a_ends, w', pp', pr', pl')) →
      (cc_sp (T q) = 0 → wpX_carryOutSimple P (f_time, nI a, f_running, nI L.length, nI R, a_variables, a_row, a_inputs, a_outputs, a_timerOn, a_timerBegin, a_timerElapsed, a_timerDone, a_counterLast, a_counterValue, a_counterDone, a_edgeLast, a_edgeDone, a_tokens, a_lengths, a_ends, w0, pp, pr, pl) (nI q) (nI (T q))) ∧
      (cc_sp (T q) ≠ 0 → wpX_openCompound P (f_time, nI a, f_running, nI L.length, nI R, a_variables, a_row, a_inputs, a_outputs, a_timerOn, a_timerBegin, a_timerElapsed, a_timerDone, a_counterLast, a_counterValue, a_counterDone, a_edgeLast, a_edgeDone, a_tokens, a_lengths, a_ends, w0, pp, pr, pl) (nI q) (nI (T q))))
    (hK : cc_KX post a f_time f_running a_inputs a_tokens a_lengths a_ends m (s + 1) L' R a_variables_2 a_row_2 a_outputs_2 a_timerOn_2 a_timerBegin_2 a_timerElapsed_2 a_timerDone_2 a_counterLast_2 a_counterValue_2 a_counterDone_2 a_edgeLast_2 a_edgeDone_2) : cc_KX post a f_time f_running a_inputs a_tokens a_lengths a_ends (m + 1) s ((q, 0, l) :: L) R a_variables a_row a_outputs a_timerOn a_timerBegin a_timerElapsed a_timerDone a_counterLast a_counterValue a_counterDone a_edgeLast a_edgeDone := by
  intro a_worths a_pendingPlaces a_pendingRounds a_pendingLimits hxs
  have hn := C.1.2.2
  have ht := cc_va_lt (C.1.1 q hq).2
  have hst := hstep (fun u => match u with | (f_time_9, f_active_9, f_running_9, f_pending_9, f_roundsBegun_9, a_variables_9, a_row_9, a_inputs_9, a_outputs_9, a_timerOn_9, a_timerBegin_9, a_timerElapsed_9, a_timerDone_9, a_counterLast_9, a_counterValue_9, a_counterDone_9, a_edgeLast_9, a_edgeDone_9, a_tokens_9, a_lengths_9, a_ends_9, a_worths_9, a_pendingPlaces_9, a_pendingRounds_9, a_pendingLimits_9) => ∀ x, x = nI s + 1 → wX_carryOut_19 post m x f_time_9 f_active_9 f_running_9 f_pending_9 f_roundsBegun_9 a_variables_9 a_row_9 a_inputs_9 a_outputs_9 a_timerOn_9 a_timerBegin_9 a_timerElapsed_9 a_timerDone_9 a_counterLast_9 a_counterValue_9 a_counterDone_9 a_edgeLast_9 a_edgeDone_9 a_tokens_9 a_lengths_9 a_ends_9 a_worths_9 a_pendingPlaces_9 a_pendingRounds_9 a_pendingLimits_9) a_worths a_pendingPlaces a_pendingRounds a_pendingLimits hxs.2.2.2
    (fun w' pp' pr' pl' hx' => nm_r (nI_1 s) (hK w' pp' pr' pl' hx'))
  refine br_f (cc_nle 1000000 s (by omega)) ?_
  refine br_f (cc_nle (L.length + 1) 0 (by omega)) ?_
  rw [show nI (((q, 0, l) :: L).length) - 1 = nI L.length from nI_pred L.length]
  refine ⟨vp_in_nI (by omega) (by omega), ?_⟩
  refine nm_r (e' := nI q) (by rw [nI_clamp (by omega)]; exact hxs.1) ?_
  refine cc_xat (T := T) (n := n) C.2.1 hn hq C.2.2.1 ?_
  refine ⟨vp_in_nI (by omega) (by omega), ?_⟩
  refine br_t (by rw [nI_clamp (by omega), hxs.2.1]; exact (show nI 0 - 1 = (-1 : Int32) by decide)) ?_
  refine nm_e ?_
  refine cc_xsp (by omega) (fun k hk => ?_)
  have hk3 : k < 2 ^ 31 := by
    have : cc_sp (T q) ≤ 3 := by
      unfold cc_sp
      repeat' split
      all_goals omega
    omega
  refine pk_eq k 0 (fun z => ?_) (fun z => ?_) rfl rfl hk3 (by omega)
  · exact hst.1 (by omega)
  · exact hst.2 (by omega)

theorem cc_kx_l {post : SX → Prop} {T : Nat → Nat} {n a q c m s R R' : Nat} {l : Int32} {L L' : List (Nat × Nat × Int32)} (C : cc_XC T n a a_tokens a_ends) (hq : q < n) (hlen : L.length ≤ 59) (hs : s < 1000000) (hc1 : 1 ≤ c) (hc : c ≤ 21)
    (hstep : ∀ (P : SX → Prop) (w0 pp pr pl : Nat → Int32), cc_xs pp pr pl ((q, c, l) :: L) →
      (∀ w' pp' pr' pl' : Nat → Int32, cc_xs pp' pr' pl' L' → P (f_time, nI a, f_running, nI L'.length, nI R', a_variables_2, a_row_2, a_inputs, a_outputs_2, a_timerOn_2, a_timerBegin_2, a_timerElapsed_2, a_timerDone_2, a_counterLast_2, a_counterValue_2, a_counterDone_2, a_edgeLast_2, a_edgeDone_2, a_tokens, a_lengths, a_ends, w', pp', pr', pl')) →
      wpX_goOnWithLoop P (f_time, nI a, f_running, nI (L.length + 1), nI R, a_variables, a_row, a_inputs, a_outputs, a_timerOn, a_timerBegin, a_timerElapsed, a_timerDone, a_counterLast, a_counterValue, a_counterDone, a_edgeLast, a_edgeDone, a_tokens, a_lengths, a_ends, w0, pp, pr, pl) (nI q) (nI (T q)))
    (hK : cc_KX post a f_time f_running a_inputs a_tokens a_lengths a_ends m (s + 1) L' R' a_variables_2 a_row_2 a_outputs_2 a_timerOn_2 a_timerBegin_2 a_timerElapsed_2 a_timerDone_2 a_counterLast_2 a_counterValue_2 a_counterDone_2 a_edgeLast_2 a_edgeDone_2) : cc_KX post a f_time f_running a_inputs a_tokens a_lengths a_ends (m + 1) s ((q, c, l) :: L) R a_variables a_row a_outputs a_timerOn a_timerBegin a_timerElapsed a_timerDone a_counterLast a_counterValue a_counterDone a_edgeLast a_edgeDone := by
  intro a_worths a_pendingPlaces a_pendingRounds a_pendingLimits hxs
  have hn := C.1.2.2
  have ht := cc_va_lt (C.1.1 q hq).2
  have hst := hstep (fun u => match u with | (f_time_9, f_active_9, f_running_9, f_pending_9, f_roundsBegun_9, a_variables_9, a_row_9, a_inputs_9, a_outputs_9, a_timerOn_9, a_timerBegin_9, a_timerElapsed_9, a_timerDone_9, a_counterLast_9, a_counterValue_9, a_counterDone_9, a_edgeLast_9, a_edgeDone_9, a_tokens_9, a_lengths_9, a_ends_9, a_worths_9, a_pendingPlaces_9, a_pendingRounds_9, a_pendingLimits_9) => ∀ x, x = nI s + 1 → wX_carryOut_19 post m x f_time_9 f_active_9 f_running_9 f_pending_9 f_roundsBegun_9 a_variables_9 a_row_9 a_inputs_9 a_outputs_9 a_timerOn_9 a_timerBegin_9 a_timerElapsed_9 a_timerDone_9 a_counterLast_9 a_counterValue_9 a_counterDone_9 a_edgeLast_9 a_edgeDone_9 a_tokens_9 a_lengths_9 a_ends_9 a_worths_9 a_pendingPlaces_9 a_pendingRounds_9 a_pendingLimits_9) a_worths a_pendingPlaces a_pendingRounds a_pendingLimits hxs
    (fun w' pp' pr' pl' hx' => nm_r (nI_1 s) (hK w' pp' pr' pl' hx'))
  refine br_f (cc_nle 1000000 s (by omega)) ?_
  refine br_f (cc_nle (L.length + 1) 0 (by omega)) ?_
  rw [show nI (((q, c, l) :: L).length) - 1 = nI L.length from nI_pred L.length]
  refine ⟨vp_in_nI (by omega) (by omega), ?_⟩
  refine nm_r (e' := nI q) (by rw [nI_clamp (by omega)]; exact hxs.1) ?_
  refine cc_xat (T := T) (n := n) C.2.1 hn hq C.2.2.1 ?_
  refine ⟨vp_in_nI (by omega) (by omega), ?_⟩
  refine br_f (by rw [nI_clamp (by omega), hxs.2.1]; exact fun z => cc_m1n (m := c - 1) (by omega) ((cc_s1 (a := c) (by omega)).symm.trans z)) ?_
  exact hst

theorem cc_xgo1 {P : SX → Prop} {T : Nat → Nat} {n a q R : Nat} {lim : Int32} {L : List (Nat × Nat × Int32)} (C : cc_XC T n a a_tokens a_ends) (hq : q < n) (hl : cc_lp (T q))
    (hxs : cc_xs a_pendingPlaces a_pendingRounds a_pendingLimits ((q, 1, lim) :: L)) (hR : R ≤ 300) (hlen : L.length ≤ 59)
    (h2 : R = 300 → P (f_time, nI a, f_running, 0, nI R, a_variables, a_row, a_inputs, a_outputs, a_timerOn, a_timerBegin, a_timerElapsed, a_timerDone, a_counterLast, a_counterValue, a_counterDone, a_edgeLast, a_edgeDone, a_tokens, a_lengths, a_ends, a_worths, a_pendingPlaces, a_pendingRounds, a_pendingLimits))
    (h3 : R < 300 → cc_gob (T q) lim a_variables ((cc_vl T n (cc_lf a_variables a_inputs a_outputs a_timerDone a_timerElapsed a_counterValue a_counterDone a_edgeDone) a_row) (q + 1)) = false → ∀ w', P (f_time, nI a, f_running, nI L.length, nI (R + 1), a_variables, a_row, a_inputs, a_outputs, a_timerOn, a_timerBegin, a_timerElapsed, a_timerDone, a_counterLast, a_counterValue, a_counterDone, a_edgeLast, a_edgeDone, a_tokens, a_lengths, a_ends, w', a_pendingPlaces, a_pendingRounds, a_pendingLimits))
    (h4 : R < 300 → cc_gob (T q) lim a_variables ((cc_vl T n (cc_lf a_variables a_inputs a_outputs a_timerDone a_timerElapsed a_counterValue a_counterDone a_edgeDone) a_row) (q + 1)) = true → ∀ w' pp pr pl, cc_xs pp pr pl ((cc_bd T q, 0, 0) :: (q, 2, lim) :: L) → P (f_time, nI a, f_running, nI (L.length + 1 + 1), nI (R + 1), a_variables, a_row, a_inputs, a_outputs, a_timerOn, a_timerBegin, a_timerElapsed, a_timerDone, a_counterLast, a_counterValue, a_counterDone, a_edgeLast, a_edgeDone, a_tokens, a_lengths, a_ends, w', pp, pr, pl)) :
    wpX_goOnWithLoop P (f_time, nI a, f_running, nI (L.length + 1), nI R, a_variables, a_row, a_inputs, a_outputs, a_timerOn, a_timerBegin, a_timerElapsed, a_timerDone, a_counterLast, a_counterValue, a_counterDone, a_edgeLast, a_edgeDone, a_tokens, a_lengths, a_ends, a_worths, a_pendingPlaces, a_pendingRounds, a_pendingLimits) (nI q) (nI (T q)) := by
  have e0 : a_pendingRounds L.length = nI (1 - 1) := hxs.2.1.trans (show nI 1 - 1 = nI 0 from nI_pred 0)
  refine nm_r (e' := nI L.length) (nI_pred L.length) ?_
  refine ⟨vp_in_nI (by omega) (by omega), ?_⟩
  rw [nI_clamp (by omega), e0]
  refine br_t (cc_le 0 0 (by omega)) ?_
  refine cc_xg30 (c := 1) (b := false) (lim := lim) C hq hl e0 hxs.2.2.1 (by omega) (by omega) hR hlen (fun z => ?_) (fun _ z => h2 z) (fun _ z y w' => h3 z y w') (fun _ z y w' => ?_)
  · rcases z with z | z
    · cases z
    · omega
  · refine h4 z y w' _ _ _ (cc_xs_push0 (L := (q, 2, lim) :: L) _ _ ⟨hxs.1, ?_, hxs.2.2.1, cc_xs_updr (Nat.le_refl _) hxs.2.2.2⟩)
    rw [cc_u_s]
    exact (nI_pred 1).symm

theorem cc_xgo2 {P : SX → Prop} {T : Nat → Nat} {n a q c R : Nat} {lim : Int32} {L : List (Nat × Nat × Int32)} (C : cc_XC T n a a_tokens a_ends) (hq : q < n) (hl : cc_lp (T q))
    (hxs : cc_xs a_pendingPlaces a_pendingRounds a_pendingLimits ((q, c, lim) :: L)) (hc2 : 2 ≤ c) (hc : c ≤ 21) (hR : R ≤ 300) (hlen : L.length ≤ 59)
    (h1 : (cc_ovb (T q) ((cc_vl T n (cc_lf a_variables a_inputs a_outputs a_timerDone a_timerElapsed a_counterValue a_counterDone a_edgeDone) a_row) (cc_en T (q + 1))) = true ∨ c = 21) → ∀ w', P (f_time, nI a, f_running, nI L.length, nI R, cc_cl (T q) a_variables, a_row, a_inputs, a_outputs, a_timerOn, a_timerBegin, a_timerElapsed, a_timerDone, a_counterLast, a_counterValue, a_counterDone, a_edgeLast, a_edgeDone, a_tokens, a_lengths, a_ends, w', a_pendingPlaces, a_pendingRounds, a_pendingLimits))
    (h2 : ¬ (cc_ovb (T q) ((cc_vl T n (cc_lf a_variables a_inputs a_outputs a_timerDone a_timerElapsed a_counterValue a_counterDone a_edgeDone) a_row) (cc_en T (q + 1))) = true ∨ c = 21) → R = 300 → ∀ w', P (f_time, nI a, f_running, 0, nI R, cc_cl (T q) a_variables, a_row, a_inputs, a_outputs, a_timerOn, a_timerBegin, a_timerElapsed, a_timerDone, a_counterLast, a_counterValue, a_counterDone, a_edgeLast, a_edgeDone, a_tokens, a_lengths, a_ends, w', a_pendingPlaces, a_pendingRounds, a_pendingLimits))
    (h3 : ¬ (cc_ovb (T q) ((cc_vl T n (cc_lf a_variables a_inputs a_outputs a_timerDone a_timerElapsed a_counterValue a_counterDone a_edgeDone) a_row) (cc_en T (q + 1))) = true ∨ c = 21) → R < 300 → cc_gob (T q) lim (cc_cl (T q) a_variables) ((cc_vl T n (cc_lf (cc_cl (T q) a_variables) a_inputs a_outputs a_timerDone a_timerElapsed a_counterValue a_counterDone a_edgeDone) a_row) (q + 1)) = false → ∀ w', P (f_time, nI a, f_running, nI L.length, nI (R + 1), cc_cl (T q) a_variables, a_row, a_inputs, a_outputs, a_timerOn, a_timerBegin, a_timerElapsed, a_timerDone, a_counterLast, a_counterValue, a_counterDone, a_edgeLast, a_edgeDone, a_tokens, a_lengths, a_ends, w', a_pendingPlaces, a_pendingRounds, a_pendingLimits))
    (h4 : ¬ (cc_ovb (T q) ((cc_vl T n (cc_lf a_variables a_inputs a_outputs a_timerDone a_timerElapsed a_counterValue a_counterDone a_edgeDone) a_row) (cc_en T (q + 1))) = true ∨ c = 21) → R < 300 → cc_gob (T q) lim (cc_cl (T q) a_variables) ((cc_vl T n (cc_lf (cc_cl (T q) a_variables) a_inputs a_outputs a_timerDone a_timerElapsed a_counterValue a_counterDone a_edgeDone) a_row) (q + 1)) = true → ∀ w' pp pr pl, cc_xs pp pr pl ((cc_bd T q, 0, 0) :: (q, c + 1, lim) :: L) → P (f_time, nI a, f_running, nI (L.length + 1 + 1), nI (R + 1), cc_cl (T q) a_variables, a_row, a_inputs, a_outputs, a_timerOn, a_timerBegin, a_timerElapsed, a_timerDone, a_counterLast, a_counterValue, a_counterDone, a_edgeLast, a_edgeDone, a_tokens, a_lengths, a_ends, w', pp, pr, pl)) :
    wpX_goOnWithLoop P (f_time, nI a, f_running, nI (L.length + 1), nI R, a_variables, a_row, a_inputs, a_outputs, a_timerOn, a_timerBegin, a_timerElapsed, a_timerDone, a_counterLast, a_counterValue, a_counterDone, a_edgeLast, a_edgeDone, a_tokens, a_lengths, a_ends, a_worths, a_pendingPlaces, a_pendingRounds, a_pendingLimits) (nI q) (nI (T q)) := by
  have e0 : a_pendingRounds L.length = nI (c - 1) := hxs.2.1.trans (cc_s1 (a := c) (by omega))
  refine nm_r (e' := nI L.length) (nI_pred L.length) ?_
  refine ⟨vp_in_nI (by omega) (by omega), ?_⟩
  rw [nI_clamp (by omega), e0]
  refine br_f (cc_nle (c - 1) 0 (by omega)) ?_
  refine cc_xcr C hq hl (fun w1 => ?_)
  have g := fun (b : Bool) (hb : cc_ovb (T q) ((cc_vl T n (cc_lf a_variables a_inputs a_outputs a_timerDone a_timerElapsed a_counterValue a_counterDone a_edgeDone) a_row) (cc_en T (q + 1))) = b) => cc_xg30 (post := P) (a_variables := cc_cl (T q) a_variables) (a_worths := w1) (f_time := f_time) (f_running := f_running) (a_row := a_row) (a_inputs := a_inputs) (a_outputs := a_outputs) (a_timerOn := a_timerOn) (a_timerBegin := a_timerBegin) (a_timerElapsed := a_timerElapsed) (a_timerDone := a_timerDone) (a_counterLast := a_counterLast) (a_counterValue := a_counterValue) (a_counterDone := a_counterDone) (a_edgeLast := a_edgeLast) (a_edgeDone := a_edgeDone) (a_lengths := a_lengths) (a_pendingPlaces := a_pendingPlaces)
    (c := c) (b := b) (lim := lim) (M := L.length) (R := R) C hq hl e0 hxs.2.2.1 (by omega) hc hR hlen (fun z => h1 (by rw [hb]; exact z) w1) (fun y z => h2 (by rw [hb]; exact y) z w1) (fun x z y w' => h3 (by rw [hb]; exact x) z y w') (fun x z y w' => h4 (by rw [hb]; exact x) z y w' _ _ _ (cc_xs_push0 (L := (q, c + 1, lim) :: L) _ _ ⟨hxs.1, by rw [cc_u_s]; exact (nI_pred c).symm, hxs.2.2.1, cc_xs_updr (Nat.le_refl _) hxs.2.2.2⟩))
  cases hb : cc_ovb (T q) ((cc_vl T n (cc_lf a_variables a_inputs a_outputs a_timerDone a_timerElapsed a_counterValue a_counterDone a_edgeDone) a_row) (cc_en T (q + 1))) with
  | false => exact br_t cc_bf (g false hb)
  | true => exact br_f cc_n10 (g true hb)
end
end
section
section
variable {f_time f_running f_open : Int32} {a_inputs b_sizes b_tokens b_ends b_wants : Nat → Int32} {a_variables a_row a_outputs a_timerOn a_timerBegin a_timerElapsed a_timerDone a_counterLast a_counterValue a_counterDone a_edgeLast a_edgeDone : Nat → Int32} {a_variables_2 a_row_2 a_outputs_2 a_timerOn_2 a_timerBegin_2 a_timerElapsed_2 a_timerDone_2 a_counterLast_2 a_counterValue_2 a_counterDone_2 a_edgeLast_2 a_edgeDone_2 : Nat → Int32}
theorem cc_ky_w {post : SY → Prop} {T : Nat → Nat} {n a q m R : Nat} {l : Int32} {L L' : List (Nat × Nat × Int32)} (C : cc_YC T n a b_tokens b_ends) (hq : q < n) (hlen : L.length ≤ 59)
    (hstep : ∀ (P : SY → Prop) (num tk ta tr tl : Nat → Int32), cc_ys a tk ta tr tl L →
      (∀ num' tk' ta' tr' tl' : Nat → Int32, cc_ys a tk' ta' tr' tl' L' → P (f_time, nI a, f_running, f_open, 0, nI L'.length, nI R, a_variables_2, a_row_2, a_inputs, a_outputs_2, a_timerOn_2, a_timerBegin_2, a_timerElapsed_2, a_timerDone_2, a_counterLast_2, a_counterValue_2, a_counterDone_2, a_edgeLast_2, a_edgeDone_2, b_sizes, b_tokens, b_ends, b_wants, num', tk', ta', tr', tl')) →
      wpY_statement P (f_time, nI a, f_running, f_open, 0, nI L.length, nI R, a_variables, a_row, a_inputs, a_outputs, a_timerOn, a_timerBegin, a_timerElapsed, a_timerDone, a_counterLast, a_counterValue, a_counterDone, a_edgeLast, a_edgeDone, b_sizes, b_tokens, b_ends, b_wants, num, tk, ta, tr, tl) (nI (60 * a + q)))
    (hK : cc_KY post a f_time f_running f_open a_inputs b_sizes b_tokens b_ends b_wants m L' R a_variables_2 a_row_2 a_outputs_2 a_timerOn_2 a_timerBegin_2 a_timerElapsed_2 a_timerDone_2 a_counterLast_2 a_counterValue_2 a_counterDone_2 a_edgeLast_2 a_edgeDone_2) : cc_KY post a f_time f_running f_open a_inputs b_sizes b_tokens b_ends b_wants (m + 1) ((q, 0, l) :: L) R a_variables a_row a_outputs a_timerOn a_timerBegin a_timerElapsed a_timerDone a_counterLast a_counterValue a_counterDone a_edgeLast a_edgeDone := by
  intro a_numbers a_taskKind a_taskAt a_taskRounds a_taskLimit hys
  have hst := hstep (fun u => match u with | (f_time_9, f_active_9, f_running_9, f_open_9, f_depth_9, f_tasks_9, f_begun_9, a_variables_9, a_cells_9, a_inputs_9, a_outputs_9, a_timerOn_9, a_timerBegin_9, a_timerElapsed_9, a_timerDone_9, a_counterLast_9, a_counterValue_9, a_counterDone_9, a_edgeLast_9, a_edgeDone_9, a_sizes_9, a_tokens_9, a_ends_9, a_wants_9, a_numbers_9, a_taskKind_9, a_taskAt_9, a_taskRounds_9, a_taskLimit_9) => wY_carryOut_31 post m f_time_9 f_active_9 f_running_9 f_open_9 f_depth_9 f_tasks_9 f_begun_9 a_variables_9 a_cells_9 a_inputs_9 a_outputs_9 a_timerOn_9 a_timerBegin_9 a_timerElapsed_9 a_timerDone_9 a_counterLast_9 a_counterValue_9 a_counterDone_9 a_edgeLast_9 a_edgeDone_9 a_sizes_9 a_tokens_9 a_ends_9 a_wants_9 a_numbers_9 a_taskKind_9 a_taskAt_9 a_taskRounds_9 a_taskLimit_9) a_numbers a_taskKind a_taskAt a_taskRounds a_taskLimit hys.2.2.2.2
    (fun num' tk' ta' tr' tl' hy' => hK num' tk' ta' tr' tl' hy')
  have hv : vp_in (nI L.length) 256 := vp_in_nI (by omega) (by omega)
  have hc : (nI L.length).toNatClampNeg = L.length := nI_clamp (by omega)
  refine br_f (cc_nle (L.length + 1) 0 (by omega)) ?_
  refine nm_r (e' := nI L.length) (nI_pred L.length) ⟨hv, ?_⟩
  refine nm_r (e' := 0) (by rw [hc]; exact hys.1) ⟨hv, ?_⟩
  refine nm_r (e' := nI (60 * a + q)) (by rw [hc]; exact hys.2.1) ⟨hv, ?_⟩
  refine nm_e ⟨hv, ?_⟩
  refine nm_e ?_
  refine br_t rfl ?_
  exact hst

theorem cc_kyb {post : SY → Prop} {T : Nat → Nat} {n a q r m R : Nat} {lim : Int32} {L : List (Nat × Nat × Int32)} {a_numbers a_taskKind a_taskAt a_taskRounds a_taskLimit : Nat → Int32}
    (C : cc_YC T n a b_tokens b_ends) (hq : q < n) (hl : cc_lp (T q)) (hlen : L.length ≤ 59) (hR : R ≤ 300)
    (g1 : a_taskKind L.length = 1) (g2 : a_taskAt L.length = nI (60 * a + q)) (g3 : a_taskRounds L.length = nI r) (g4 : a_taskLimit L.length = lim) (hys : cc_ys a a_taskKind a_taskAt a_taskRounds a_taskLimit L)
    (h2 : R = 300 → cc_KY post a f_time f_running f_open a_inputs b_sizes b_tokens b_ends b_wants m [] R a_variables a_row a_outputs a_timerOn a_timerBegin a_timerElapsed a_timerDone a_counterLast a_counterValue a_counterDone a_edgeLast a_edgeDone)
    (h3 : R < 300 → cc_gob (T q) lim a_variables ((cc_vl T n (cc_lf a_variables a_inputs a_outputs a_timerDone a_timerElapsed a_counterValue a_counterDone a_edgeDone) a_row) (q + 1)) = false → cc_KY post a f_time f_running f_open a_inputs b_sizes b_tokens b_ends b_wants m L (R + 1) a_variables a_row a_outputs a_timerOn a_timerBegin a_timerElapsed a_timerDone a_counterLast a_counterValue a_counterDone a_edgeLast a_edgeDone)
    (h4 : R < 300 → cc_gob (T q) lim a_variables ((cc_vl T n (cc_lf a_variables a_inputs a_outputs a_timerDone a_timerElapsed a_counterValue a_counterDone a_edgeDone) a_row) (q + 1)) = true → cc_KY post a f_time f_running f_open a_inputs b_sizes b_tokens b_ends b_wants m ((cc_bd T q, 0, 0) :: (q, r + 2, lim) :: L) (R + 1) a_variables a_row a_outputs a_timerOn a_timerBegin a_timerElapsed a_timerDone a_counterLast a_counterValue a_counterDone a_edgeLast a_edgeDone) :
    wY_carryOut_31 post (m + 1) f_time (nI a) f_running f_open 0 (nI (L.length + 1)) (nI R) a_variables a_row a_inputs a_outputs a_timerOn a_timerBegin a_timerElapsed a_timerDone a_counterLast a_counterValue a_counterDone a_edgeLast a_edgeDone b_sizes b_tokens b_ends b_wants a_numbers a_taskKind a_taskAt a_taskRounds a_taskLimit := by
  have hv : vp_in (nI L.length) 256 := vp_in_nI (by omega) (by omega)
  have hc : (nI L.length).toNatClampNeg = L.length := nI_clamp (by omega)
  refine br_f (cc_nle (L.length + 1) 0 (by omega)) ?_
  refine nm_r (e' := nI L.length) (nI_pred L.length) ⟨hv, ?_⟩
  refine nm_r (e' := 1) (by rw [hc]; exact g1) ⟨hv, ?_⟩
  refine nm_r (e' := nI (60 * a + q)) (by rw [hc]; exact g2) ⟨hv, ?_⟩
  refine nm_r (e' := nI r) (by rw [hc]; exact g3) ⟨hv, ?_⟩
  refine nm_r (e' := lim) (by rw [hc]; exact g4) ?_
  refine br_f cc_n10 (br_t rfl ?_)
  refine cc_ybr C hq hl hlen hR (fun z => ?_) (fun z y num => ?_) (fun z y num => ?_)
  · exact h2 z _ _ _ _ _ trivial
  · exact h3 z y _ _ _ _ _ hys
  · exact h4 z y _ _ _ _ _ (cc_ys_push0 (L := (q, r + 2, lim) :: L) _ _ (cc_ys_push q (r + 2) lim hys))

theorem cc_ky_1 {post : SY → Prop} {T : Nat → Nat} {n a q m R : Nat} {lim : Int32} {L : List (Nat × Nat × Int32)}
    (C : cc_YC T n a b_tokens b_ends) (hq : q < n) (hl : cc_lp (T q)) (hlen : L.length ≤ 59) (hR : R ≤ 300)
    (h2 : R = 300 → cc_KY post a f_time f_running f_open a_inputs b_sizes b_tokens b_ends b_wants m [] R a_variables a_row a_outputs a_timerOn a_timerBegin a_timerElapsed a_timerDone a_counterLast a_counterValue a_counterDone a_edgeLast a_edgeDone)
    (h3 : R < 300 → cc_gob (T q) lim a_variables ((cc_vl T n (cc_lf a_variables a_inputs a_outputs a_timerDone a_timerElapsed a_counterValue a_counterDone a_edgeDone) a_row) (q + 1)) = false → cc_KY post a f_time f_running f_open a_inputs b_sizes b_tokens b_ends b_wants m L (R + 1) a_variables a_row a_outputs a_timerOn a_timerBegin a_timerElapsed a_timerDone a_counterLast a_counterValue a_counterDone a_edgeLast a_edgeDone)
    (h4 : R < 300 → cc_gob (T q) lim a_variables ((cc_vl T n (cc_lf a_variables a_inputs a_outputs a_timerDone a_timerElapsed a_counterValue a_counterDone a_edgeDone) a_row) (q + 1)) = true → cc_KY post a f_time f_running f_open a_inputs b_sizes b_tokens b_ends b_wants m ((cc_bd T q, 0, 0) :: (q, 2, lim) :: L) (R + 1) a_variables a_row a_outputs a_timerOn a_timerBegin a_timerElapsed a_timerDone a_counterLast a_counterValue a_counterDone a_edgeLast a_edgeDone) :
    cc_KY post a f_time f_running f_open a_inputs b_sizes b_tokens b_ends b_wants (m + 1) ((q, 1, lim) :: L) R a_variables a_row a_outputs a_timerOn a_timerBegin a_timerElapsed a_timerDone a_counterLast a_counterValue a_counterDone a_edgeLast a_edgeDone := by
  intro a_numbers a_taskKind a_taskAt a_taskRounds a_taskLimit hys
  exact cc_kyb (r := 0) C hq hl hlen hR hys.1 hys.2.1 hys.2.2.1 hys.2.2.2.1 hys.2.2.2.2 h2 h3 h4

theorem cc_ky_2 {post : SY → Prop} {T : Nat → Nat} {n a q c m R : Nat} {lim : Int32} {L : List (Nat × Nat × Int32)}
    (C : cc_YC T n a b_tokens b_ends) (hq : q < n) (hl : cc_lp (T q)) (hlen : L.length ≤ 59) (hR : R ≤ 300) (hc2 : 2 ≤ c) (hc21 : c ≤ 21)
    (h1 : (cc_ovb (T q) ((cc_vl T n (cc_lf a_variables a_inputs a_outputs a_timerDone a_timerElapsed a_counterValue a_counterDone a_edgeDone) a_row) (cc_en T (q + 1))) = true ∨ c = 21) → cc_KY post a f_time f_running f_open a_inputs b_sizes b_tokens b_ends b_wants (m + 1) L R (cc_cl (T q) a_variables) a_row a_outputs a_timerOn a_timerBegin a_timerElapsed a_timerDone a_counterLast a_counterValue a_counterDone a_edgeLast a_edgeDone)
    (h2 : ¬ (cc_ovb (T q) ((cc_vl T n (cc_lf a_variables a_inputs a_outputs a_timerDone a_timerElapsed a_counterValue a_counterDone a_edgeDone) a_row) (cc_en T (q + 1))) = true ∨ c = 21) → R = 300 → cc_KY post a f_time f_running f_open a_inputs b_sizes b_tokens b_ends b_wants m [] R (cc_cl (T q) a_variables) a_row a_outputs a_timerOn a_timerBegin a_timerElapsed a_timerDone a_counterLast a_counterValue a_counterDone a_edgeLast a_edgeDone)
    (h3 : ¬ (cc_ovb (T q) ((cc_vl T n (cc_lf a_variables a_inputs a_outputs a_timerDone a_timerElapsed a_counterValue a_counterDone a_edgeDone) a_row) (cc_en T (q + 1))) = true ∨ c = 21) → R < 300 → cc_gob (T q) lim (cc_cl (T q) a_variables) ((cc_vl T n (cc_lf (cc_cl (T q) a_variables) a_inputs a_outputs a_timerDone a_timerElapsed a_counterValue a_counterDone a_edgeDone) a_row) (q + 1)) = false → cc_KY post a f_time f_running f_open a_inputs b_sizes b_tokens b_ends b_wants m L (R + 1) (cc_cl (T q) a_variables) a_row a_outputs a_timerOn a_timerBegin a_timerElapsed a_timerDone a_counterLast a_counterValue a_counterDone a_edgeLast a_edgeDone)
    (h4 : ¬ (cc_ovb (T q) ((cc_vl T n (cc_lf a_variables a_inputs a_outputs a_timerDone a_timerElapsed a_counterValue a_counterDone a_edgeDone) a_row) (cc_en T (q + 1))) = true ∨ c = 21) → R < 300 → cc_gob (T q) lim (cc_cl (T q) a_variables) ((cc_vl T n (cc_lf (cc_cl (T q) a_variables) a_inputs a_outputs a_timerDone a_timerElapsed a_counterValue a_counterDone a_edgeDone) a_row) (q + 1)) = true → cc_KY post a f_time f_running f_open a_inputs b_sizes b_tokens b_ends b_wants m ((cc_bd T q, 0, 0) :: (q, c + 1, lim) :: L) (R + 1) (cc_cl (T q) a_variables) a_row a_outputs a_timerOn a_timerBegin a_timerElapsed a_timerDone a_counterLast a_counterValue a_counterDone a_edgeLast a_edgeDone) :
    cc_KY post a f_time f_running f_open a_inputs b_sizes b_tokens b_ends b_wants (m + 1 + 1) ((q, c, lim) :: L) R a_variables a_row a_outputs a_timerOn a_timerBegin a_timerElapsed a_timerDone a_counterLast a_counterValue a_counterDone a_edgeLast a_edgeDone := by
  intro a_numbers a_taskKind a_taskAt a_taskRounds a_taskLimit hys
  have hv : vp_in (nI L.length) 256 := vp_in_nI (by omega) (by omega)
  have hc : (nI L.length).toNatClampNeg = L.length := nI_clamp (by omega)
  have hk : a_taskKind L.length = 2 := hys.1.trans (by unfold cc_yk; rw [if_neg (by show ¬ c = 0; omega), if_neg (by show ¬ c = 1; omega)])
  have e19 : ∀ A : Prop, (A ∨ c - 2 = 19) ↔ (A ∨ c = 21) := by
    intro A
    constructor
    · intro z
      rcases z with z | z
      · exact Or.inl z
      · exact Or.inr (by omega)
    · intro z
      rcases z with z | z
      · exact Or.inl z
      · exact Or.inr (by omega)
  refine br_f (cc_nle (L.length + 1) 0 (by omega)) ?_
  refine nm_r (e' := nI L.length) (nI_pred L.length) ⟨hv, ?_⟩
  refine nm_r (e' := 2) (by rw [hc]; exact hk) ⟨hv, ?_⟩
  refine nm_r (e' := nI (60 * a + q)) (by rw [hc]; exact hys.2.1) ⟨hv, ?_⟩
  refine nm_r (e' := nI (c - 2)) (by rw [hc]; exact hys.2.2.1) ⟨hv, ?_⟩
  refine nm_r (e' := lim) (by rw [hc]; exact hys.2.2.2.1) ?_
  refine br_f (by decide) (br_f (by decide) ?_)
  refine cc_yer (r := c - 2) C hq hl hlen (by omega) (fun z num => ?_) (fun z num => ?_)
  · exact h1 ((e19 _).mp z) _ _ _ _ _ hys.2.2.2.2
  · have z' := fun y => z ((e19 _).mpr y)
    refine cc_kyb (r := c - 2 + 1) C hq hl hlen hR (cc_u_s _ _ _) (cc_u_s _ _ _) (cc_u_s _ _ _) (cc_u_s _ _ _) (cc_ys_upd (Nat.le_refl _) hys.2.2.2.2) (h2 z') (h3 z') ?_
    rw [show c - 2 + 1 + 2 = c + 1 by omega]
    exact h4 z'
end
end
section
def cc_G (T : Nat → Nat) (n a : Nat) (f_time f_running f_open : Int32) (a_inputs a_tokens a_lengths a_ends b_sizes b_tokens b_ends b_wants : Nat → Int32) (μ : Nat) (L : List (Nat × Nat × Int32)) (R : Nat) (a_variables a_row a_outputs a_timerOn a_timerBegin a_timerElapsed a_timerDone a_counterLast a_counterValue a_counterDone a_edgeLast a_edgeDone : Nat → Int32) : Prop :=
  ∃ a_variables_2 a_row_2 a_outputs_2 a_timerOn_2 a_timerBegin_2 a_timerElapsed_2 a_timerDone_2 a_counterLast_2 a_counterValue_2 a_counterDone_2 a_edgeLast_2 a_edgeDone_2 : Nat → Int32, cc_b01 a_timerOn_2 ∧
    (∀ (post : SX → Prop) (m s : Nat), μ < m → s + μ < 1000000 → (∀ (fp fr : Int32) (w pp pr pl : Nat → Int32), post (f_time, nI a, f_running, fp, fr, a_variables_2, a_row_2, a_inputs, a_outputs_2, a_timerOn_2, a_timerBegin_2, a_timerElapsed_2, a_timerDone_2, a_counterLast_2, a_counterValue_2, a_counterDone_2, a_edgeLast_2, a_edgeDone_2, a_tokens, a_lengths, a_ends, w, pp, pr, pl)) → cc_KX post a f_time f_running a_inputs a_tokens a_lengths a_ends m s L R a_variables a_row a_outputs a_timerOn a_timerBegin a_timerElapsed a_timerDone a_counterLast a_counterValue a_counterDone a_edgeLast a_edgeDone) ∧
    (∀ (post : SY → Prop) (m : Nat), 2 * μ < m → (∀ (ft fb : Int32) (num tk ta tr tl : Nat → Int32), post (f_time, nI a, f_running, f_open, 0, ft, fb, a_variables_2, a_row_2, a_inputs, a_outputs_2, a_timerOn_2, a_timerBegin_2, a_timerElapsed_2, a_timerDone_2, a_counterLast_2, a_counterValue_2, a_counterDone_2, a_edgeLast_2, a_edgeDone_2, b_sizes, b_tokens, b_ends, b_wants, num, tk, ta, tr, tl)) → cc_KY post a f_time f_running f_open a_inputs b_sizes b_tokens b_ends b_wants m L R a_variables a_row a_outputs a_timerOn a_timerBegin a_timerElapsed a_timerDone a_counterLast a_counterValue a_counterDone a_edgeLast a_edgeDone)

section
variable {T : Nat → Nat} {n a : Nat} {f_time f_running f_open : Int32} {a_inputs a_tokens a_lengths a_ends b_sizes b_tokens b_ends b_wants : Nat → Int32} {a_variables a_row a_outputs a_timerOn a_timerBegin a_timerElapsed a_timerDone a_counterLast a_counterValue a_counterDone a_edgeLast a_edgeDone : Nat → Int32} {a_variables_2 a_row_2 a_outputs_2 a_timerOn_2 a_timerBegin_2 a_timerElapsed_2 a_timerDone_2 a_counterLast_2 a_counterValue_2 a_counterDone_2 a_edgeLast_2 a_edgeDone_2 : Nat → Int32}

theorem cc_G_nil {μ R : Nat} (hb : cc_b01 a_timerOn) : cc_G T n a f_time f_running f_open a_inputs a_tokens a_lengths a_ends b_sizes b_tokens b_ends b_wants μ [] R a_variables a_row a_outputs a_timerOn a_timerBegin a_timerElapsed a_timerDone a_counterLast a_counterValue a_counterDone a_edgeLast a_edgeDone := by
  refine ⟨a_variables, a_row, a_outputs, a_timerOn, a_timerBegin, a_timerElapsed, a_timerDone, a_counterLast, a_counterValue, a_counterDone, a_edgeLast, a_edgeDone, hb, fun post m s hm hs hp => ?_, fun post m hm hp => ?_⟩
  · intro a_worths a_pendingPlaces a_pendingRounds a_pendingLimits hxs
    obtain ⟨m', rfl⟩ : ∃ m', m = m' + 1 := ⟨m - 1, by omega⟩
    exact br_f (cc_nle 1000000 s (by omega)) (br_t (cc_le 0 0 (by omega)) (hp _ _ _ _ _ _))
  · intro a_numbers a_taskKind a_taskAt a_taskRounds a_taskLimit hys
    obtain ⟨m', rfl⟩ : ∃ m', m = m' + 1 := ⟨m - 1, by omega⟩
    exact br_t (cc_le 0 0 (by omega)) (hp _ _ _ _ _ _ _)

theorem cc_G_w {ν q R : Nat} {l : Int32} {L L' : List (Nat × Nat × Int32)} (CX : cc_XC T n a a_tokens a_ends) (CY : cc_YC T n a b_tokens b_ends) (hq : q < n) (hlen : L.length ≤ 59)
    (hsX : ∀ (P : SX → Prop) (w0 pp pr pl : Nat → Int32), cc_xs pp pr pl L →
      (∀ w' pp' pr' pl' : Nat → Int32, cc_xs pp' pr' pl' L' → P (f_time, nI a, f_running, nI L'.length, nI R, a_variables_2, a_row_2, a_inputs, a_outputs_2, a_timerOn_2, a_timerBegin_2, a_timerElapsed_2, a_timerDone_2, a_counterLast_2, a_counterValue_2, a_counterDone_2, a_edgeLast_2, a_edgeDone_2, a_tokens, a_lengths, a_ends, w', pp', pr', pl')) →
      (cc_sp (T q) = 0 → wpX_carryOutSimple P (f_time, nI a, f_running, nI L.length, nI R, a_variables, a_row, a_inputs, a_outputs, a_timerOn, a_timerBegin, a_timerElapsed, a_timerDone, a_counterLast, a_counterValue, a_counterDone, a_edgeLast, a_edgeDone, a_tokens, a_lengths, a_ends, w0, pp, pr, pl) (nI q) (nI (T q))) ∧
      (cc_sp (T q) ≠ 0 → wpX_openCompound P (f_time, nI a, f_running, nI L.length, nI R, a_variables, a_row, a_inputs, a_outputs, a_timerOn, a_timerBegin, a_timerElapsed, a_timerDone, a_counterLast, a_counterValue, a_counterDone, a_edgeLast, a_edgeDone, a_tokens, a_lengths, a_ends, w0, pp, pr, pl) (nI q) (nI (T q))))
    (hsY : ∀ (P : SY → Prop) (num tk ta tr tl : Nat → Int32), cc_ys a tk ta tr tl L →
      (∀ num' tk' ta' tr' tl' : Nat → Int32, cc_ys a tk' ta' tr' tl' L' → P (f_time, nI a, f_running, f_open, 0, nI L'.length, nI R, a_variables_2, a_row_2, a_inputs, a_outputs_2, a_timerOn_2, a_timerBegin_2, a_timerElapsed_2, a_timerDone_2, a_counterLast_2, a_counterValue_2, a_counterDone_2, a_edgeLast_2, a_edgeDone_2, b_sizes, b_tokens, b_ends, b_wants, num', tk', ta', tr', tl')) →
      wpY_statement P (f_time, nI a, f_running, f_open, 0, nI L.length, nI R, a_variables, a_row, a_inputs, a_outputs, a_timerOn, a_timerBegin, a_timerElapsed, a_timerDone, a_counterLast, a_counterValue, a_counterDone, a_edgeLast, a_edgeDone, b_sizes, b_tokens, b_ends, b_wants, num, tk, ta, tr, tl) (nI (60 * a + q)))
    (hG : cc_G T n a f_time f_running f_open a_inputs a_tokens a_lengths a_ends b_sizes b_tokens b_ends b_wants ν L' R a_variables_2 a_row_2 a_outputs_2 a_timerOn_2 a_timerBegin_2 a_timerElapsed_2 a_timerDone_2 a_counterLast_2 a_counterValue_2 a_counterDone_2 a_edgeLast_2 a_edgeDone_2) :
    cc_G T n a f_time f_running f_open a_inputs a_tokens a_lengths a_ends b_sizes b_tokens b_ends b_wants (ν + 1) ((q, 0, l) :: L) R a_variables a_row a_outputs a_timerOn a_timerBegin a_timerElapsed a_timerDone a_counterLast a_counterValue a_counterDone a_edgeLast a_edgeDone := by
  obtain ⟨a_variables_3, a_row_3, a_outputs_3, a_timerOn_3, a_timerBegin_3, a_timerElapsed_3, a_timerDone_3, a_counterLast_3, a_counterValue_3, a_counterDone_3, a_edgeLast_3, a_edgeDone_3, hb, hX, hY⟩ := hG
  refine ⟨a_variables_3, a_row_3, a_outputs_3, a_timerOn_3, a_timerBegin_3, a_timerElapsed_3, a_timerDone_3, a_counterLast_3, a_counterValue_3, a_counterDone_3, a_edgeLast_3, a_edgeDone_3, hb, fun post m s hm hs hp => ?_, fun post m hm hp => ?_⟩
  · obtain ⟨m', rfl⟩ : ∃ m', m = m' + 1 := ⟨m - 1, by omega⟩
    exact cc_kx_w CX hq hlen (by omega) hsX (hX post m' (s + 1) (by omega) (by omega) hp)
  · obtain ⟨m', rfl⟩ : ∃ m', m = m' + 1 := ⟨m - 1, by omega⟩
    exact cc_ky_w CY hq hlen hsY (hY post m' (by omega) hp)

theorem cc_G_1 {ν q R : Nat} {lim : Int32} {L : List (Nat × Nat × Int32)} (CX : cc_XC T n a a_tokens a_ends) (CY : cc_YC T n a b_tokens b_ends) (hq : q < n) (hl : cc_lp (T q)) (hlen : L.length ≤ 59) (hR : R ≤ 300)
    (h2 : R = 300 → cc_G T n a f_time f_running f_open a_inputs a_tokens a_lengths a_ends b_sizes b_tokens b_ends b_wants ν [] R a_variables a_row a_outputs a_timerOn a_timerBegin a_timerElapsed a_timerDone a_counterLast a_counterValue a_counterDone a_edgeLast a_edgeDone)
    (h3 : R < 300 → cc_gob (T q) lim a_variables ((cc_vl T n (cc_lf a_variables a_inputs a_outputs a_timerDone a_timerElapsed a_counterValue a_counterDone a_edgeDone) a_row) (q + 1)) = false → cc_G T n a f_time f_running f_open a_inputs a_tokens a_lengths a_ends b_sizes b_tokens b_ends b_wants ν L (R + 1) a_variables a_row a_outputs a_timerOn a_timerBegin a_timerElapsed a_timerDone a_counterLast a_counterValue a_counterDone a_edgeLast a_edgeDone)
    (h4 : R < 300 → cc_gob (T q) lim a_variables ((cc_vl T n (cc_lf a_variables a_inputs a_outputs a_timerDone a_timerElapsed a_counterValue a_counterDone a_edgeDone) a_row) (q + 1)) = true → cc_G T n a f_time f_running f_open a_inputs a_tokens a_lengths a_ends b_sizes b_tokens b_ends b_wants ν ((cc_bd T q, 0, 0) :: (q, 2, lim) :: L) (R + 1) a_variables a_row a_outputs a_timerOn a_timerBegin a_timerElapsed a_timerDone a_counterLast a_counterValue a_counterDone a_edgeLast a_edgeDone) :
    cc_G T n a f_time f_running f_open a_inputs a_tokens a_lengths a_ends b_sizes b_tokens b_ends b_wants (ν + 1) ((q, 1, lim) :: L) R a_variables a_row a_outputs a_timerOn a_timerBegin a_timerElapsed a_timerDone a_counterLast a_counterValue a_counterDone a_edgeLast a_edgeDone := by
  by_cases hR3 : R = 300
  · obtain ⟨a_variables_3, a_row_3, a_outputs_3, a_timerOn_3, a_timerBegin_3, a_timerElapsed_3, a_timerDone_3, a_counterLast_3, a_counterValue_3, a_counterDone_3, a_edgeLast_3, a_edgeDone_3, hb, hX, hY⟩ := h2 hR3
    refine ⟨a_variables_3, a_row_3, a_outputs_3, a_timerOn_3, a_timerBegin_3, a_timerElapsed_3, a_timerDone_3, a_counterLast_3, a_counterValue_3, a_counterDone_3, a_edgeLast_3, a_edgeDone_3, hb, fun post m s hm hs hp => ?_, fun post m hm hp => ?_⟩
    · obtain ⟨m', rfl⟩ : ∃ m', m = m' + 1 := ⟨m - 1, by omega⟩
      refine cc_kx_l (L' := []) (R' := R) (a_variables_2 := a_variables) (a_row_2 := a_row) (a_outputs_2 := a_outputs) (a_timerOn_2 := a_timerOn) (a_timerBegin_2 := a_timerBegin) (a_timerElapsed_2 := a_timerElapsed) (a_timerDone_2 := a_timerDone) (a_counterLast_2 := a_counterLast) (a_counterValue_2 := a_counterValue) (a_counterDone_2 := a_counterDone) (a_edgeLast_2 := a_edgeLast) (a_edgeDone_2 := a_edgeDone) CX hq hlen (by omega) (by omega) (by omega) (fun P w0 pp pr pl hxs hP => ?_) (hX post m' (s + 1) (by omega) (by omega) hp)
      exact cc_xgo1 CX hq hl hxs hR hlen (fun _ => hP _ _ _ _ trivial) (fun z => by omega) (fun z => by omega)
    · obtain ⟨m', rfl⟩ : ∃ m', m = m' + 1 := ⟨m - 1, by omega⟩
      exact cc_ky_1 CY hq hl hlen hR (fun _ => hY post m' (by omega) hp) (fun z => by omega) (fun z => by omega)
  · cases hg : cc_gob (T q) lim a_variables ((cc_vl T n (cc_lf a_variables a_inputs a_outputs a_timerDone a_timerElapsed a_counterValue a_counterDone a_edgeDone) a_row) (q + 1)) with
    | false =>
      obtain ⟨a_variables_3, a_row_3, a_outputs_3, a_timerOn_3, a_timerBegin_3, a_timerElapsed_3, a_timerDone_3, a_counterLast_3, a_counterValue_3, a_counterDone_3, a_edgeLast_3, a_edgeDone_3, hb, hX, hY⟩ := h3 (by omega) hg
      refine ⟨a_variables_3, a_row_3, a_outputs_3, a_timerOn_3, a_timerBegin_3, a_timerElapsed_3, a_timerDone_3, a_counterLast_3, a_counterValue_3, a_counterDone_3, a_edgeLast_3, a_edgeDone_3, hb, fun post m s hm hs hp => ?_, fun post m hm hp => ?_⟩
      · obtain ⟨m', rfl⟩ : ∃ m', m = m' + 1 := ⟨m - 1, by omega⟩
        refine cc_kx_l (L' := L) (R' := R + 1) (a_variables_2 := a_variables) (a_row_2 := a_row) (a_outputs_2 := a_outputs) (a_timerOn_2 := a_timerOn) (a_timerBegin_2 := a_timerBegin) (a_timerElapsed_2 := a_timerElapsed) (a_timerDone_2 := a_timerDone) (a_counterLast_2 := a_counterLast) (a_counterValue_2 := a_counterValue) (a_counterDone_2 := a_counterDone) (a_edgeLast_2 := a_edgeLast) (a_edgeDone_2 := a_edgeDone) CX hq hlen (by omega) (by omega) (by omega) (fun P w0 pp pr pl hxs hP => ?_) (hX post m' (s + 1) (by omega) (by omega) hp)
        exact cc_xgo1 CX hq hl hxs hR hlen (fun z => absurd z hR3) (fun _ _ w' => hP _ _ _ _ hxs.2.2.2) (fun _ z => by rw [hg] at z; cases z)
      · obtain ⟨m', rfl⟩ : ∃ m', m = m' + 1 := ⟨m - 1, by omega⟩
        exact cc_ky_1 CY hq hl hlen hR (fun z => absurd z hR3) (fun _ _ => hY post m' (by omega) hp) (fun _ z => by rw [hg] at z; cases z)
    | true =>
      obtain ⟨a_variables_3, a_row_3, a_outputs_3, a_timerOn_3, a_timerBegin_3, a_timerElapsed_3, a_timerDone_3, a_counterLast_3, a_counterValue_3, a_counterDone_3, a_edgeLast_3, a_edgeDone_3, hb, hX, hY⟩ := h4 (by omega) hg
      refine ⟨a_variables_3, a_row_3, a_outputs_3, a_timerOn_3, a_timerBegin_3, a_timerElapsed_3, a_timerDone_3, a_counterLast_3, a_counterValue_3, a_counterDone_3, a_edgeLast_3, a_edgeDone_3, hb, fun post m s hm hs hp => ?_, fun post m hm hp => ?_⟩
      · obtain ⟨m', rfl⟩ : ∃ m', m = m' + 1 := ⟨m - 1, by omega⟩
        refine cc_kx_l (L' := (cc_bd T q, 0, 0) :: (q, 2, lim) :: L) (R' := R + 1) (a_variables_2 := a_variables) (a_row_2 := a_row) (a_outputs_2 := a_outputs) (a_timerOn_2 := a_timerOn) (a_timerBegin_2 := a_timerBegin) (a_timerElapsed_2 := a_timerElapsed) (a_timerDone_2 := a_timerDone) (a_counterLast_2 := a_counterLast) (a_counterValue_2 := a_counterValue) (a_counterDone_2 := a_counterDone) (a_edgeLast_2 := a_edgeLast) (a_edgeDone_2 := a_edgeDone) CX hq hlen (by omega) (by omega) (by omega) (fun P w0 pp pr pl hxs hP => ?_) (hX post m' (s + 1) (by omega) (by omega) hp)
        exact cc_xgo1 CX hq hl hxs hR hlen (fun z => absurd z hR3) (fun _ z => by rw [hg] at z; cases z) (fun _ _ w' pp' pr' pl' hx' => hP _ _ _ _ hx')
      · obtain ⟨m', rfl⟩ : ∃ m', m = m' + 1 := ⟨m - 1, by omega⟩
        exact cc_ky_1 CY hq hl hlen hR (fun z => absurd z hR3) (fun _ z => by rw [hg] at z; cases z) (fun _ _ => hY post m' (by omega) hp)

theorem cc_G_2 {ν q c R : Nat} {lim : Int32} {L : List (Nat × Nat × Int32)} (CX : cc_XC T n a a_tokens a_ends) (CY : cc_YC T n a b_tokens b_ends) (hq : q < n) (hl : cc_lp (T q)) (hlen : L.length ≤ 59) (hR : R ≤ 300) (hc2 : 2 ≤ c) (hc21 : c ≤ 21)
    (h1 : (cc_ovb (T q) ((cc_vl T n (cc_lf a_variables a_inputs a_outputs a_timerDone a_timerElapsed a_counterValue a_counterDone a_edgeDone) a_row) (cc_en T (q + 1))) = true ∨ c = 21) → cc_G T n a f_time f_running f_open a_inputs a_tokens a_lengths a_ends b_sizes b_tokens b_ends b_wants ν L R (cc_cl (T q) a_variables) a_row a_outputs a_timerOn a_timerBegin a_timerElapsed a_timerDone a_counterLast a_counterValue a_counterDone a_edgeLast a_edgeDone)
    (h2 : ¬ (cc_ovb (T q) ((cc_vl T n (cc_lf a_variables a_inputs a_outputs a_timerDone a_timerElapsed a_counterValue a_counterDone a_edgeDone) a_row) (cc_en T (q + 1))) = true ∨ c = 21) → R = 300 → cc_G T n a f_time f_running f_open a_inputs a_tokens a_lengths a_ends b_sizes b_tokens b_ends b_wants ν [] R (cc_cl (T q) a_variables) a_row a_outputs a_timerOn a_timerBegin a_timerElapsed a_timerDone a_counterLast a_counterValue a_counterDone a_edgeLast a_edgeDone)
    (h3 : ¬ (cc_ovb (T q) ((cc_vl T n (cc_lf a_variables a_inputs a_outputs a_timerDone a_timerElapsed a_counterValue a_counterDone a_edgeDone) a_row) (cc_en T (q + 1))) = true ∨ c = 21) → R < 300 → cc_gob (T q) lim (cc_cl (T q) a_variables) ((cc_vl T n (cc_lf (cc_cl (T q) a_variables) a_inputs a_outputs a_timerDone a_timerElapsed a_counterValue a_counterDone a_edgeDone) a_row) (q + 1)) = false → cc_G T n a f_time f_running f_open a_inputs a_tokens a_lengths a_ends b_sizes b_tokens b_ends b_wants ν L (R + 1) (cc_cl (T q) a_variables) a_row a_outputs a_timerOn a_timerBegin a_timerElapsed a_timerDone a_counterLast a_counterValue a_counterDone a_edgeLast a_edgeDone)
    (h4 : ¬ (cc_ovb (T q) ((cc_vl T n (cc_lf a_variables a_inputs a_outputs a_timerDone a_timerElapsed a_counterValue a_counterDone a_edgeDone) a_row) (cc_en T (q + 1))) = true ∨ c = 21) → R < 300 → cc_gob (T q) lim (cc_cl (T q) a_variables) ((cc_vl T n (cc_lf (cc_cl (T q) a_variables) a_inputs a_outputs a_timerDone a_timerElapsed a_counterValue a_counterDone a_edgeDone) a_row) (q + 1)) = true → cc_G T n a f_time f_running f_open a_inputs a_tokens a_lengths a_ends b_sizes b_tokens b_ends b_wants ν ((cc_bd T q, 0, 0) :: (q, c + 1, lim) :: L) (R + 1) (cc_cl (T q) a_variables) a_row a_outputs a_timerOn a_timerBegin a_timerElapsed a_timerDone a_counterLast a_counterValue a_counterDone a_edgeLast a_edgeDone) :
    cc_G T n a f_time f_running f_open a_inputs a_tokens a_lengths a_ends b_sizes b_tokens b_ends b_wants (ν + 1) ((q, c, lim) :: L) R a_variables a_row a_outputs a_timerOn a_timerBegin a_timerElapsed a_timerDone a_counterLast a_counterValue a_counterDone a_edgeLast a_edgeDone := by
  by_cases hov : (cc_ovb (T q) ((cc_vl T n (cc_lf a_variables a_inputs a_outputs a_timerDone a_timerElapsed a_counterValue a_counterDone a_edgeDone) a_row) (cc_en T (q + 1))) = true ∨ c = 21)
  · obtain ⟨a_variables_3, a_row_3, a_outputs_3, a_timerOn_3, a_timerBegin_3, a_timerElapsed_3, a_timerDone_3, a_counterLast_3, a_counterValue_3, a_counterDone_3, a_edgeLast_3, a_edgeDone_3, hb, hX, hY⟩ := h1 hov
    refine ⟨a_variables_3, a_row_3, a_outputs_3, a_timerOn_3, a_timerBegin_3, a_timerElapsed_3, a_timerDone_3, a_counterLast_3, a_counterValue_3, a_counterDone_3, a_edgeLast_3, a_edgeDone_3, hb, fun post m s hm hs hp => ?_, fun post m hm hp => ?_⟩
    · obtain ⟨m', rfl⟩ : ∃ m', m = m' + 1 := ⟨m - 1, by omega⟩
      refine cc_kx_l (L' := L) (R' := R) (a_variables_2 := cc_cl (T q) a_variables) (a_row_2 := a_row) (a_outputs_2 := a_outputs) (a_timerOn_2 := a_timerOn) (a_timerBegin_2 := a_timerBegin) (a_timerElapsed_2 := a_timerElapsed) (a_timerDone_2 := a_timerDone) (a_counterLast_2 := a_counterLast) (a_counterValue_2 := a_counterValue) (a_counterDone_2 := a_counterDone) (a_edgeLast_2 := a_edgeLast) (a_edgeDone_2 := a_edgeDone) CX hq hlen (by omega) (by omega) (by omega) (fun P w0 pp pr pl hxs hP => ?_) (hX post m' (s + 1) (by omega) (by omega) hp)
      exact cc_xgo2 CX hq hl hxs hc2 hc21 hR hlen (fun _ w' => hP _ _ _ _ hxs.2.2.2) (fun z => absurd hov z) (fun z => absurd hov z) (fun z => absurd hov z)
    · obtain ⟨m', rfl⟩ : ∃ m', m = m' + 1 + 1 := ⟨m - 2, by omega⟩
      exact cc_ky_2 CY hq hl hlen hR hc2 hc21 (fun _ => hY post (m' + 1) (by omega) hp) (fun z => absurd hov z) (fun z => absurd hov z) (fun z => absurd hov z)
  · by_cases hR3 : R = 300
    · obtain ⟨a_variables_3, a_row_3, a_outputs_3, a_timerOn_3, a_timerBegin_3, a_timerElapsed_3, a_timerDone_3, a_counterLast_3, a_counterValue_3, a_counterDone_3, a_edgeLast_3, a_edgeDone_3, hb, hX, hY⟩ := h2 hov hR3
      refine ⟨a_variables_3, a_row_3, a_outputs_3, a_timerOn_3, a_timerBegin_3, a_timerElapsed_3, a_timerDone_3, a_counterLast_3, a_counterValue_3, a_counterDone_3, a_edgeLast_3, a_edgeDone_3, hb, fun post m s hm hs hp => ?_, fun post m hm hp => ?_⟩
      · obtain ⟨m', rfl⟩ : ∃ m', m = m' + 1 := ⟨m - 1, by omega⟩
        refine cc_kx_l (L' := []) (R' := R) (a_variables_2 := cc_cl (T q) a_variables) (a_row_2 := a_row) (a_outputs_2 := a_outputs) (a_timerOn_2 := a_timerOn) (a_timerBegin_2 := a_timerBegin) (a_timerElapsed_2 := a_timerElapsed) (a_timerDone_2 := a_timerDone) (a_counterLast_2 := a_counterLast) (a_counterValue_2 := a_counterValue) (a_counterDone_2 := a_counterDone) (a_edgeLast_2 := a_edgeLast) (a_edgeDone_2 := a_edgeDone) CX hq hlen (by omega) (by omega) (by omega) (fun P w0 pp pr pl hxs hP => ?_) (hX post m' (s + 1) (by omega) (by omega) hp)
        exact cc_xgo2 CX hq hl hxs hc2 hc21 hR hlen (fun z => absurd z hov) (fun _ _ w' => hP _ _ _ _ trivial) (fun _ z => by omega) (fun _ z => by omega)
      · obtain ⟨m', rfl⟩ : ∃ m', m = m' + 1 + 1 := ⟨m - 2, by omega⟩
        exact cc_ky_2 CY hq hl hlen hR hc2 hc21 (fun z => absurd z hov) (fun _ _ => hY post m' (by omega) hp) (fun _ z => by omega) (fun _ z => by omega)
    · cases hg : cc_gob (T q) lim (cc_cl (T q) a_variables) ((cc_vl T n (cc_lf (cc_cl (T q) a_variables) a_inputs a_outputs a_timerDone a_timerElapsed a_counterValue a_counterDone a_edgeDone) a_row) (q + 1)) with
      | false =>
        obtain ⟨a_variables_3, a_row_3, a_outputs_3, a_timerOn_3, a_timerBegin_3, a_timerElapsed_3, a_timerDone_3, a_counterLast_3, a_counterValue_3, a_counterDone_3, a_edgeLast_3, a_edgeDone_3, hb, hX, hY⟩ := h3 hov (by omega) hg
        refine ⟨a_variables_3, a_row_3, a_outputs_3, a_timerOn_3, a_timerBegin_3, a_timerElapsed_3, a_timerDone_3, a_counterLast_3, a_counterValue_3, a_counterDone_3, a_edgeLast_3, a_edgeDone_3, hb, fun post m s hm hs hp => ?_, fun post m hm hp => ?_⟩
        · obtain ⟨m', rfl⟩ : ∃ m', m = m' + 1 := ⟨m - 1, by omega⟩
          refine cc_kx_l (L' := L) (R' := R + 1) (a_variables_2 := cc_cl (T q) a_variables) (a_row_2 := a_row) (a_outputs_2 := a_outputs) (a_timerOn_2 := a_timerOn) (a_timerBegin_2 := a_timerBegin) (a_timerElapsed_2 := a_timerElapsed) (a_timerDone_2 := a_timerDone) (a_counterLast_2 := a_counterLast) (a_counterValue_2 := a_counterValue) (a_counterDone_2 := a_counterDone) (a_edgeLast_2 := a_edgeLast) (a_edgeDone_2 := a_edgeDone) CX hq hlen (by omega) (by omega) (by omega) (fun P w0 pp pr pl hxs hP => ?_) (hX post m' (s + 1) (by omega) (by omega) hp)
          exact cc_xgo2 CX hq hl hxs hc2 hc21 hR hlen (fun z => absurd z hov) (fun _ z => absurd z hR3) (fun _ _ _ w' => hP _ _ _ _ hxs.2.2.2) (fun _ _ z => by rw [hg] at z; cases z)
        · obtain ⟨m', rfl⟩ : ∃ m', m = m' + 1 + 1 := ⟨m - 2, by omega⟩
          exact cc_ky_2 CY hq hl hlen hR hc2 hc21 (fun z => absurd z hov) (fun _ z => absurd z hR3) (fun _ _ _ => hY post m' (by omega) hp) (fun _ _ z => by rw [hg] at z; cases z)
      | true =>
        obtain ⟨a_variables_3, a_row_3, a_outputs_3, a_timerOn_3, a_timerBegin_3, a_timerElapsed_3, a_timerDone_3, a_counterLast_3, a_counterValue_3, a_counterDone_3, a_edgeLast_3, a_edgeDone_3, hb, hX, hY⟩ := h4 hov (by omega) hg
        refine ⟨a_variables_3, a_row_3, a_outputs_3, a_timerOn_3, a_timerBegin_3, a_timerElapsed_3, a_timerDone_3, a_counterLast_3, a_counterValue_3, a_counterDone_3, a_edgeLast_3, a_edgeDone_3, hb, fun post m s hm hs hp => ?_, fun post m hm hp => ?_⟩
        · obtain ⟨m', rfl⟩ : ∃ m', m = m' + 1 := ⟨m - 1, by omega⟩
          refine cc_kx_l (L' := (cc_bd T q, 0, 0) :: (q, c + 1, lim) :: L) (R' := R + 1) (a_variables_2 := cc_cl (T q) a_variables) (a_row_2 := a_row) (a_outputs_2 := a_outputs) (a_timerOn_2 := a_timerOn) (a_timerBegin_2 := a_timerBegin) (a_timerElapsed_2 := a_timerElapsed) (a_timerDone_2 := a_timerDone) (a_counterLast_2 := a_counterLast) (a_counterValue_2 := a_counterValue) (a_counterDone_2 := a_counterDone) (a_edgeLast_2 := a_edgeLast) (a_edgeDone_2 := a_edgeDone) CX hq hlen (by omega) (by omega) (by omega) (fun P w0 pp pr pl hxs hP => ?_) (hX post m' (s + 1) (by omega) (by omega) hp)
          exact cc_xgo2 CX hq hl hxs hc2 hc21 hR hlen (fun z => absurd z hov) (fun _ z => absurd z hR3) (fun _ _ z => by rw [hg] at z; cases z) (fun _ _ _ w' pp' pr' pl' hx' => hP _ _ _ _ hx')
        · obtain ⟨m', rfl⟩ : ∃ m', m = m' + 1 + 1 := ⟨m - 2, by omega⟩
          exact cc_ky_2 CY hq hl hlen hR hc2 hc21 (fun z => absurd z hov) (fun _ z => absurd z hR3) (fun _ _ z => by rw [hg] at z; cases z) (fun _ _ _ => hY post m' (by omega) hp)
end
end
section
theorem cc_n1_tail {L : List (Nat × Nat × Int32)} (h : cc_n1 L) : cc_n1 L.tail := by
  cases L with
  | nil => exact h
  | cons e L => exact fun x hx => h x (List.mem_cons_of_mem _ hx)

theorem cc_so_code {T : Nat → Nat} {n : Nat} {L : List (Nat × Nat × Int32)} {lo hi : Nat} (h : cc_so T n L lo hi) : ∀ e, e ∈ L → e.2.1 ≤ 21 := by
  induction L generalizing lo hi with
  | nil => intro e he; cases he
  | cons x L ih =>
    obtain ⟨lo', hi', h1, h2, h3, h4, h5, h6, h7⟩ := h
    intro e he
    rcases List.mem_cons.mp he with z | z
    · rw [z]; exact h6
    · exact ih h1 e z

theorem cc_so_seq {T : Nat → Nat} {n q : Nat} {L : List (Nat × Nat × Int32)} {lo hi : Nat} (w : cc_wh T n) (h : cc_so T n L lo hi) (hlo : lo ≤ q) (hq : q < n) (hhi : cc_en T q ≤ hi) (ht : T q = 1) :
    cc_so T n ((cc_nx T 0 (q + 1), 0, 0) :: (cc_nx T 1 (q + 1), 0, 0) :: L) lo (cc_nx T 0 (q + 1)) := by
  have a2 : cc_ar (T q) = 2 := by rw [ht]; rfl
  have s1 := cc_so_w (k := 1) w h hlo hq hhi (by omega) (by rw [ht]; rfl) 0
  obtain ⟨c1, c2, c3, c4⟩ := cc_ch (k := 0) w hq (by omega)
  exact ⟨lo, _, s1, by show lo ≤ cc_nx T 0 (q + 1); omega, c2, Nat.le_refl _, (cc_part (k := 0) w hq (by omega)).trans (by rw [ht]; rfl), by show (0 : Nat) ≤ 21; omega, Or.inl ⟨rfl, rfl, rfl⟩⟩

theorem cc_bdk {T : Nat → Nat} {q : Nat} (hl : cc_lp (T q)) : ∃ k, k < cc_ar (T q) ∧ cc_bd T q = cc_nx T k (q + 1) ∧ cc_ts (T q) k = true := by
  unfold cc_bd
  by_cases h37 : T q = 37
  · exact ⟨0, by rw [h37]; decide, if_pos h37, by rw [h37]; rfl⟩
  · by_cases h36 : T q = 36
    · exact ⟨1, by rw [h36]; decide, by rw [if_neg h37, if_pos h36]; rfl, by rw [h36]; rfl⟩
    · have h40 : 40 ≤ T q ∧ T q ≤ 55 := by unfold cc_lp at hl; omega
      refine ⟨2, by rw [cc_lp3 h40.1 h40.2]; decide, by rw [if_neg h37, if_neg h36]; rfl, ?_⟩
      unfold cc_ts
      rw [if_neg (by omega), if_neg (by omega), if_neg (by omega)]
      exact decide_eq_true ⟨h40.1, h40.2, rfl⟩

theorem cc_so_b {T : Nat → Nat} {n q c : Nat} {lim : Int32} {L : List (Nat × Nat × Int32)} {lo hi : Nat} (w : cc_wh T n) (h : cc_so T n L lo hi) (hlo : lo ≤ q) (hq : q < n) (hhi : cc_en T q ≤ hi) (hst : cc_st (T q) = true) (hl : cc_lp (T q)) (hc : c ≠ 0) (hc' : c ≤ 21) :
    ∃ lo' hi', cc_so T n ((cc_bd T q, 0, 0) :: (q, c, lim) :: L) lo' hi' := by
  obtain ⟨k, hk, hb, hs⟩ := cc_bdk hl
  obtain ⟨c1, c2, c3, c4⟩ := cc_ch w hq hk
  rw [hb]
  exact ⟨_, _, _, _, cc_so_l h hlo hq hhi hst hl hc hc' lim, by show q + 1 ≤ cc_nx T k (q + 1); omega, c2, c3, (cc_part w hq hk).trans hs, by show (0 : Nat) ≤ 21; omega, Or.inl ⟨rfl, rfl, rfl⟩⟩

theorem cc_wt_b {T : Nat → Nat} {n q : Nat} (w : cc_wh T n) (hq : q < n) (hl : cc_lp (T q)) : 2 * (cc_en T (cc_bd T q) - cc_bd T q) ≤ 120 := by
  obtain ⟨k, hk, hb, hs⟩ := cc_bdk hl
  have l := cc_nx_lt w hq hk
  rw [← hb] at l
  have := cc_en_le w l
  have := w.2.2
  omega

section
variable {T : Nat → Nat} {n a : Nat} {f_time f_running f_open : Int32} {a_inputs a_tokens a_lengths a_ends b_sizes b_tokens b_ends b_wants : Nat → Int32}

theorem cc_m_set {a_variables a_row a_outputs a_timerOn a_timerBegin a_timerElapsed a_timerDone a_counterLast a_counterValue a_counterDone a_edgeLast a_edgeDone : Nat → Int32} {ν q R : Nat} {l : Int32} {L : List (Nat × Nat × Int32)} {lo hi : Nat} (CX : cc_XC T n a a_tokens a_ends) (CY : cc_YC T n a b_tokens b_ends)
    (ih : ∀ (L : List (Nat × Nat × Int32)) (R : Nat) (a_variables a_row a_outputs a_timerOn a_timerBegin a_timerElapsed a_timerDone a_counterLast a_counterValue a_counterDone a_edgeLast a_edgeDone : Nat → Int32), (∃ lo hi, cc_so T n L lo hi) → cc_n1 L.tail → R ≤ 300 → cc_b01 a_timerOn → (300 - R) * 121 + cc_wt T L ≤ ν → cc_G T n a f_time f_running f_open a_inputs a_tokens a_lengths a_ends b_sizes b_tokens b_ends b_wants ν L R a_variables a_row a_outputs a_timerOn a_timerBegin a_timerElapsed a_timerDone a_counterLast a_counterValue a_counterDone a_edgeLast a_edgeDone)
    (hso : cc_so T n L lo hi) (hlo : lo ≤ q) (hq : q < n) (hhi : cc_en T q ≤ hi) (hst : cc_st (T q) = true) (hlen : L.length ≤ 59) (hn1 : cc_n1 L) (hR : R ≤ 300) (hb01 : cc_b01 a_timerOn)
    (hm : (300 - R) * 121 + cc_wt T ((q, 0, l) :: L) ≤ ν + 1) (h1 : 10 ≤ T q) (h2 : T q ≤ 25) : cc_G T n a f_time f_running f_open a_inputs a_tokens a_lengths a_ends b_sizes b_tokens b_ends b_wants (ν + 1) ((q, 0, l) :: L) R a_variables a_row a_outputs a_timerOn a_timerBegin a_timerElapsed a_timerDone a_counterLast a_counterValue a_counterDone a_edgeLast a_edgeDone := by
  have w := CX.1
  have hgt := cc_en_gt w hq
  have hmm : (300 - R) * 121 + (2 * (cc_en T q - q) + cc_wt T L) ≤ ν + 1 := hm
  have hep : cc_ep (T q) = 1 := by
    unfold cc_ep
    repeat' split
    all_goals omega
  have hsp : cc_sp (T q) = 0 := by
    unfold cc_sp
    repeat' split
    all_goals omega
  refine cc_G_w (a_variables_2 := upd a_variables (T q - 10) ((cc_vl T n (cc_lf a_variables a_inputs a_outputs a_timerDone a_timerElapsed a_counterValue a_counterDone a_edgeDone) a_row) (q + 1))) (a_row_2 := a_row) (a_outputs_2 := a_outputs) (a_timerOn_2 := a_timerOn) (a_timerBegin_2 := a_timerBegin) (a_timerElapsed_2 := a_timerElapsed) (a_timerDone_2 := a_timerDone) (a_counterLast_2 := a_counterLast) (a_counterValue_2 := a_counterValue) (a_counterDone_2 := a_counterDone) (a_edgeLast_2 := a_edgeLast) (a_edgeDone_2 := a_edgeDone) (L' := L) CX CY hq hlen (fun P w0 pp pr pl hxs hP => ?_) (fun P num tk ta tr tl hys hP => ?_) (ih L R (upd a_variables (T q - 10) ((cc_vl T n (cc_lf a_variables a_inputs a_outputs a_timerDone a_timerElapsed a_counterValue a_counterDone a_edgeDone) a_row) (q + 1))) a_row a_outputs a_timerOn a_timerBegin a_timerElapsed a_timerDone a_counterLast a_counterValue a_counterDone a_edgeLast a_edgeDone ⟨_, _, hso⟩ (cc_n1_tail hn1) hR hb01 (by omega))
  · refine ⟨fun hz => ?_, fun hz => absurd hsp hz⟩
    refine cc_xsim CX hq hst hz (fun w' => ?_)
    rw [if_pos (by omega), if_neg (by omega), if_neg (by omega)]
    exact cc_x73_set h1 h2 (hP _ _ _ _ hxs)
  · exact cc_ys_set CY hq h1 h2 hlen hys hP

theorem cc_m_out {a_variables a_row a_outputs a_timerOn a_timerBegin a_timerElapsed a_timerDone a_counterLast a_counterValue a_counterDone a_edgeLast a_edgeDone : Nat → Int32} {ν q R : Nat} {l : Int32} {L : List (Nat × Nat × Int32)} {lo hi : Nat} (CX : cc_XC T n a a_tokens a_ends) (CY : cc_YC T n a b_tokens b_ends)
    (ih : ∀ (L : List (Nat × Nat × Int32)) (R : Nat) (a_variables a_row a_outputs a_timerOn a_timerBegin a_timerElapsed a_timerDone a_counterLast a_counterValue a_counterDone a_edgeLast a_edgeDone : Nat → Int32), (∃ lo hi, cc_so T n L lo hi) → cc_n1 L.tail → R ≤ 300 → cc_b01 a_timerOn → (300 - R) * 121 + cc_wt T L ≤ ν → cc_G T n a f_time f_running f_open a_inputs a_tokens a_lengths a_ends b_sizes b_tokens b_ends b_wants ν L R a_variables a_row a_outputs a_timerOn a_timerBegin a_timerElapsed a_timerDone a_counterLast a_counterValue a_counterDone a_edgeLast a_edgeDone)
    (hso : cc_so T n L lo hi) (hlo : lo ≤ q) (hq : q < n) (hhi : cc_en T q ≤ hi) (hst : cc_st (T q) = true) (hlen : L.length ≤ 59) (hn1 : cc_n1 L) (hR : R ≤ 300) (hb01 : cc_b01 a_timerOn)
    (hm : (300 - R) * 121 + cc_wt T ((q, 0, l) :: L) ≤ ν + 1) (h1 : 30 ≤ T q) (h2 : T q ≤ 33) : cc_G T n a f_time f_running f_open a_inputs a_tokens a_lengths a_ends b_sizes b_tokens b_ends b_wants (ν + 1) ((q, 0, l) :: L) R a_variables a_row a_outputs a_timerOn a_timerBegin a_timerElapsed a_timerDone a_counterLast a_counterValue a_counterDone a_edgeLast a_edgeDone := by
  have w := CX.1
  have hgt := cc_en_gt w hq
  have hmm : (300 - R) * 121 + (2 * (cc_en T q - q) + cc_wt T L) ≤ ν + 1 := hm
  have hep : cc_ep (T q) = 1 := by
    unfold cc_ep
    repeat' split
    all_goals omega
  have hsp : cc_sp (T q) = 0 := by
    unfold cc_sp
    repeat' split
    all_goals omega
  refine cc_G_w (a_variables_2 := a_variables) (a_row_2 := a_row) (a_outputs_2 := upd a_outputs (T q - 30) ((cc_vl T n (cc_lf a_variables a_inputs a_outputs a_timerDone a_timerElapsed a_counterValue a_counterDone a_edgeDone) a_row) (q + 1))) (a_timerOn_2 := a_timerOn) (a_timerBegin_2 := a_timerBegin) (a_timerElapsed_2 := a_timerElapsed) (a_timerDone_2 := a_timerDone) (a_counterLast_2 := a_counterLast) (a_counterValue_2 := a_counterValue) (a_counterDone_2 := a_counterDone) (a_edgeLast_2 := a_edgeLast) (a_edgeDone_2 := a_edgeDone) (L' := L) CX CY hq hlen (fun P w0 pp pr pl hxs hP => ?_) (fun P num tk ta tr tl hys hP => ?_) (ih L R a_variables a_row (upd a_outputs (T q - 30) ((cc_vl T n (cc_lf a_variables a_inputs a_outputs a_timerDone a_timerElapsed a_counterValue a_counterDone a_edgeDone) a_row) (q + 1))) a_timerOn a_timerBegin a_timerElapsed a_timerDone a_counterLast a_counterValue a_counterDone a_edgeLast a_edgeDone ⟨_, _, hso⟩ (cc_n1_tail hn1) hR hb01 (by omega))
  · refine ⟨fun hz => ?_, fun hz => absurd hsp hz⟩
    refine cc_xsim CX hq hst hz (fun w' => ?_)
    rw [if_pos (by omega), if_neg (by omega), if_neg (by omega)]
    exact cc_x73_out h1 h2 (hP _ _ _ _ hxs)
  · exact cc_ys_out CY hq h1 h2 hlen hys hP

theorem cc_m_cel {a_variables a_row a_outputs a_timerOn a_timerBegin a_timerElapsed a_timerDone a_counterLast a_counterValue a_counterDone a_edgeLast a_edgeDone : Nat → Int32} {ν q R : Nat} {l : Int32} {L : List (Nat × Nat × Int32)} {lo hi : Nat} (CX : cc_XC T n a a_tokens a_ends) (CY : cc_YC T n a b_tokens b_ends)
    (ih : ∀ (L : List (Nat × Nat × Int32)) (R : Nat) (a_variables a_row a_outputs a_timerOn a_timerBegin a_timerElapsed a_timerDone a_counterLast a_counterValue a_counterDone a_edgeLast a_edgeDone : Nat → Int32), (∃ lo hi, cc_so T n L lo hi) → cc_n1 L.tail → R ≤ 300 → cc_b01 a_timerOn → (300 - R) * 121 + cc_wt T L ≤ ν → cc_G T n a f_time f_running f_open a_inputs a_tokens a_lengths a_ends b_sizes b_tokens b_ends b_wants ν L R a_variables a_row a_outputs a_timerOn a_timerBegin a_timerElapsed a_timerDone a_counterLast a_counterValue a_counterDone a_edgeLast a_edgeDone)
    (hso : cc_so T n L lo hi) (hlo : lo ≤ q) (hq : q < n) (hhi : cc_en T q ≤ hi) (hst : cc_st (T q) = true) (hlen : L.length ≤ 59) (hn1 : cc_n1 L) (hR : R ≤ 300) (hb01 : cc_b01 a_timerOn)
    (hm : (300 - R) * 121 + cc_wt T ((q, 0, l) :: L) ≤ ν + 1) (ht : T q = 34) : cc_G T n a f_time f_running f_open a_inputs a_tokens a_lengths a_ends b_sizes b_tokens b_ends b_wants (ν + 1) ((q, 0, l) :: L) R a_variables a_row a_outputs a_timerOn a_timerBegin a_timerElapsed a_timerDone a_counterLast a_counterValue a_counterDone a_edgeLast a_edgeDone := by
  have w := CX.1
  have hgt := cc_en_gt w hq
  have hmm : (300 - R) * 121 + (2 * (cc_en T q - q) + cc_wt T L) ≤ ν + 1 := hm
  have hep : cc_ep (T q) = 2 := by
    unfold cc_ep
    repeat' split
    all_goals omega
  have hsp : cc_sp (T q) = 0 := by
    unfold cc_sp
    repeat' split
    all_goals omega
  refine cc_G_w (a_variables_2 := a_variables) (a_row_2 := upd a_row ((cc_vl T n (cc_lf a_variables a_inputs a_outputs a_timerDone a_timerElapsed a_counterValue a_counterDone a_edgeDone) a_row) (q + 1) &&& 7).toNatClampNeg ((cc_vl T n (cc_lf a_variables a_inputs a_outputs a_timerDone a_timerElapsed a_counterValue a_counterDone a_edgeDone) a_row) (cc_en T (q + 1)))) (a_outputs_2 := a_outputs) (a_timerOn_2 := a_timerOn) (a_timerBegin_2 := a_timerBegin) (a_timerElapsed_2 := a_timerElapsed) (a_timerDone_2 := a_timerDone) (a_counterLast_2 := a_counterLast) (a_counterValue_2 := a_counterValue) (a_counterDone_2 := a_counterDone) (a_edgeLast_2 := a_edgeLast) (a_edgeDone_2 := a_edgeDone) (L' := L) CX CY hq hlen (fun P w0 pp pr pl hxs hP => ?_) (fun P num tk ta tr tl hys hP => ?_) (ih L R a_variables (upd a_row ((cc_vl T n (cc_lf a_variables a_inputs a_outputs a_timerDone a_timerElapsed a_counterValue a_counterDone a_edgeDone) a_row) (q + 1) &&& 7).toNatClampNeg ((cc_vl T n (cc_lf a_variables a_inputs a_outputs a_timerDone a_timerElapsed a_counterValue a_counterDone a_edgeDone) a_row) (cc_en T (q + 1)))) a_outputs a_timerOn a_timerBegin a_timerElapsed a_timerDone a_counterLast a_counterValue a_counterDone a_edgeLast a_edgeDone ⟨_, _, hso⟩ (cc_n1_tail hn1) hR hb01 (by omega))
  · refine ⟨fun hz => ?_, fun hz => absurd hsp hz⟩
    refine cc_xsim CX hq hst hz (fun w' => ?_)
    rw [if_pos (by omega), if_pos (by omega), if_neg (by omega)]
    exact ht ▸ cc_x73_cel (hP _ _ _ _ hxs)
  · exact cc_ys_cel CY hq ht hlen hys hP

theorem cc_m_two {a_variables a_row a_outputs a_timerOn a_timerBegin a_timerElapsed a_timerDone a_counterLast a_counterValue a_counterDone a_edgeLast a_edgeDone : Nat → Int32} {ν q R : Nat} {l : Int32} {L : List (Nat × Nat × Int32)} {lo hi : Nat} (CX : cc_XC T n a a_tokens a_ends) (CY : cc_YC T n a b_tokens b_ends)
    (ih : ∀ (L : List (Nat × Nat × Int32)) (R : Nat) (a_variables a_row a_outputs a_timerOn a_timerBegin a_timerElapsed a_timerDone a_counterLast a_counterValue a_counterDone a_edgeLast a_edgeDone : Nat → Int32), (∃ lo hi, cc_so T n L lo hi) → cc_n1 L.tail → R ≤ 300 → cc_b01 a_timerOn → (300 - R) * 121 + cc_wt T L ≤ ν → cc_G T n a f_time f_running f_open a_inputs a_tokens a_lengths a_ends b_sizes b_tokens b_ends b_wants ν L R a_variables a_row a_outputs a_timerOn a_timerBegin a_timerElapsed a_timerDone a_counterLast a_counterValue a_counterDone a_edgeLast a_edgeDone)
    (hso : cc_so T n L lo hi) (hlo : lo ≤ q) (hq : q < n) (hhi : cc_en T q ≤ hi) (hst : cc_st (T q) = true) (hlen : L.length ≤ 59) (hn1 : cc_n1 L) (hR : R ≤ 300) (hb01 : cc_b01 a_timerOn)
    (hm : (300 - R) * 121 + cc_wt T ((q, 0, l) :: L) ≤ ν + 1) (ht : T q = 2) : cc_G T n a f_time f_running f_open a_inputs a_tokens a_lengths a_ends b_sizes b_tokens b_ends b_wants (ν + 1) ((q, 0, l) :: L) R a_variables a_row a_outputs a_timerOn a_timerBegin a_timerElapsed a_timerDone a_counterLast a_counterValue a_counterDone a_edgeLast a_edgeDone := by
  have w := CX.1
  have hgt := cc_en_gt w hq
  have hmm : (300 - R) * 121 + (2 * (cc_en T q - q) + cc_wt T L) ≤ ν + 1 := hm
  have hep : cc_ep (T q) = 0 := by
    unfold cc_ep
    repeat' split
    all_goals omega
  have hsp : cc_sp (T q) = 0 := by
    unfold cc_sp
    repeat' split
    all_goals omega
  refine cc_G_w (a_variables_2 := a_variables) (a_row_2 := a_row) (a_outputs_2 := a_outputs) (a_timerOn_2 := a_timerOn) (a_timerBegin_2 := a_timerBegin) (a_timerElapsed_2 := a_timerElapsed) (a_timerDone_2 := a_timerDone) (a_counterLast_2 := a_counterLast) (a_counterValue_2 := a_counterValue) (a_counterDone_2 := a_counterDone) (a_edgeLast_2 := a_edgeLast) (a_edgeDone_2 := a_edgeDone) (L' := L) CX CY hq hlen (fun P w0 pp pr pl hxs hP => ?_) (fun P num tk ta tr tl hys hP => ?_) (ih L R a_variables a_row a_outputs a_timerOn a_timerBegin a_timerElapsed a_timerDone a_counterLast a_counterValue a_counterDone a_edgeLast a_edgeDone ⟨_, _, hso⟩ (cc_n1_tail hn1) hR hb01 (by omega))
  · refine ⟨fun hz => ?_, fun hz => absurd hsp hz⟩
    refine cc_xsim CX hq hst hz (fun w' => ?_)
    rw [if_neg (by omega), if_neg (by omega), if_neg (by omega)]
    exact ht ▸ cc_x73_two (hP _ _ _ _ hxs)
  · exact cc_ys_two CY hq ht hlen hys hP

theorem cc_m_lea {a_variables a_row a_outputs a_timerOn a_timerBegin a_timerElapsed a_timerDone a_counterLast a_counterValue a_counterDone a_edgeLast a_edgeDone : Nat → Int32} {ν q R : Nat} {l : Int32} {L : List (Nat × Nat × Int32)} {lo hi : Nat} (CX : cc_XC T n a a_tokens a_ends) (CY : cc_YC T n a b_tokens b_ends)
    (ih : ∀ (L : List (Nat × Nat × Int32)) (R : Nat) (a_variables a_row a_outputs a_timerOn a_timerBegin a_timerElapsed a_timerDone a_counterLast a_counterValue a_counterDone a_edgeLast a_edgeDone : Nat → Int32), (∃ lo hi, cc_so T n L lo hi) → cc_n1 L.tail → R ≤ 300 → cc_b01 a_timerOn → (300 - R) * 121 + cc_wt T L ≤ ν → cc_G T n a f_time f_running f_open a_inputs a_tokens a_lengths a_ends b_sizes b_tokens b_ends b_wants ν L R a_variables a_row a_outputs a_timerOn a_timerBegin a_timerElapsed a_timerDone a_counterLast a_counterValue a_counterDone a_edgeLast a_edgeDone)
    (hso : cc_so T n L lo hi) (hlo : lo ≤ q) (hq : q < n) (hhi : cc_en T q ≤ hi) (hst : cc_st (T q) = true) (hlen : L.length ≤ 59) (hn1 : cc_n1 L) (hR : R ≤ 300) (hb01 : cc_b01 a_timerOn)
    (hm : (300 - R) * 121 + cc_wt T ((q, 0, l) :: L) ≤ ν + 1) (ht : T q = 39) : cc_G T n a f_time f_running f_open a_inputs a_tokens a_lengths a_ends b_sizes b_tokens b_ends b_wants (ν + 1) ((q, 0, l) :: L) R a_variables a_row a_outputs a_timerOn a_timerBegin a_timerElapsed a_timerDone a_counterLast a_counterValue a_counterDone a_edgeLast a_edgeDone := by
  have w := CX.1
  have hgt := cc_en_gt w hq
  have hmm : (300 - R) * 121 + (2 * (cc_en T q - q) + cc_wt T L) ≤ ν + 1 := hm
  have hep : cc_ep (T q) = 0 := by
    unfold cc_ep
    repeat' split
    all_goals omega
  have hsp : cc_sp (T q) = 0 := by
    unfold cc_sp
    repeat' split
    all_goals omega
  have hlw := cc_lv_wt T L
  refine cc_G_w (a_variables_2 := a_variables) (a_row_2 := a_row) (a_outputs_2 := a_outputs) (a_timerOn_2 := a_timerOn) (a_timerBegin_2 := a_timerBegin) (a_timerElapsed_2 := a_timerElapsed) (a_timerDone_2 := a_timerDone) (a_counterLast_2 := a_counterLast) (a_counterValue_2 := a_counterValue) (a_counterDone_2 := a_counterDone) (a_edgeLast_2 := a_edgeLast) (a_edgeDone_2 := a_edgeDone) (L' := (cc_lv L)) CX CY hq hlen (fun P w0 pp pr pl hxs hP => ?_) (fun P num tk ta tr tl hys hP => ?_) (ih (cc_lv L) R a_variables a_row a_outputs a_timerOn a_timerBegin a_timerElapsed a_timerDone a_counterLast a_counterValue a_counterDone a_edgeLast a_edgeDone (cc_lv_so hso) (cc_n1_tail (cc_lv_n1 hn1)) hR hb01 (by omega))
  · refine ⟨fun hz => ?_, fun hz => absurd hsp hz⟩
    refine cc_xsim CX hq hst hz (fun w' => ?_)
    rw [if_neg (by omega), if_neg (by omega), if_neg (by omega)]
    exact ht ▸ cc_x73_lea (by omega) (cc_so_code hso) hxs (hP _ _ _ _ (cc_lv_xs hxs))
  · exact cc_ys_lea CY hq ht hlen hys hn1 hP

theorem cc_m_tim {a_variables a_row a_outputs a_timerOn a_timerBegin a_timerElapsed a_timerDone a_counterLast a_counterValue a_counterDone a_edgeLast a_edgeDone : Nat → Int32} {ν q R : Nat} {l : Int32} {L : List (Nat × Nat × Int32)} {lo hi : Nat} (CX : cc_XC T n a a_tokens a_ends) (CY : cc_YC T n a b_tokens b_ends)
    (ih : ∀ (L : List (Nat × Nat × Int32)) (R : Nat) (a_variables a_row a_outputs a_timerOn a_timerBegin a_timerElapsed a_timerDone a_counterLast a_counterValue a_counterDone a_edgeLast a_edgeDone : Nat → Int32), (∃ lo hi, cc_so T n L lo hi) → cc_n1 L.tail → R ≤ 300 → cc_b01 a_timerOn → (300 - R) * 121 + cc_wt T L ≤ ν → cc_G T n a f_time f_running f_open a_inputs a_tokens a_lengths a_ends b_sizes b_tokens b_ends b_wants ν L R a_variables a_row a_outputs a_timerOn a_timerBegin a_timerElapsed a_timerDone a_counterLast a_counterValue a_counterDone a_edgeLast a_edgeDone)
    (hso : cc_so T n L lo hi) (hlo : lo ≤ q) (hq : q < n) (hhi : cc_en T q ≤ hi) (hst : cc_st (T q) = true) (hlen : L.length ≤ 59) (hn1 : cc_n1 L) (hR : R ≤ 300) (hb01 : cc_b01 a_timerOn)
    (hm : (300 - R) * 121 + cc_wt T ((q, 0, l) :: L) ≤ ν + 1) (h1 : 60 ≤ T q) (h2 : T q ≤ 62) : cc_G T n a f_time f_running f_open a_inputs a_tokens a_lengths a_ends b_sizes b_tokens b_ends b_wants (ν + 1) ((q, 0, l) :: L) R a_variables a_row a_outputs a_timerOn a_timerBegin a_timerElapsed a_timerDone a_counterLast a_counterValue a_counterDone a_edgeLast a_edgeDone := by
  have w := CX.1
  have hgt := cc_en_gt w hq
  have hmm : (300 - R) * 121 + (2 * (cc_en T q - q) + cc_wt T L) ≤ ν + 1 := hm
  have hep : cc_ep (T q) = 2 := by
    unfold cc_ep
    repeat' split
    all_goals omega
  have hsp : cc_sp (T q) = 0 := by
    unfold cc_sp
    repeat' split
    all_goals omega
  refine cc_G_w (a_variables_2 := a_variables) (a_row_2 := a_row) (a_outputs_2 := a_outputs) (a_timerOn_2 := cc_tOn a_timerOn (T q - 60) (cc_tr ((cc_vl T n (cc_lf a_variables a_inputs a_outputs a_timerDone a_timerElapsed a_counterValue a_counterDone a_edgeDone) a_row) (q + 1)))) (a_timerBegin_2 := cc_tBe a_timerOn a_timerBegin (T q - 60) (cc_tr ((cc_vl T n (cc_lf a_variables a_inputs a_outputs a_timerDone a_timerElapsed a_counterValue a_counterDone a_edgeDone) a_row) (q + 1))) f_time) (a_timerElapsed_2 := cc_tEl a_timerElapsed (T q - 60) (cc_tr ((cc_vl T n (cc_lf a_variables a_inputs a_outputs a_timerDone a_timerElapsed a_counterValue a_counterDone a_edgeDone) a_row) (q + 1))) (f_time - cc_tBe a_timerOn a_timerBegin (T q - 60) (cc_tr ((cc_vl T n (cc_lf a_variables a_inputs a_outputs a_timerDone a_timerElapsed a_counterValue a_counterDone a_edgeDone) a_row) (q + 1))) f_time (T q - 60)) ((cc_vl T n (cc_lf a_variables a_inputs a_outputs a_timerDone a_timerElapsed a_counterValue a_counterDone a_edgeDone) a_row) (cc_en T (q + 1)))) (a_timerDone_2 := cc_tDo a_timerDone (T q - 60) (cc_tr ((cc_vl T n (cc_lf a_variables a_inputs a_outputs a_timerDone a_timerElapsed a_counterValue a_counterDone a_edgeDone) a_row) (q + 1))) (f_time - cc_tBe a_timerOn a_timerBegin (T q - 60) (cc_tr ((cc_vl T n (cc_lf a_variables a_inputs a_outputs a_timerDone a_timerElapsed a_counterValue a_counterDone a_edgeDone) a_row) (q + 1))) f_time (T q - 60)) ((cc_vl T n (cc_lf a_variables a_inputs a_outputs a_timerDone a_timerElapsed a_counterValue a_counterDone a_edgeDone) a_row) (cc_en T (q + 1)))) (a_counterLast_2 := a_counterLast) (a_counterValue_2 := a_counterValue) (a_counterDone_2 := a_counterDone) (a_edgeLast_2 := a_edgeLast) (a_edgeDone_2 := a_edgeDone) (L' := L) CX CY hq hlen (fun P w0 pp pr pl hxs hP => ?_) (fun P num tk ta tr tl hys hP => ?_) (ih L R a_variables a_row a_outputs (cc_tOn a_timerOn (T q - 60) (cc_tr ((cc_vl T n (cc_lf a_variables a_inputs a_outputs a_timerDone a_timerElapsed a_counterValue a_counterDone a_edgeDone) a_row) (q + 1)))) (cc_tBe a_timerOn a_timerBegin (T q - 60) (cc_tr ((cc_vl T n (cc_lf a_variables a_inputs a_outputs a_timerDone a_timerElapsed a_counterValue a_counterDone a_edgeDone) a_row) (q + 1))) f_time) (cc_tEl a_timerElapsed (T q - 60) (cc_tr ((cc_vl T n (cc_lf a_variables a_inputs a_outputs a_timerDone a_timerElapsed a_counterValue a_counterDone a_edgeDone) a_row) (q + 1))) (f_time - cc_tBe a_timerOn a_timerBegin (T q - 60) (cc_tr ((cc_vl T n (cc_lf a_variables a_inputs a_outputs a_timerDone a_timerElapsed a_counterValue a_counterDone a_edgeDone) a_row) (q + 1))) f_time (T q - 60)) ((cc_vl T n (cc_lf a_variables a_inputs a_outputs a_timerDone a_timerElapsed a_counterValue a_counterDone a_edgeDone) a_row) (cc_en T (q + 1)))) (cc_tDo a_timerDone (T q - 60) (cc_tr ((cc_vl T n (cc_lf a_variables a_inputs a_outputs a_timerDone a_timerElapsed a_counterValue a_counterDone a_edgeDone) a_row) (q + 1))) (f_time - cc_tBe a_timerOn a_timerBegin (T q - 60) (cc_tr ((cc_vl T n (cc_lf a_variables a_inputs a_outputs a_timerDone a_timerElapsed a_counterValue a_counterDone a_edgeDone) a_row) (q + 1))) f_time (T q - 60)) ((cc_vl T n (cc_lf a_variables a_inputs a_outputs a_timerDone a_timerElapsed a_counterValue a_counterDone a_edgeDone) a_row) (cc_en T (q + 1)))) a_counterLast a_counterValue a_counterDone a_edgeLast a_edgeDone ⟨_, _, hso⟩ (cc_n1_tail hn1) hR (cc_b01_upd hb01) (by omega))
  · refine ⟨fun hz => ?_, fun hz => absurd hsp hz⟩
    refine cc_xsim CX hq hst hz (fun w' => ?_)
    rw [if_pos (by omega), if_pos (by omega), if_neg (by omega)]
    exact cc_x73_tim h1 h2 (hP _ _ _ _ hxs)
  · exact cc_ys_tim CY hq h1 h2 hlen hys hb01 hP

theorem cc_m_cnt {a_variables a_row a_outputs a_timerOn a_timerBegin a_timerElapsed a_timerDone a_counterLast a_counterValue a_counterDone a_edgeLast a_edgeDone : Nat → Int32} {ν q R : Nat} {l : Int32} {L : List (Nat × Nat × Int32)} {lo hi : Nat} (CX : cc_XC T n a a_tokens a_ends) (CY : cc_YC T n a b_tokens b_ends)
    (ih : ∀ (L : List (Nat × Nat × Int32)) (R : Nat) (a_variables a_row a_outputs a_timerOn a_timerBegin a_timerElapsed a_timerDone a_counterLast a_counterValue a_counterDone a_edgeLast a_edgeDone : Nat → Int32), (∃ lo hi, cc_so T n L lo hi) → cc_n1 L.tail → R ≤ 300 → cc_b01 a_timerOn → (300 - R) * 121 + cc_wt T L ≤ ν → cc_G T n a f_time f_running f_open a_inputs a_tokens a_lengths a_ends b_sizes b_tokens b_ends b_wants ν L R a_variables a_row a_outputs a_timerOn a_timerBegin a_timerElapsed a_timerDone a_counterLast a_counterValue a_counterDone a_edgeLast a_edgeDone)
    (hso : cc_so T n L lo hi) (hlo : lo ≤ q) (hq : q < n) (hhi : cc_en T q ≤ hi) (hst : cc_st (T q) = true) (hlen : L.length ≤ 59) (hn1 : cc_n1 L) (hR : R ≤ 300) (hb01 : cc_b01 a_timerOn)
    (hm : (300 - R) * 121 + cc_wt T ((q, 0, l) :: L) ≤ ν + 1) (h1 : 63 ≤ T q) (h2 : T q ≤ 65) : cc_G T n a f_time f_running f_open a_inputs a_tokens a_lengths a_ends b_sizes b_tokens b_ends b_wants (ν + 1) ((q, 0, l) :: L) R a_variables a_row a_outputs a_timerOn a_timerBegin a_timerElapsed a_timerDone a_counterLast a_counterValue a_counterDone a_edgeLast a_edgeDone := by
  have w := CX.1
  have hgt := cc_en_gt w hq
  have hmm : (300 - R) * 121 + (2 * (cc_en T q - q) + cc_wt T L) ≤ ν + 1 := hm
  have hep : cc_ep (T q) = 3 := by
    unfold cc_ep
    repeat' split
    all_goals omega
  have hsp : cc_sp (T q) = 0 := by
    unfold cc_sp
    repeat' split
    all_goals omega
  refine cc_G_w (a_variables_2 := a_variables) (a_row_2 := a_row) (a_outputs_2 := a_outputs) (a_timerOn_2 := a_timerOn) (a_timerBegin_2 := a_timerBegin) (a_timerElapsed_2 := a_timerElapsed) (a_timerDone_2 := a_timerDone) (a_counterLast_2 := upd a_counterLast (T q - 63) (cc_bI (cc_tr ((cc_vl T n (cc_lf a_variables a_inputs a_outputs a_timerDone a_timerElapsed a_counterValue a_counterDone a_edgeDone) a_row) (q + 1))))) (a_counterValue_2 := cc_cVa a_counterLast a_counterValue (T q - 63) (cc_tr ((cc_vl T n (cc_lf a_variables a_inputs a_outputs a_timerDone a_timerElapsed a_counterValue a_counterDone a_edgeDone) a_row) (q + 1))) (cc_tr ((cc_vl T n (cc_lf a_variables a_inputs a_outputs a_timerDone a_timerElapsed a_counterValue a_counterDone a_edgeDone) a_row) (cc_en T (q + 1))))) (a_counterDone_2 := cc_cDo (cc_cVa a_counterLast a_counterValue (T q - 63) (cc_tr ((cc_vl T n (cc_lf a_variables a_inputs a_outputs a_timerDone a_timerElapsed a_counterValue a_counterDone a_edgeDone) a_row) (q + 1))) (cc_tr ((cc_vl T n (cc_lf a_variables a_inputs a_outputs a_timerDone a_timerElapsed a_counterValue a_counterDone a_edgeDone) a_row) (cc_en T (q + 1))))) a_counterDone (T q - 63) ((cc_vl T n (cc_lf a_variables a_inputs a_outputs a_timerDone a_timerElapsed a_counterValue a_counterDone a_edgeDone) a_row) (cc_en T (cc_en T (q + 1))))) (a_edgeLast_2 := a_edgeLast) (a_edgeDone_2 := a_edgeDone) (L' := L) CX CY hq hlen (fun P w0 pp pr pl hxs hP => ?_) (fun P num tk ta tr tl hys hP => ?_) (ih L R a_variables a_row a_outputs a_timerOn a_timerBegin a_timerElapsed a_timerDone (upd a_counterLast (T q - 63) (cc_bI (cc_tr ((cc_vl T n (cc_lf a_variables a_inputs a_outputs a_timerDone a_timerElapsed a_counterValue a_counterDone a_edgeDone) a_row) (q + 1))))) (cc_cVa a_counterLast a_counterValue (T q - 63) (cc_tr ((cc_vl T n (cc_lf a_variables a_inputs a_outputs a_timerDone a_timerElapsed a_counterValue a_counterDone a_edgeDone) a_row) (q + 1))) (cc_tr ((cc_vl T n (cc_lf a_variables a_inputs a_outputs a_timerDone a_timerElapsed a_counterValue a_counterDone a_edgeDone) a_row) (cc_en T (q + 1))))) (cc_cDo (cc_cVa a_counterLast a_counterValue (T q - 63) (cc_tr ((cc_vl T n (cc_lf a_variables a_inputs a_outputs a_timerDone a_timerElapsed a_counterValue a_counterDone a_edgeDone) a_row) (q + 1))) (cc_tr ((cc_vl T n (cc_lf a_variables a_inputs a_outputs a_timerDone a_timerElapsed a_counterValue a_counterDone a_edgeDone) a_row) (cc_en T (q + 1))))) a_counterDone (T q - 63) ((cc_vl T n (cc_lf a_variables a_inputs a_outputs a_timerDone a_timerElapsed a_counterValue a_counterDone a_edgeDone) a_row) (cc_en T (cc_en T (q + 1))))) a_edgeLast a_edgeDone ⟨_, _, hso⟩ (cc_n1_tail hn1) hR hb01 (by omega))
  · refine ⟨fun hz => ?_, fun hz => absurd hsp hz⟩
    refine cc_xsim CX hq hst hz (fun w' => ?_)
    rw [if_pos (by omega), if_pos (by omega), if_pos (by omega)]
    exact cc_x73_cnt h1 h2 (hP _ _ _ _ hxs)
  · exact cc_ys_cnt CY hq h1 h2 hlen hys hP

theorem cc_m_edg {a_variables a_row a_outputs a_timerOn a_timerBegin a_timerElapsed a_timerDone a_counterLast a_counterValue a_counterDone a_edgeLast a_edgeDone : Nat → Int32} {ν q R : Nat} {l : Int32} {L : List (Nat × Nat × Int32)} {lo hi : Nat} (CX : cc_XC T n a a_tokens a_ends) (CY : cc_YC T n a b_tokens b_ends)
    (ih : ∀ (L : List (Nat × Nat × Int32)) (R : Nat) (a_variables a_row a_outputs a_timerOn a_timerBegin a_timerElapsed a_timerDone a_counterLast a_counterValue a_counterDone a_edgeLast a_edgeDone : Nat → Int32), (∃ lo hi, cc_so T n L lo hi) → cc_n1 L.tail → R ≤ 300 → cc_b01 a_timerOn → (300 - R) * 121 + cc_wt T L ≤ ν → cc_G T n a f_time f_running f_open a_inputs a_tokens a_lengths a_ends b_sizes b_tokens b_ends b_wants ν L R a_variables a_row a_outputs a_timerOn a_timerBegin a_timerElapsed a_timerDone a_counterLast a_counterValue a_counterDone a_edgeLast a_edgeDone)
    (hso : cc_so T n L lo hi) (hlo : lo ≤ q) (hq : q < n) (hhi : cc_en T q ≤ hi) (hst : cc_st (T q) = true) (hlen : L.length ≤ 59) (hn1 : cc_n1 L) (hR : R ≤ 300) (hb01 : cc_b01 a_timerOn)
    (hm : (300 - R) * 121 + cc_wt T ((q, 0, l) :: L) ≤ ν + 1) (h1 : 66 ≤ T q) (h2 : T q ≤ 68) : cc_G T n a f_time f_running f_open a_inputs a_tokens a_lengths a_ends b_sizes b_tokens b_ends b_wants (ν + 1) ((q, 0, l) :: L) R a_variables a_row a_outputs a_timerOn a_timerBegin a_timerElapsed a_timerDone a_counterLast a_counterValue a_counterDone a_edgeLast a_edgeDone := by
  have w := CX.1
  have hgt := cc_en_gt w hq
  have hmm : (300 - R) * 121 + (2 * (cc_en T q - q) + cc_wt T L) ≤ ν + 1 := hm
  have hep : cc_ep (T q) = 1 := by
    unfold cc_ep
    repeat' split
    all_goals omega
  have hsp : cc_sp (T q) = 0 := by
    unfold cc_sp
    repeat' split
    all_goals omega
  refine cc_G_w (a_variables_2 := a_variables) (a_row_2 := a_row) (a_outputs_2 := a_outputs) (a_timerOn_2 := a_timerOn) (a_timerBegin_2 := a_timerBegin) (a_timerElapsed_2 := a_timerElapsed) (a_timerDone_2 := a_timerDone) (a_counterLast_2 := a_counterLast) (a_counterValue_2 := a_counterValue) (a_counterDone_2 := a_counterDone) (a_edgeLast_2 := upd a_edgeLast (T q - 66) (cc_bI (cc_tr ((cc_vl T n (cc_lf a_variables a_inputs a_outputs a_timerDone a_timerElapsed a_counterValue a_counterDone a_edgeDone) a_row) (q + 1))))) (a_edgeDone_2 := cc_eDo a_edgeLast a_edgeDone (T q - 66) (cc_tr ((cc_vl T n (cc_lf a_variables a_inputs a_outputs a_timerDone a_timerElapsed a_counterValue a_counterDone a_edgeDone) a_row) (q + 1)))) (L' := L) CX CY hq hlen (fun P w0 pp pr pl hxs hP => ?_) (fun P num tk ta tr tl hys hP => ?_) (ih L R a_variables a_row a_outputs a_timerOn a_timerBegin a_timerElapsed a_timerDone a_counterLast a_counterValue a_counterDone (upd a_edgeLast (T q - 66) (cc_bI (cc_tr ((cc_vl T n (cc_lf a_variables a_inputs a_outputs a_timerDone a_timerElapsed a_counterValue a_counterDone a_edgeDone) a_row) (q + 1))))) (cc_eDo a_edgeLast a_edgeDone (T q - 66) (cc_tr ((cc_vl T n (cc_lf a_variables a_inputs a_outputs a_timerDone a_timerElapsed a_counterValue a_counterDone a_edgeDone) a_row) (q + 1)))) ⟨_, _, hso⟩ (cc_n1_tail hn1) hR hb01 (by omega))
  · refine ⟨fun hz => ?_, fun hz => absurd hsp hz⟩
    refine cc_xsim CX hq hst hz (fun w' => ?_)
    rw [if_pos (by omega), if_neg (by omega), if_neg (by omega)]
    exact cc_x73_edg h1 h2 (hP _ _ _ _ hxs)
  · exact cc_ys_edg CY hq h1 h2 hlen hys hP

theorem cc_m_seq {a_variables a_row a_outputs a_timerOn a_timerBegin a_timerElapsed a_timerDone a_counterLast a_counterValue a_counterDone a_edgeLast a_edgeDone : Nat → Int32} {ν q R : Nat} {l : Int32} {L : List (Nat × Nat × Int32)} {lo hi : Nat} (CX : cc_XC T n a a_tokens a_ends) (CY : cc_YC T n a b_tokens b_ends)
    (ih : ∀ (L : List (Nat × Nat × Int32)) (R : Nat) (a_variables a_row a_outputs a_timerOn a_timerBegin a_timerElapsed a_timerDone a_counterLast a_counterValue a_counterDone a_edgeLast a_edgeDone : Nat → Int32), (∃ lo hi, cc_so T n L lo hi) → cc_n1 L.tail → R ≤ 300 → cc_b01 a_timerOn → (300 - R) * 121 + cc_wt T L ≤ ν → cc_G T n a f_time f_running f_open a_inputs a_tokens a_lengths a_ends b_sizes b_tokens b_ends b_wants ν L R a_variables a_row a_outputs a_timerOn a_timerBegin a_timerElapsed a_timerDone a_counterLast a_counterValue a_counterDone a_edgeLast a_edgeDone)
    (hso : cc_so T n L lo hi) (hlo : lo ≤ q) (hq : q < n) (hhi : cc_en T q ≤ hi) (hst : cc_st (T q) = true) (hlen : L.length ≤ 59) (hn1 : cc_n1 L) (hR : R ≤ 300) (hb01 : cc_b01 a_timerOn)
    (hm : (300 - R) * 121 + cc_wt T ((q, 0, l) :: L) ≤ ν + 1) (ht : T q = 1) : cc_G T n a f_time f_running f_open a_inputs a_tokens a_lengths a_ends b_sizes b_tokens b_ends b_wants (ν + 1) ((q, 0, l) :: L) R a_variables a_row a_outputs a_timerOn a_timerBegin a_timerElapsed a_timerDone a_counterLast a_counterValue a_counterDone a_edgeLast a_edgeDone := by
  have w := CX.1
  have hgt := cc_en_gt w hq
  have hmm : (300 - R) * 121 + (2 * (cc_en T q - q) + cc_wt T L) ≤ ν + 1 := hm
  have hsp : cc_sp (T q) ≠ 0 := by
    unfold cc_sp
    repeat' split
    all_goals omega
  have har : cc_ar (T q) = 2 := by rw [ht]; rfl
  have k0 := cc_ch (k := 0) w hq (by omega)
  have k1 := cc_ch (k := 1) w hq (by omega)
  have kk : cc_en T (cc_nx T 0 (q + 1)) = cc_nx T 1 (q + 1) := rfl
  have hws : (300 - R) * 121 + (2 * (cc_en T (cc_nx T 0 (q + 1)) - cc_nx T 0 (q + 1)) + (2 * (cc_en T (cc_nx T 1 (q + 1)) - cc_nx T 1 (q + 1)) + cc_wt T L)) ≤ ν := by
    rw [kk]
    rw [kk] at k0
    omega
  refine cc_G_w (a_variables_2 := a_variables) (a_row_2 := a_row) (a_outputs_2 := a_outputs) (a_timerOn_2 := a_timerOn) (a_timerBegin_2 := a_timerBegin) (a_timerElapsed_2 := a_timerElapsed) (a_timerDone_2 := a_timerDone) (a_counterLast_2 := a_counterLast) (a_counterValue_2 := a_counterValue) (a_counterDone_2 := a_counterDone) (a_edgeLast_2 := a_edgeLast) (a_edgeDone_2 := a_edgeDone) (L' := ((cc_nx T 0 (q + 1), 0, 0) :: (cc_nx T 1 (q + 1), 0, 0) :: L)) CX CY hq hlen (fun P w0 pp pr pl hxs hP => ?_) (fun P num tk ta tr tl hys hP => ?_) (ih ((cc_nx T 0 (q + 1), 0, 0) :: (cc_nx T 1 (q + 1), 0, 0) :: L) R a_variables a_row a_outputs a_timerOn a_timerBegin a_timerElapsed a_timerDone a_counterLast a_counterValue a_counterDone a_edgeLast a_edgeDone ⟨_, _, cc_so_seq w hso hlo hq hhi ht⟩ (cc_n1_cons hn1 (by show (0 : Nat) ≠ 1; omega)) hR hb01 hws)
  · exact ⟨fun hz => absurd hz hsp, fun _ => cc_xo1 CX hq ht hlen hxs hP⟩
  · exact cc_ys_seq CY hq ht hlen hys hP

theorem cc_m_if {a_variables a_row a_outputs a_timerOn a_timerBegin a_timerElapsed a_timerDone a_counterLast a_counterValue a_counterDone a_edgeLast a_edgeDone : Nat → Int32} {ν q R : Nat} {l : Int32} {L : List (Nat × Nat × Int32)} {lo hi : Nat} (CX : cc_XC T n a a_tokens a_ends) (CY : cc_YC T n a b_tokens b_ends)
    (ih : ∀ (L : List (Nat × Nat × Int32)) (R : Nat) (a_variables a_row a_outputs a_timerOn a_timerBegin a_timerElapsed a_timerDone a_counterLast a_counterValue a_counterDone a_edgeLast a_edgeDone : Nat → Int32), (∃ lo hi, cc_so T n L lo hi) → cc_n1 L.tail → R ≤ 300 → cc_b01 a_timerOn → (300 - R) * 121 + cc_wt T L ≤ ν → cc_G T n a f_time f_running f_open a_inputs a_tokens a_lengths a_ends b_sizes b_tokens b_ends b_wants ν L R a_variables a_row a_outputs a_timerOn a_timerBegin a_timerElapsed a_timerDone a_counterLast a_counterValue a_counterDone a_edgeLast a_edgeDone)
    (hso : cc_so T n L lo hi) (hlo : lo ≤ q) (hq : q < n) (hhi : cc_en T q ≤ hi) (hst : cc_st (T q) = true) (hlen : L.length ≤ 59) (hn1 : cc_n1 L) (hR : R ≤ 300) (hb01 : cc_b01 a_timerOn)
    (hm : (300 - R) * 121 + cc_wt T ((q, 0, l) :: L) ≤ ν + 1) (ht : T q = 35) : cc_G T n a f_time f_running f_open a_inputs a_tokens a_lengths a_ends b_sizes b_tokens b_ends b_wants (ν + 1) ((q, 0, l) :: L) R a_variables a_row a_outputs a_timerOn a_timerBegin a_timerElapsed a_timerDone a_counterLast a_counterValue a_counterDone a_edgeLast a_edgeDone := by
  have w := CX.1
  have hgt := cc_en_gt w hq
  have hmm : (300 - R) * 121 + (2 * (cc_en T q - q) + cc_wt T L) ≤ ν + 1 := hm
  have hsp : cc_sp (T q) ≠ 0 := by
    unfold cc_sp
    repeat' split
    all_goals omega
  have hk : (if (cc_vl T n (cc_lf a_variables a_inputs a_outputs a_timerDone a_timerElapsed a_counterValue a_counterDone a_edgeDone) a_row) (q + 1) = 0 then 2 else 1) < cc_ar (T q) ∧ cc_ts (T q) (if (cc_vl T n (cc_lf a_variables a_inputs a_outputs a_timerDone a_timerElapsed a_counterValue a_counterDone a_edgeDone) a_row) (q + 1) = 0 then 2 else 1) = true := by
    rw [ht]
    split
    · exact ⟨by decide, rfl⟩
    · exact ⟨by decide, rfl⟩
  have hws := cc_wt_ch w hq hk.1 0 l L
  refine cc_G_w (a_variables_2 := a_variables) (a_row_2 := a_row) (a_outputs_2 := a_outputs) (a_timerOn_2 := a_timerOn) (a_timerBegin_2 := a_timerBegin) (a_timerElapsed_2 := a_timerElapsed) (a_timerDone_2 := a_timerDone) (a_counterLast_2 := a_counterLast) (a_counterValue_2 := a_counterValue) (a_counterDone_2 := a_counterDone) (a_edgeLast_2 := a_edgeLast) (a_edgeDone_2 := a_edgeDone) (L' := ((cc_nx T (if (cc_vl T n (cc_lf a_variables a_inputs a_outputs a_timerDone a_timerElapsed a_counterValue a_counterDone a_edgeDone) a_row) (q + 1) = 0 then 2 else 1) (q + 1), 0, 0) :: L)) CX CY hq hlen (fun P w0 pp pr pl hxs hP => ?_) (fun P num tk ta tr tl hys hP => ?_) (ih ((cc_nx T (if (cc_vl T n (cc_lf a_variables a_inputs a_outputs a_timerDone a_timerElapsed a_counterValue a_counterDone a_edgeDone) a_row) (q + 1) = 0 then 2 else 1) (q + 1), 0, 0) :: L) R a_variables a_row a_outputs a_timerOn a_timerBegin a_timerElapsed a_timerDone a_counterLast a_counterValue a_counterDone a_edgeLast a_edgeDone ⟨_, _, cc_so_w w hso hlo hq hhi hk.1 hk.2 0⟩ hn1 hR hb01 (by omega))
  · exact ⟨fun hz => absurd hz hsp, fun _ => cc_xo35 CX hq ht hlen hxs hP⟩
  · exact cc_ys_if CY hq ht hlen hys hP

theorem cc_m_cho {a_variables a_row a_outputs a_timerOn a_timerBegin a_timerElapsed a_timerDone a_counterLast a_counterValue a_counterDone a_edgeLast a_edgeDone : Nat → Int32} {ν q R : Nat} {l : Int32} {L : List (Nat × Nat × Int32)} {lo hi : Nat} (CX : cc_XC T n a a_tokens a_ends) (CY : cc_YC T n a b_tokens b_ends)
    (ih : ∀ (L : List (Nat × Nat × Int32)) (R : Nat) (a_variables a_row a_outputs a_timerOn a_timerBegin a_timerElapsed a_timerDone a_counterLast a_counterValue a_counterDone a_edgeLast a_edgeDone : Nat → Int32), (∃ lo hi, cc_so T n L lo hi) → cc_n1 L.tail → R ≤ 300 → cc_b01 a_timerOn → (300 - R) * 121 + cc_wt T L ≤ ν → cc_G T n a f_time f_running f_open a_inputs a_tokens a_lengths a_ends b_sizes b_tokens b_ends b_wants ν L R a_variables a_row a_outputs a_timerOn a_timerBegin a_timerElapsed a_timerDone a_counterLast a_counterValue a_counterDone a_edgeLast a_edgeDone)
    (hso : cc_so T n L lo hi) (hlo : lo ≤ q) (hq : q < n) (hhi : cc_en T q ≤ hi) (hst : cc_st (T q) = true) (hlen : L.length ≤ 59) (hn1 : cc_n1 L) (hR : R ≤ 300) (hb01 : cc_b01 a_timerOn)
    (hm : (300 - R) * 121 + cc_wt T ((q, 0, l) :: L) ≤ ν + 1) (ht : T q = 56) : cc_G T n a f_time f_running f_open a_inputs a_tokens a_lengths a_ends b_sizes b_tokens b_ends b_wants (ν + 1) ((q, 0, l) :: L) R a_variables a_row a_outputs a_timerOn a_timerBegin a_timerElapsed a_timerDone a_counterLast a_counterValue a_counterDone a_edgeLast a_edgeDone := by
  have w := CX.1
  have hgt := cc_en_gt w hq
  have hmm : (300 - R) * 121 + (2 * (cc_en T q - q) + cc_wt T L) ≤ ν + 1 := hm
  have hsp : cc_sp (T q) ≠ 0 := by
    unfold cc_sp
    repeat' split
    all_goals omega
  have hk : (if (cc_vl T n (cc_lf a_variables a_inputs a_outputs a_timerDone a_timerElapsed a_counterValue a_counterDone a_edgeDone) a_row) (q + 1) = 0 then 1 else if (cc_vl T n (cc_lf a_variables a_inputs a_outputs a_timerDone a_timerElapsed a_counterValue a_counterDone a_edgeDone) a_row) (q + 1) = 1 then 2 else 3) < cc_ar (T q) ∧ cc_ts (T q) (if (cc_vl T n (cc_lf a_variables a_inputs a_outputs a_timerDone a_timerElapsed a_counterValue a_counterDone a_edgeDone) a_row) (q + 1) = 0 then 1 else if (cc_vl T n (cc_lf a_variables a_inputs a_outputs a_timerDone a_timerElapsed a_counterValue a_counterDone a_edgeDone) a_row) (q + 1) = 1 then 2 else 3) = true := by
    rw [ht]
    split
    · exact ⟨by decide, rfl⟩
    · split
      · exact ⟨by decide, rfl⟩
      · exact ⟨by decide, rfl⟩
  have hws := cc_wt_ch w hq hk.1 0 l L
  refine cc_G_w (a_variables_2 := a_variables) (a_row_2 := a_row) (a_outputs_2 := a_outputs) (a_timerOn_2 := a_timerOn) (a_timerBegin_2 := a_timerBegin) (a_timerElapsed_2 := a_timerElapsed) (a_timerDone_2 := a_timerDone) (a_counterLast_2 := a_counterLast) (a_counterValue_2 := a_counterValue) (a_counterDone_2 := a_counterDone) (a_edgeLast_2 := a_edgeLast) (a_edgeDone_2 := a_edgeDone) (L' := ((cc_nx T (if (cc_vl T n (cc_lf a_variables a_inputs a_outputs a_timerDone a_timerElapsed a_counterValue a_counterDone a_edgeDone) a_row) (q + 1) = 0 then 1 else if (cc_vl T n (cc_lf a_variables a_inputs a_outputs a_timerDone a_timerElapsed a_counterValue a_counterDone a_edgeDone) a_row) (q + 1) = 1 then 2 else 3) (q + 1), 0, 0) :: L)) CX CY hq hlen (fun P w0 pp pr pl hxs hP => ?_) (fun P num tk ta tr tl hys hP => ?_) (ih ((cc_nx T (if (cc_vl T n (cc_lf a_variables a_inputs a_outputs a_timerDone a_timerElapsed a_counterValue a_counterDone a_edgeDone) a_row) (q + 1) = 0 then 1 else if (cc_vl T n (cc_lf a_variables a_inputs a_outputs a_timerDone a_timerElapsed a_counterValue a_counterDone a_edgeDone) a_row) (q + 1) = 1 then 2 else 3) (q + 1), 0, 0) :: L) R a_variables a_row a_outputs a_timerOn a_timerBegin a_timerElapsed a_timerDone a_counterLast a_counterValue a_counterDone a_edgeLast a_edgeDone ⟨_, _, cc_so_w w hso hlo hq hhi hk.1 hk.2 0⟩ hn1 hR hb01 (by omega))
  · exact ⟨fun hz => absurd hz hsp, fun _ => cc_xo56 CX hq ht hlen hxs hP⟩
  · exact cc_ys_cho CY hq ht hlen hys hP

theorem cc_m_for {a_variables a_row a_outputs a_timerOn a_timerBegin a_timerElapsed a_timerDone a_counterLast a_counterValue a_counterDone a_edgeLast a_edgeDone : Nat → Int32} {ν q R : Nat} {l : Int32} {L : List (Nat × Nat × Int32)} {lo hi : Nat} (CX : cc_XC T n a a_tokens a_ends) (CY : cc_YC T n a b_tokens b_ends)
    (ih : ∀ (L : List (Nat × Nat × Int32)) (R : Nat) (a_variables a_row a_outputs a_timerOn a_timerBegin a_timerElapsed a_timerDone a_counterLast a_counterValue a_counterDone a_edgeLast a_edgeDone : Nat → Int32), (∃ lo hi, cc_so T n L lo hi) → cc_n1 L.tail → R ≤ 300 → cc_b01 a_timerOn → (300 - R) * 121 + cc_wt T L ≤ ν → cc_G T n a f_time f_running f_open a_inputs a_tokens a_lengths a_ends b_sizes b_tokens b_ends b_wants ν L R a_variables a_row a_outputs a_timerOn a_timerBegin a_timerElapsed a_timerDone a_counterLast a_counterValue a_counterDone a_edgeLast a_edgeDone)
    (hso : cc_so T n L lo hi) (hlo : lo ≤ q) (hq : q < n) (hhi : cc_en T q ≤ hi) (hst : cc_st (T q) = true) (hlen : L.length ≤ 59) (hn1 : cc_n1 L) (hR : R ≤ 300) (hb01 : cc_b01 a_timerOn)
    (hm : (300 - R) * 121 + cc_wt T ((q, 0, l) :: L) ≤ ν + 1) (h1 : 40 ≤ T q) (h2 : T q ≤ 55) : cc_G T n a f_time f_running f_open a_inputs a_tokens a_lengths a_ends b_sizes b_tokens b_ends b_wants (ν + 1) ((q, 0, l) :: L) R a_variables a_row a_outputs a_timerOn a_timerBegin a_timerElapsed a_timerDone a_counterLast a_counterValue a_counterDone a_edgeLast a_edgeDone := by
  have w := CX.1
  have hgt := cc_en_gt w hq
  have hmm : (300 - R) * 121 + (2 * (cc_en T q - q) + cc_wt T L) ≤ ν + 1 := hm
  have hsp : cc_sp (T q) ≠ 0 := by
    unfold cc_sp
    repeat' split
    all_goals omega
  have hws : (300 - R) * 121 + (1 + cc_wt T L) ≤ ν := by omega
  refine cc_G_w (a_variables_2 := upd a_variables (T q - 40) ((cc_vl T n (cc_lf a_variables a_inputs a_outputs a_timerDone a_timerElapsed a_counterValue a_counterDone a_edgeDone) a_row) (q + 1))) (a_row_2 := a_row) (a_outputs_2 := a_outputs) (a_timerOn_2 := a_timerOn) (a_timerBegin_2 := a_timerBegin) (a_timerElapsed_2 := a_timerElapsed) (a_timerDone_2 := a_timerDone) (a_counterLast_2 := a_counterLast) (a_counterValue_2 := a_counterValue) (a_counterDone_2 := a_counterDone) (a_edgeLast_2 := a_edgeLast) (a_edgeDone_2 := a_edgeDone) (L' := ((q, 1, (cc_vl T n (cc_lf a_variables a_inputs a_outputs a_timerDone a_timerElapsed a_counterValue a_counterDone a_edgeDone) a_row) (cc_en T (q + 1))) :: L)) CX CY hq hlen (fun P w0 pp pr pl hxs hP => ?_) (fun P num tk ta tr tl hys hP => ?_) (ih ((q, 1, (cc_vl T n (cc_lf a_variables a_inputs a_outputs a_timerDone a_timerElapsed a_counterValue a_counterDone a_edgeDone) a_row) (cc_en T (q + 1))) :: L) R (upd a_variables (T q - 40) ((cc_vl T n (cc_lf a_variables a_inputs a_outputs a_timerDone a_timerElapsed a_counterValue a_counterDone a_edgeDone) a_row) (q + 1))) a_row a_outputs a_timerOn a_timerBegin a_timerElapsed a_timerDone a_counterLast a_counterValue a_counterDone a_edgeLast a_edgeDone ⟨_, _, cc_so_l hso hlo hq hhi hst (Or.inr (Or.inr ⟨h1, h2⟩)) (by omega) (by omega) _⟩ hn1 hR hb01 hws)
  · exact ⟨fun hz => absurd hz hsp, fun _ => cc_xo40 CX hq h1 h2 hlen hxs hP⟩
  · exact cc_ys_for CY hq h1 h2 hlen hys hP

theorem cc_m_whi {a_variables a_row a_outputs a_timerOn a_timerBegin a_timerElapsed a_timerDone a_counterLast a_counterValue a_counterDone a_edgeLast a_edgeDone : Nat → Int32} {ν q R : Nat} {l : Int32} {L : List (Nat × Nat × Int32)} {lo hi : Nat} (CX : cc_XC T n a a_tokens a_ends) (CY : cc_YC T n a b_tokens b_ends)
    (ih : ∀ (L : List (Nat × Nat × Int32)) (R : Nat) (a_variables a_row a_outputs a_timerOn a_timerBegin a_timerElapsed a_timerDone a_counterLast a_counterValue a_counterDone a_edgeLast a_edgeDone : Nat → Int32), (∃ lo hi, cc_so T n L lo hi) → cc_n1 L.tail → R ≤ 300 → cc_b01 a_timerOn → (300 - R) * 121 + cc_wt T L ≤ ν → cc_G T n a f_time f_running f_open a_inputs a_tokens a_lengths a_ends b_sizes b_tokens b_ends b_wants ν L R a_variables a_row a_outputs a_timerOn a_timerBegin a_timerElapsed a_timerDone a_counterLast a_counterValue a_counterDone a_edgeLast a_edgeDone)
    (hso : cc_so T n L lo hi) (hlo : lo ≤ q) (hq : q < n) (hhi : cc_en T q ≤ hi) (hst : cc_st (T q) = true) (hlen : L.length ≤ 59) (hn1 : cc_n1 L) (hR : R ≤ 300) (hb01 : cc_b01 a_timerOn)
    (hm : (300 - R) * 121 + cc_wt T ((q, 0, l) :: L) ≤ ν + 1) (ht : T q = 36 ∨ T q = 37) : cc_G T n a f_time f_running f_open a_inputs a_tokens a_lengths a_ends b_sizes b_tokens b_ends b_wants (ν + 1) ((q, 0, l) :: L) R a_variables a_row a_outputs a_timerOn a_timerBegin a_timerElapsed a_timerDone a_counterLast a_counterValue a_counterDone a_edgeLast a_edgeDone := by
  have w := CX.1
  have hgt := cc_en_gt w hq
  have hmm : (300 - R) * 121 + (2 * (cc_en T q - q) + cc_wt T L) ≤ ν + 1 := hm
  have hsp : cc_sp (T q) ≠ 0 := by
    unfold cc_sp
    repeat' split
    all_goals omega
  have hws : (300 - R) * 121 + (1 + cc_wt T L) ≤ ν := by omega
  refine cc_G_w (a_variables_2 := a_variables) (a_row_2 := a_row) (a_outputs_2 := a_outputs) (a_timerOn_2 := a_timerOn) (a_timerBegin_2 := a_timerBegin) (a_timerElapsed_2 := a_timerElapsed) (a_timerDone_2 := a_timerDone) (a_counterLast_2 := a_counterLast) (a_counterValue_2 := a_counterValue) (a_counterDone_2 := a_counterDone) (a_edgeLast_2 := a_edgeLast) (a_edgeDone_2 := a_edgeDone) (L' := ((q, 1, 0) :: L)) CX CY hq hlen (fun P w0 pp pr pl hxs hP => ?_) (fun P num tk ta tr tl hys hP => ?_) (ih ((q, 1, 0) :: L) R a_variables a_row a_outputs a_timerOn a_timerBegin a_timerElapsed a_timerDone a_counterLast a_counterValue a_counterDone a_edgeLast a_edgeDone ⟨_, _, cc_so_l hso hlo hq hhi hst (ht.elim Or.inl (fun z => Or.inr (Or.inl z))) (by omega) (by omega) _⟩ hn1 hR hb01 hws)
  · exact ⟨fun hz => absurd hz hsp, fun _ => cc_xoL CX hq ht hlen hxs hP⟩
  · exact cc_ys_whi CY hq ht hlen hys hP

theorem cc_main (CX : cc_XC T n a a_tokens a_ends) (CY : cc_YC T n a b_tokens b_ends) :
    ∀ (μ : Nat) (L : List (Nat × Nat × Int32)) (R : Nat) (a_variables a_row a_outputs a_timerOn a_timerBegin a_timerElapsed a_timerDone a_counterLast a_counterValue a_counterDone a_edgeLast a_edgeDone : Nat → Int32), (∃ lo hi, cc_so T n L lo hi) → cc_n1 L.tail → R ≤ 300 → cc_b01 a_timerOn → (300 - R) * 121 + cc_wt T L ≤ μ →
      cc_G T n a f_time f_running f_open a_inputs a_tokens a_lengths a_ends b_sizes b_tokens b_ends b_wants μ L R a_variables a_row a_outputs a_timerOn a_timerBegin a_timerElapsed a_timerDone a_counterLast a_counterValue a_counterDone a_edgeLast a_edgeDone := by
  have w := CX.1
  intro μ
  induction μ with
  | zero =>
    intro L R a_variables a_row a_outputs a_timerOn a_timerBegin a_timerElapsed a_timerDone a_counterLast a_counterValue a_counterDone a_edgeLast a_edgeDone hso hn1 hR hb01 hm
    cases L with
    | nil => exact cc_G_nil hb01
    | cons e L =>
      exfalso
      obtain ⟨lo, hi, lo', hi', h1, h2, h3, h4, h5, h6, h7⟩ := hso
      have hgt := cc_en_gt w h3
      simp only [cc_wt] at hm
      split at hm
      · omega
      · omega
  | succ ν ih =>
    intro L R a_variables a_row a_outputs a_timerOn a_timerBegin a_timerElapsed a_timerDone a_counterLast a_counterValue a_counterDone a_edgeLast a_edgeDone hso hn1 hR hb01 hm
    cases L with
    | nil => exact cc_G_nil hb01
    | cons e L =>
      obtain ⟨q, c, l⟩ := e
      obtain ⟨lo, hi, hso0⟩ := hso
      have hle := cc_so_len w hso0
      obtain ⟨lo', hi', hso, hlo, hq, hhi, hst, hc21, hor⟩ := hso0
      have hlo : lo' ≤ q := hlo
      have hq : q < n := hq
      have hhi : cc_en T q ≤ hi' := hhi
      have hst : cc_st (T q) = true := hst
      have hc21 : c ≤ 21 := hc21
      have hn1 : cc_n1 L := hn1
      have hn := w.2.2
      have hlen : L.length ≤ 59 := by
        have := hle.2.2
        simp only [List.length_cons] at this
        omega
      by_cases hc0 : c = 0
      · subst hc0
        have hr := cc_st_r (t := T q) hst
        by_cases t1 : T q = 1
        · exact cc_m_seq CX CY ih hso hlo hq hhi hst hlen hn1 hR hb01 hm t1
        by_cases t2 : T q = 2
        · exact cc_m_two CX CY ih hso hlo hq hhi hst hlen hn1 hR hb01 hm t2
        by_cases t3 : 10 ≤ T q ∧ T q ≤ 25
        · exact cc_m_set CX CY ih hso hlo hq hhi hst hlen hn1 hR hb01 hm t3.1 t3.2
        by_cases t4 : 30 ≤ T q ∧ T q ≤ 33
        · exact cc_m_out CX CY ih hso hlo hq hhi hst hlen hn1 hR hb01 hm t4.1 t4.2
        by_cases t5 : T q = 34
        · exact cc_m_cel CX CY ih hso hlo hq hhi hst hlen hn1 hR hb01 hm t5
        by_cases t6 : T q = 35
        · exact cc_m_if CX CY ih hso hlo hq hhi hst hlen hn1 hR hb01 hm t6
        by_cases t7 : T q = 36 ∨ T q = 37
        · exact cc_m_whi CX CY ih hso hlo hq hhi hst hlen hn1 hR hb01 hm t7
        by_cases t8 : T q = 39
        · exact cc_m_lea CX CY ih hso hlo hq hhi hst hlen hn1 hR hb01 hm t8
        by_cases t9 : 40 ≤ T q ∧ T q ≤ 55
        · exact cc_m_for CX CY ih hso hlo hq hhi hst hlen hn1 hR hb01 hm t9.1 t9.2
        by_cases t10 : T q = 56
        · exact cc_m_cho CX CY ih hso hlo hq hhi hst hlen hn1 hR hb01 hm t10
        by_cases t11 : 60 ≤ T q ∧ T q ≤ 62
        · exact cc_m_tim CX CY ih hso hlo hq hhi hst hlen hn1 hR hb01 hm t11.1 t11.2
        by_cases t12 : 63 ≤ T q ∧ T q ≤ 65
        · exact cc_m_cnt CX CY ih hso hlo hq hhi hst hlen hn1 hR hb01 hm t12.1 t12.2
        exact cc_m_edg CX CY ih hso hlo hq hhi hst hlen hn1 hR hb01 hm (by omega) (by omega)
      · have hl : cc_lp (T q) := by
          rcases hor with ⟨z, _⟩ | ⟨_, _, _, z⟩
          · exact absurd z hc0
          · exact z
        have hmm : (300 - R) * 121 + (1 + cc_wt T L) ≤ ν + 1 := by
          simp only [cc_wt] at hm
          rw [if_neg hc0] at hm
          exact hm
        have hwb := cc_wt_b w hq hl
        have mnil : ∀ R', R' = 300 → (300 - R') * 121 + cc_wt T [] ≤ ν := by
          intro R' z
          rw [z]
          simp [cc_wt]
        have mgo : ∀ c' : Nat, R < 300 → (300 - (R + 1)) * 121 + cc_wt T ((cc_bd T q, 0, 0) :: (q, c' + 1, l) :: L) ≤ ν := by
          intro c' z
          have e : cc_wt T ((cc_bd T q, 0, 0) :: (q, c' + 1, l) :: L) = 2 * (cc_en T (cc_bd T q) - cc_bd T q) + (1 + cc_wt T L) := rfl
          rw [e]
          omega
        by_cases hc1 : c = 1
        · subst hc1
          refine cc_G_1 CX CY hq hl hlen hR (fun z => ?_) (fun z y => ?_) (fun z y => ?_)
          · exact ih [] R a_variables a_row a_outputs a_timerOn a_timerBegin a_timerElapsed a_timerDone a_counterLast a_counterValue a_counterDone a_edgeLast a_edgeDone ⟨0, n, rfl, rfl⟩ (fun x hx => by cases hx) hR hb01 (mnil R z)
          · exact ih L (R + 1) a_variables a_row a_outputs a_timerOn a_timerBegin a_timerElapsed a_timerDone a_counterLast a_counterValue a_counterDone a_edgeLast a_edgeDone ⟨_, _, hso⟩ (cc_n1_tail hn1) (by omega) hb01 (by omega)
          · exact ih _ (R + 1) a_variables a_row a_outputs a_timerOn a_timerBegin a_timerElapsed a_timerDone a_counterLast a_counterValue a_counterDone a_edgeLast a_edgeDone (cc_so_b w hso hlo hq hhi hst hl (by omega) (by omega)) (cc_n1_cons hn1 (by show (2 : Nat) ≠ 1; omega)) (by omega) hb01 (mgo 1 z)
        · refine cc_G_2 CX CY hq hl hlen hR (by omega) hc21 (fun z => ?_) (fun _ z => ?_) (fun _ z y => ?_) (fun x z y => ?_)
          · exact ih L R _ _ _ _ _ _ _ _ _ _ _ _ ⟨_, _, hso⟩ (cc_n1_tail hn1) hR hb01 (by omega)
          · exact ih [] R _ _ _ _ _ _ _ _ _ _ _ _ ⟨0, n, rfl, rfl⟩ (fun x hx => by cases hx) hR hb01 (mnil R z)
          · exact ih L (R + 1) _ _ _ _ _ _ _ _ _ _ _ _ ⟨_, _, hso⟩ (cc_n1_tail hn1) (by omega) hb01 (by omega)
          · have hc20 : c ≤ 20 := by
              by_cases e : c = 21
              · exact absurd (Or.inr e) x
              · omega
            exact ih _ (R + 1) _ _ _ _ _ _ _ _ _ _ _ _ (cc_so_b w hso hlo hq hhi hst hl (by omega) (by omega)) (cc_n1_cons hn1 (by show c + 1 ≠ 1; omega)) (by omega) hb01 (mgo c z)
end
end
section
theorem cc_wh_pos {T : Nat → Nat} {n : Nat} (w : cc_wh T n) : 0 < n := by
  by_cases h : n = 0
  · have := w.2.1
    rw [h] at this
    simp [cc_h, cc_sk] at this
  · omega

section
variable {f_time f_active f_running f_pending f_roundsBegun : Int32} {a_variables a_row a_inputs a_outputs a_timerOn a_timerBegin a_timerElapsed a_timerDone a_counterLast a_counterValue a_counterDone a_edgeLast a_edgeDone a_tokens a_lengths a_ends a_worths a_pendingPlaces a_pendingRounds a_pendingLimits : Nat → Int32}
variable {f_open f_depth f_tasks f_begun : Int32} {b_sizes b_tokens b_ends b_wants a_numbers a_taskKind a_taskAt a_taskRounds a_taskLimit : Nat → Int32}

theorem cc_carry {T : Nat → Nat} {n a : Nat} (C : cc_XC T n a a_tokens a_ends) (hb01 : cc_b01 a_timerOn)
    (hlen : b_sizes a = nI n) (htok : ∀ i, i < n → b_tokens (60 * a + i) = nI (T i)) :
    ∃ a_variables_2 a_row_2 a_outputs_2 a_timerOn_2 a_timerBegin_2 a_timerElapsed_2 a_timerDone_2 a_counterLast_2 a_counterValue_2 a_counterDone_2 a_edgeLast_2 a_edgeDone_2 : Nat → Int32, cc_b01 a_timerOn_2 ∧
    (∀ (post : SX → Prop), (∀ (fp fr : Int32) (w pp pr pl : Nat → Int32), post (f_time, nI a, f_running, fp, fr, a_variables_2, a_row_2, a_inputs, a_outputs_2, a_timerOn_2, a_timerBegin_2, a_timerElapsed_2, a_timerDone_2, a_counterLast_2, a_counterValue_2, a_counterDone_2, a_edgeLast_2, a_edgeDone_2, a_tokens, a_lengths, a_ends, w, pp, pr, pl)) → wpX_carryOut post (f_time, nI a, f_running, f_pending, f_roundsBegun, a_variables, a_row, a_inputs, a_outputs, a_timerOn, a_timerBegin, a_timerElapsed, a_timerDone, a_counterLast, a_counterValue, a_counterDone, a_edgeLast, a_edgeDone, a_tokens, a_lengths, a_ends, a_worths, a_pendingPlaces, a_pendingRounds, a_pendingLimits)) ∧
    (∀ (post : SY → Prop), (∀ (ft fb : Int32) (e num tk ta tr tl : Nat → Int32), post (f_time, nI a, f_running, f_open, 0, ft, fb, a_variables_2, a_row_2, a_inputs, a_outputs_2, a_timerOn_2, a_timerBegin_2, a_timerElapsed_2, a_timerDone_2, a_counterLast_2, a_counterValue_2, a_counterDone_2, a_edgeLast_2, a_edgeDone_2, b_sizes, b_tokens, e, b_wants, num, tk, ta, tr, tl)) → wpY_carryOut post (f_time, nI a, f_running, f_open, f_depth, f_tasks, f_begun, a_variables, a_row, a_inputs, a_outputs, a_timerOn, a_timerBegin, a_timerElapsed, a_timerDone, a_counterLast, a_counterValue, a_counterDone, a_edgeLast, a_edgeDone, b_sizes, b_tokens, b_ends, b_wants, a_numbers, a_taskKind, a_taskAt, a_taskRounds, a_taskLimit) (nI a)) := by
  have w := C.1
  have hn := w.2.2
  have h0 := cc_wh_pos w
  have ha := C.2.1
  have CY : cc_YC T n a b_tokens (cc_me T n a b_ends) := ⟨w, ha, htok, fun i hi => cc_me_in hi⟩
  have hst : cc_st (T 0) = true := (Option.some.inj (w.1 0 h0).1).symm
  have hle := cc_en_le w h0
  have hso : cc_so T n [(0, 0, 0)] 0 0 := ⟨0, n, ⟨rfl, rfl⟩, Nat.le_refl _, h0, hle, hst, by show (0 : Nat) ≤ 21; omega, Or.inl ⟨rfl, rfl, rfl⟩⟩
  obtain ⟨a_variables_2, a_row_2, a_outputs_2, a_timerOn_2, a_timerBegin_2, a_timerElapsed_2, a_timerDone_2, a_counterLast_2, a_counterValue_2, a_counterDone_2, a_edgeLast_2, a_edgeDone_2, hb, hX, hY⟩ := cc_main (f_time := f_time) (f_running := f_running) (f_open := f_open) (a_inputs := a_inputs) (a_lengths := a_lengths) (b_sizes := b_sizes) (b_wants := b_wants) C CY 40000 [(0, 0, 0)] 0 a_variables a_row a_outputs a_timerOn a_timerBegin a_timerElapsed a_timerDone a_counterLast a_counterValue a_counterDone a_edgeLast a_edgeDone ⟨_, _, hso⟩ (fun x hx => by cases hx) (by omega) hb01 (by
      have e : cc_wt T [(0, 0, (0 : Int32))] = 2 * (cc_en T 0 - 0) + 0 := rfl
      rw [e]
      omega)
  refine ⟨a_variables_2, a_row_2, a_outputs_2, a_timerOn_2, a_timerBegin_2, a_timerElapsed_2, a_timerDone_2, a_counterLast_2, a_counterValue_2, a_counterDone_2, a_edgeLast_2, a_edgeDone_2, hb, fun post hp => ?_, fun post hp => ?_⟩
  · unfold wpX_carryOut
    dsimp only
    refine cc_xpu (m := 0) (by omega) ?_
    exact ⟨40001, hX post 40001 0 (by omega) (by omega) hp _ _ _ _ (cc_xs_push0 (L := []) 0 0 trivial)⟩
  · unfold wpY_carryOut
    dsimp only
    refine cc_yma w ha hlen htok ?_
    dsimp only
    rw [cc_b60]
    refine cc_ytd (m := 0) (by omega) ?_
    exact ⟨80001, hY post 80001 (by omega) (fun ft fb num tk ta tr tl => hp ft fb _ num tk ta tr tl) _ _ _ _ _ (cc_ys_push0 (a := a) (L := []) 0 0 trivial)⟩
end
end
section
def cc_I (T : Nat → Nat → Nat) (N : Nat → Nat) (a : Nat) (f_running : Int32) (a_timerOn a_tokens a_lengths a_ends b_tokens : Nat → Int32) : Prop :=
  a < 2 ∧ cc_b01 a_timerOn ∧ cc_eb a_ends ∧
  (∀ p, p < 2 → N p ≤ 60 ∧ a_lengths p = nI (N p) ∧ cc_ok (T p) (N p) ∧ (∀ i, i < N p → a_tokens (p * 61 + i) = nI (T p i)) ∧ (∀ i, i < N p → b_tokens (60 * p + i) = nI (T p i))) ∧
  (¬ f_running = 0 → cc_h (T a) (N a) = 0 ∧ ∀ i, i < N a → a_ends i = nI (cc_en (T a) i))

def i_Rel (k : Nat) (u : SX) (v : SY) : Prop :=
  ∃ (T : Nat → Nat → Nat) (N : Nat → Nat) (a : Nat) (f_time f_running f_pending f_roundsBegun f_open f_depth f_tasks f_begun : Int32) (a_variables a_row a_inputs a_outputs a_timerOn a_timerBegin a_timerElapsed a_timerDone a_counterLast a_counterValue a_counterDone a_edgeLast a_edgeDone a_tokens a_lengths a_ends a_worths a_pendingPlaces a_pendingRounds a_pendingLimits b_tokens b_ends b_wants a_numbers a_taskKind a_taskAt a_taskRounds a_taskLimit : Nat → Int32), u = (f_time, nI a, f_running, f_pending, f_roundsBegun, a_variables, a_row, a_inputs, a_outputs, a_timerOn, a_timerBegin, a_timerElapsed, a_timerDone, a_counterLast, a_counterValue, a_counterDone, a_edgeLast, a_edgeDone, a_tokens, a_lengths, a_ends, a_worths, a_pendingPlaces, a_pendingRounds, a_pendingLimits) ∧ v = (f_time, nI a, f_running, f_open, f_depth, f_tasks, f_begun, a_variables, a_row, a_inputs, a_outputs, a_timerOn, a_timerBegin, a_timerElapsed, a_timerDone, a_counterLast, a_counterValue, a_counterDone, a_edgeLast, a_edgeDone, a_lengths, b_tokens, b_ends, b_wants, a_numbers, a_taskKind, a_taskAt, a_taskRounds, a_taskLimit) ∧ cc_I T N a f_running a_timerOn a_tokens a_lengths a_ends b_tokens

theorem i_up {k : Nat} {u : SX} {v : SY} (h : i_Rel k u v) : i_Rel (k + 3) u v := h

section
variable {f_time f_running f_pending f_roundsBegun f_open f_depth f_tasks f_begun : Int32} {a_variables a_row a_inputs a_outputs a_timerOn a_timerBegin a_timerElapsed a_timerDone a_counterLast a_counterValue a_counterDone a_edgeLast a_edgeDone a_tokens a_lengths a_ends a_worths a_pendingPlaces a_pendingRounds a_pendingLimits b_tokens b_ends b_wants a_numbers a_taskKind a_taskAt a_taskRounds a_taskLimit : Nat → Int32}
theorem cc_rel {T : Nat → Nat → Nat} {N : Nat → Nat} {a k : Nat} (h : cc_I T N a f_running a_timerOn a_tokens a_lengths a_ends b_tokens) :
    i_Rel k (f_time, nI a, f_running, f_pending, f_roundsBegun, a_variables, a_row, a_inputs, a_outputs, a_timerOn, a_timerBegin, a_timerElapsed, a_timerDone, a_counterLast, a_counterValue, a_counterDone, a_edgeLast, a_edgeDone, a_tokens, a_lengths, a_ends, a_worths, a_pendingPlaces, a_pendingRounds, a_pendingLimits) (f_time, nI a, f_running, f_open, f_depth, f_tasks, f_begun, a_variables, a_row, a_inputs, a_outputs, a_timerOn, a_timerBegin, a_timerElapsed, a_timerDone, a_counterLast, a_counterValue, a_counterDone, a_edgeLast, a_edgeDone, a_lengths, b_tokens, b_ends, b_wants, a_numbers, a_taskKind, a_taskAt, a_taskRounds, a_taskLimit) := ⟨_, _, _, _, _, _, _, _, _, _, _, _, _, _, _, _, _, _, _, _, _, _, _, _, _, _, _, _, _, _, _, _, _, _, _, _, _, _, _, rfl, rfl, h⟩
end

theorem i_vc0 : wpX_init (fun u => wpY_init (fun v => i_Rel 0 u v)) := by
  have h : cc_I (fun _ _ => 0) (fun _ => 0) 0 0 (fun _ => 0) (fun _ => 0) (fun _ => 0) (fun _ => 0) (fun _ => 0) := by
    exact ⟨by decide, fun _ => Or.inl rfl, fun j _ => ⟨0, Nat.zero_le _, rfl⟩, fun p _ => ⟨Nat.zero_le _, rfl, fun k hk => absurd hk (Nat.not_lt_zero _), fun i hi => absurd hi (Nat.not_lt_zero _), fun i hi => absurd hi (Nat.not_lt_zero _)⟩, fun z => absurd rfl z⟩
  exact cc_rel (a := 0) (k := 0) h

theorem cc_big {x : Int32} {N : Nat} (h : nI N ≤ x) (hN : N < 2147483648) : ¬ x < 0 ∧ ¬ x < nI N ∧ (∀ M, M < N → ¬ x ≤ nI M) := by
  have hT := cc_tI hN
  simp only [Int32.le_iff_toInt_le, hT] at h
  refine ⟨?_, ?_, fun M hM => ?_⟩
  · simp only [Int32.lt_iff_toInt_lt, Int32.reduceToInt]; omega
  · simp only [Int32.lt_iff_toInt_lt, hT]; omega
  · have hT2 := cc_tI (show M < 2147483648 by omega)
    simp only [Int32.le_iff_toInt_le, hT2]; omega

theorem i_vc_halt {k : Nat} {u : SX} {v : SY} (I : i_Rel k u v) (hk : k + 3 ≤ 1536) : wpX_halt (fun r u' => wpY_halt (fun r' v' => r' = r ∧ i_Rel (k + 3) u' v') v) u := by
  obtain ⟨T, N, a, f_time, f_running, f_pending, f_roundsBegun, f_open, f_depth, f_tasks, f_begun, a_variables, a_row, a_inputs, a_outputs, a_timerOn, a_timerBegin, a_timerElapsed, a_timerDone, a_counterLast, a_counterValue, a_counterDone, a_edgeLast, a_edgeDone, a_tokens, a_lengths, a_ends, a_worths, a_pendingPlaces, a_pendingRounds, a_pendingLimits, b_tokens, b_ends, b_wants, a_numbers, a_taskKind, a_taskAt, a_taskRounds, a_taskLimit, rfl, rfl, ⟨ha, hb01, heb, hpr, hrun⟩⟩ := I
  have hI : cc_I T N a 0 a_timerOn a_tokens a_lengths a_ends b_tokens := ⟨ha, hb01, heb, hpr, fun z => absurd rfl z⟩
  exact br_c (fun z => br_t z ⟨rfl, cc_rel hI⟩) (fun z => br_f z ⟨rfl, cc_rel hI⟩)

theorem i_vc_input {k : Nat} {u : SX} {v : SY} (I : i_Rel k u v) (hk : k + 3 ≤ 1536) (v1 : Int32) (v2 : Int32) : wpX_input (fun r u' => wpY_input (fun r' v' => r' = r ∧ i_Rel (k + 3) u' v') v v1 v2) u v1 v2 := by
  obtain ⟨T, N, a, f_time, f_running, f_pending, f_roundsBegun, f_open, f_depth, f_tasks, f_begun, a_variables, a_row, a_inputs, a_outputs, a_timerOn, a_timerBegin, a_timerElapsed, a_timerDone, a_counterLast, a_counterValue, a_counterDone, a_edgeLast, a_edgeDone, a_tokens, a_lengths, a_ends, a_worths, a_pendingPlaces, a_pendingRounds, a_pendingLimits, b_tokens, b_ends, b_wants, a_numbers, a_taskKind, a_taskAt, a_taskRounds, a_taskLimit, rfl, rfl, ⟨ha, hb01, heb, hpr, hrun⟩⟩ := I
  have hI : cc_I T N a f_running a_timerOn a_tokens a_lengths a_ends b_tokens := ⟨ha, hb01, heb, hpr, hrun⟩
  rcases pk_ix v1 (n := 4) (by omega) with h | h | ⟨j, hj, rfl⟩
  · exact br_t h (br_t h ⟨rfl, cc_rel hI⟩)
  · obtain ⟨b1, b2, b3⟩ := cc_big h (by omega)
    exact br_f b1 (br_f b2 (br_f b1 (br_f (b3 3 (by omega)) ⟨rfl, cc_rel hI⟩)))
  · have hv : vp_in (nI j) 4 := vp_in_nI hj (by omega)
    refine br_f (cc_nlt j 0 (by omega)) (br_t (cc_lt j 4 hj) ⟨hv, nm_e ?_⟩)
    exact br_f (cc_nlt j 0 (by omega)) (br_t (cc_le j 3 (by omega)) ⟨hv, nm_e ⟨rfl, cc_rel hI⟩⟩)

theorem i_vc_poke {k : Nat} {u : SX} {v : SY} (I : i_Rel k u v) (hk : k + 3 ≤ 1536) (v1 : Int32) (v2 : Int32) : wpX_poke (fun r u' => wpY_poke (fun r' v' => r' = r ∧ i_Rel (k + 3) u' v') v v1 v2) u v1 v2 := by
  obtain ⟨T, N, a, f_time, f_running, f_pending, f_roundsBegun, f_open, f_depth, f_tasks, f_begun, a_variables, a_row, a_inputs, a_outputs, a_timerOn, a_timerBegin, a_timerElapsed, a_timerDone, a_counterLast, a_counterValue, a_counterDone, a_edgeLast, a_edgeDone, a_tokens, a_lengths, a_ends, a_worths, a_pendingPlaces, a_pendingRounds, a_pendingLimits, b_tokens, b_ends, b_wants, a_numbers, a_taskKind, a_taskAt, a_taskRounds, a_taskLimit, rfl, rfl, ⟨ha, hb01, heb, hpr, hrun⟩⟩ := I
  have hI : cc_I T N a f_running a_timerOn a_tokens a_lengths a_ends b_tokens := ⟨ha, hb01, heb, hpr, hrun⟩
  rcases pk_ix v1 (n := 16) (by omega) with h | h | ⟨j, hj, rfl⟩
  · exact br_t h (br_t h ⟨rfl, cc_rel hI⟩)
  · obtain ⟨b1, b2, b3⟩ := cc_big h (by omega)
    exact br_f b1 (br_f b2 (br_f b1 (br_f (b3 15 (by omega)) ⟨rfl, cc_rel hI⟩)))
  · have hv : vp_in (nI j) 16 := vp_in_nI hj (by omega)
    refine br_f (cc_nlt j 0 (by omega)) (br_t (cc_lt j 16 hj) ⟨hv, nm_e ?_⟩)
    exact br_f (cc_nlt j 0 (by omega)) (br_t (cc_le j 15 (by omega)) ⟨hv, nm_e ⟨rfl, cc_rel hI⟩⟩)

theorem i_vc_variable {k : Nat} {u : SX} {v : SY} (I : i_Rel k u v) (hk : k + 3 ≤ 1536) (v1 : Int32) : wpX_variable (fun r => wpY_variable (fun r' => r' = r ∧ i_Rel (k + 3) u v) v v1) u v1 := by
  have I' : i_Rel (k + 3) u v := I
  obtain ⟨T, N, a, f_time, f_running, f_pending, f_roundsBegun, f_open, f_depth, f_tasks, f_begun, a_variables, a_row, a_inputs, a_outputs, a_timerOn, a_timerBegin, a_timerElapsed, a_timerDone, a_counterLast, a_counterValue, a_counterDone, a_edgeLast, a_edgeDone, a_tokens, a_lengths, a_ends, a_worths, a_pendingPlaces, a_pendingRounds, a_pendingLimits, b_tokens, b_ends, b_wants, a_numbers, a_taskKind, a_taskAt, a_taskRounds, a_taskLimit, rfl, rfl, ⟨ha, hb01, heb, hpr, hrun⟩⟩ := I
  rcases pk_ix v1 (n := 16) (by omega) with h | h | ⟨j, hj, rfl⟩
  · exact br_t h (br_t h ⟨rfl, I'⟩)
  · obtain ⟨b1, b2, b3⟩ := cc_big h (by omega)
    exact br_f b1 (br_t h (br_f b1 (br_f (b3 15 (by omega)) ⟨rfl, I'⟩)))
  · have hv : vp_in (nI j) 16 := vp_in_nI hj (by omega)
    exact br_f (cc_nlt j 0 (by omega)) (br_f (cc_nle 16 j hj) ⟨hv, br_f (cc_nlt j 0 (by omega)) (br_t (cc_le j 15 (by omega)) ⟨hv, rfl, I'⟩)⟩)

theorem i_vc_cell {k : Nat} {u : SX} {v : SY} (I : i_Rel k u v) (hk : k + 3 ≤ 1536) (v1 : Int32) : wpX_cell (fun r => wpY_cell (fun r' => r' = r ∧ i_Rel (k + 3) u v) v v1) u v1 := by
  have I' : i_Rel (k + 3) u v := I
  obtain ⟨T, N, a, f_time, f_running, f_pending, f_roundsBegun, f_open, f_depth, f_tasks, f_begun, a_variables, a_row, a_inputs, a_outputs, a_timerOn, a_timerBegin, a_timerElapsed, a_timerDone, a_counterLast, a_counterValue, a_counterDone, a_edgeLast, a_edgeDone, a_tokens, a_lengths, a_ends, a_worths, a_pendingPlaces, a_pendingRounds, a_pendingLimits, b_tokens, b_ends, b_wants, a_numbers, a_taskKind, a_taskAt, a_taskRounds, a_taskLimit, rfl, rfl, ⟨ha, hb01, heb, hpr, hrun⟩⟩ := I
  rcases pk_ix v1 (n := 8) (by omega) with h | h | ⟨j, hj, rfl⟩
  · exact br_t h (br_t h ⟨rfl, I'⟩)
  · obtain ⟨b1, b2, b3⟩ := cc_big h (by omega)
    exact br_f b1 (br_t h (br_f b1 (br_f (b3 7 (by omega)) ⟨rfl, I'⟩)))
  · have hv : vp_in (nI j) 8 := vp_in_nI hj (by omega)
    exact br_f (cc_nlt j 0 (by omega)) (br_f (cc_nle 8 j hj) ⟨hv, br_f (cc_nlt j 0 (by omega)) (br_t (cc_le j 7 (by omega)) ⟨hv, rfl, I'⟩)⟩)

theorem i_vc_output {k : Nat} {u : SX} {v : SY} (I : i_Rel k u v) (hk : k + 3 ≤ 1536) (v1 : Int32) : wpX_output (fun r => wpY_output (fun r' => r' = r ∧ i_Rel (k + 3) u v) v v1) u v1 := by
  have I' : i_Rel (k + 3) u v := I
  obtain ⟨T, N, a, f_time, f_running, f_pending, f_roundsBegun, f_open, f_depth, f_tasks, f_begun, a_variables, a_row, a_inputs, a_outputs, a_timerOn, a_timerBegin, a_timerElapsed, a_timerDone, a_counterLast, a_counterValue, a_counterDone, a_edgeLast, a_edgeDone, a_tokens, a_lengths, a_ends, a_worths, a_pendingPlaces, a_pendingRounds, a_pendingLimits, b_tokens, b_ends, b_wants, a_numbers, a_taskKind, a_taskAt, a_taskRounds, a_taskLimit, rfl, rfl, ⟨ha, hb01, heb, hpr, hrun⟩⟩ := I
  rcases pk_ix v1 (n := 4) (by omega) with h | h | ⟨j, hj, rfl⟩
  · exact br_t h (br_t h ⟨rfl, I'⟩)
  · obtain ⟨b1, b2, b3⟩ := cc_big h (by omega)
    exact br_f b1 (br_t h (br_f b1 (br_f (b3 3 (by omega)) ⟨rfl, I'⟩)))
  · have hv : vp_in (nI j) 4 := vp_in_nI hj (by omega)
    exact br_f (cc_nlt j 0 (by omega)) (br_f (cc_nle 4 j hj) ⟨hv, br_f (cc_nlt j 0 (by omega)) (br_t (cc_le j 3 (by omega)) ⟨hv, rfl, I'⟩)⟩)

def cc_bk (el td cv cd ed : Nat → Int32) (j : Nat) (y : Int32) : Int32 :=
  if y = 0 then el j else if y = 1 then td j else if y = 2 then cv j else if y = 3 then cd j else if y = 4 then ed j else 0

theorem cc_bk0 {el td cv cd ed : Nat → Int32} {j : Nat} {y : Int32} (h : y < 0 ∨ 4 < y) : cc_bk el td cv cd ed j y = 0 := by
  unfold cc_bk
  have n : ∀ c : Int32, ¬ (c < 0 ∨ 4 < c) → ¬ y = c := fun c hc e => hc (e ▸ h)
  rw [if_neg (n 0 (by decide)), if_neg (n 1 (by decide)), if_neg (n 2 (by decide)), if_neg (n 3 (by decide)), if_neg (n 4 (by decide))]

section
variable {f_time f_active f_running f_pending f_roundsBegun : Int32} {a_variables a_row a_inputs a_outputs a_timerOn a_timerBegin a_timerElapsed a_timerDone a_counterLast a_counterValue a_counterDone a_edgeLast a_edgeDone a_tokens a_lengths a_ends a_worths a_pendingPlaces a_pendingRounds a_pendingLimits : Nat → Int32}
theorem cc_xbk {post : Int32 → Prop} {j : Nat} {y : Int32} (hj : j < 3) (h : post (cc_bk a_timerElapsed a_timerDone a_counterValue a_counterDone a_edgeDone j y)) : wpX_block post (f_time, f_active, f_running, f_pending, f_roundsBegun, a_variables, a_row, a_inputs, a_outputs, a_timerOn, a_timerBegin, a_timerElapsed, a_timerDone, a_counterLast, a_counterValue, a_counterDone, a_edgeLast, a_edgeDone, a_tokens, a_lengths, a_ends, a_worths, a_pendingPlaces, a_pendingRounds, a_pendingLimits) (nI j) y := by
  have hv : vp_in (nI j) 3 := vp_in_nI hj (by omega)
  have hc : (nI j).toNatClampNeg = j := nI_clamp (by omega)
  refine br_f (cc_nlt j 0 (by omega)) (br_t (cc_lt j 3 hj) ?_)
  rw [hc]
  refine br_c (fun z => by rw [cc_bk0 (Or.inl z)] at h; exact h) (fun z => ?_)
  refine br_c (fun z1 => by rw [cc_bk0 (Or.inr z1)] at h; exact h) (fun z1 => ?_)
  unfold cc_bk at h
  refine br_c (fun y0 => ⟨hv, by rw [if_pos y0] at h; exact h⟩) (fun y0 => ?_)
  rw [if_neg y0] at h
  refine br_c (fun y0 => ⟨hv, by rw [if_pos y0] at h; exact h⟩) (fun y0 => ?_)
  rw [if_neg y0] at h
  refine br_c (fun y0 => ⟨hv, by rw [if_pos y0] at h; exact h⟩) (fun y0 => ?_)
  rw [if_neg y0] at h
  refine br_c (fun y0 => ⟨hv, by rw [if_pos y0] at h; exact h⟩) (fun y0 => ?_)
  rw [if_neg y0] at h
  exact br_c (fun y0 => ⟨hv, by rw [if_pos y0] at h; exact h⟩) (fun y0 => trivial)
end
section
variable {f_time f_active f_running f_open f_depth f_tasks f_begun : Int32} {a_variables a_cells a_inputs a_outputs a_timerOn a_timerBegin a_timerElapsed a_timerDone a_counterLast a_counterValue a_counterDone a_edgeLast a_edgeDone a_sizes a_tokens a_ends a_wants a_numbers a_taskKind a_taskAt a_taskRounds a_taskLimit : Nat → Int32}
theorem cc_ybk {post : Int32 → Prop} {j : Nat} {y : Int32} (hj : j < 3) (h : post (cc_bk a_timerElapsed a_timerDone a_counterValue a_counterDone a_edgeDone j y)) : wpY_block post (f_time, f_active, f_running, f_open, f_depth, f_tasks, f_begun, a_variables, a_cells, a_inputs, a_outputs, a_timerOn, a_timerBegin, a_timerElapsed, a_timerDone, a_counterLast, a_counterValue, a_counterDone, a_edgeLast, a_edgeDone, a_sizes, a_tokens, a_ends, a_wants, a_numbers, a_taskKind, a_taskAt, a_taskRounds, a_taskLimit) (nI j) y := by
  have hv : vp_in (nI j) 3 := vp_in_nI hj (by omega)
  have hc : (nI j).toNatClampNeg = j := nI_clamp (by omega)
  refine br_f (cc_nlt j 0 (by omega)) (br_t (cc_le j 2 (by omega)) ?_)
  rw [hc]
  unfold cc_bk at h
  refine br_c (fun y0 => ⟨hv, by rw [if_pos y0] at h; exact h⟩) (fun y0 => ?_)
  rw [if_neg y0] at h
  refine br_c (fun y0 => ⟨hv, by rw [if_pos y0] at h; exact h⟩) (fun y0 => ?_)
  rw [if_neg y0] at h
  refine br_c (fun y0 => ⟨hv, by rw [if_pos y0] at h; exact h⟩) (fun y0 => ?_)
  rw [if_neg y0] at h
  refine br_c (fun y0 => ⟨hv, by rw [if_pos y0] at h; exact h⟩) (fun y0 => ?_)
  rw [if_neg y0] at h
  exact br_c (fun y0 => ⟨hv, by rw [if_pos y0] at h; exact h⟩) (fun y0 => by rw [if_neg y0] at h; exact h)
end

theorem i_vc_block {k : Nat} {u : SX} {v : SY} (I : i_Rel k u v) (hk : k + 3 ≤ 1536) (v1 : Int32) (v2 : Int32) : wpX_block (fun r => wpY_block (fun r' => r' = r ∧ i_Rel (k + 3) u v) v v1 v2) u v1 v2 := by
  have I' : i_Rel (k + 3) u v := I
  obtain ⟨T, N, a, f_time, f_running, f_pending, f_roundsBegun, f_open, f_depth, f_tasks, f_begun, a_variables, a_row, a_inputs, a_outputs, a_timerOn, a_timerBegin, a_timerElapsed, a_timerDone, a_counterLast, a_counterValue, a_counterDone, a_edgeLast, a_edgeDone, a_tokens, a_lengths, a_ends, a_worths, a_pendingPlaces, a_pendingRounds, a_pendingLimits, b_tokens, b_ends, b_wants, a_numbers, a_taskKind, a_taskAt, a_taskRounds, a_taskLimit, rfl, rfl, ⟨ha, hb01, heb, hpr, hrun⟩⟩ := I
  rcases pk_ix v1 (n := 3) (by omega) with h | h | ⟨j, hj, rfl⟩
  · exact br_t h (br_t h ⟨rfl, I'⟩)
  · obtain ⟨b1, b2, b3⟩ := cc_big h (by omega)
    exact br_f b1 (br_f b2 (br_f b1 (br_f (b3 2 (by omega)) ⟨rfl, I'⟩)))
  · exact cc_xbk hj (cc_ybk hj ⟨rfl, I'⟩)

theorem i_vc_cycle {k : Nat} {u : SX} {v : SY} (I : i_Rel k u v) (hk : k + 3 ≤ 1536) (v1 : Int32) : wpX_cycle (fun r u' => wpY_cycle (fun r' v' => r' = r ∧ i_Rel (k + 3) u' v') v v1) u v1 := by
  obtain ⟨T, N, a, f_time, f_running, f_pending, f_roundsBegun, f_open, f_depth, f_tasks, f_begun, a_variables, a_row, a_inputs, a_outputs, a_timerOn, a_timerBegin, a_timerElapsed, a_timerDone, a_counterLast, a_counterValue, a_counterDone, a_edgeLast, a_edgeDone, a_tokens, a_lengths, a_ends, a_worths, a_pendingPlaces, a_pendingRounds, a_pendingLimits, b_tokens, b_ends, b_wants, a_numbers, a_taskKind, a_taskAt, a_taskRounds, a_taskLimit, rfl, rfl, ⟨ha, hb01, heb, hpr, hrun⟩⟩ := I
  have hI : cc_I T N a f_running a_timerOn a_tokens a_lengths a_ends b_tokens := ⟨ha, hb01, heb, hpr, hrun⟩
  by_cases h0 : v1 < 0
  · exact br_t h0 (br_t h0 ⟨rfl, cc_rel hI⟩)
  · refine br_f h0 ?_
    by_cases h1 : v1 ≤ 100
    · refine br_t h1 ?_
      by_cases h2 : f_running = 0
      · exact br_t h2 (br_f h0 (br_t h1 (br_t h2 ⟨rfl, cc_rel hI⟩)))
      · refine br_f h2 (nm_e ?_)
        obtain ⟨p1, p2, p3, p4, p5⟩ := hpr a ha
        obtain ⟨r1, r2⟩ := hrun h2
        have CX : cc_XC (T a) (N a) a a_tokens a_ends := ⟨⟨p3, r1, p1⟩, ha, p4, heb, r2⟩
        obtain ⟨a_variables_2, a_row_2, a_outputs_2, a_timerOn_2, a_timerBegin_2, a_timerElapsed_2, a_timerDone_2, a_counterLast_2, a_counterValue_2, a_counterDone_2, a_edgeLast_2, a_edgeDone_2, hb2, hX, hY⟩ := cc_carry (f_time := f_time + v1) (f_running := f_running) (f_pending := f_pending) (f_roundsBegun := f_roundsBegun) (f_open := f_open) (f_depth := f_depth) (f_tasks := f_tasks) (f_begun := f_begun) (a_variables := a_variables) (a_row := a_row) (a_inputs := a_inputs) (a_outputs := a_outputs) (a_timerBegin := a_timerBegin) (a_timerElapsed := a_timerElapsed) (a_timerDone := a_timerDone) (a_counterLast := a_counterLast) (a_counterValue := a_counterValue) (a_counterDone := a_counterDone) (a_edgeLast := a_edgeLast) (a_edgeDone := a_edgeDone) (a_lengths := a_lengths) (a_worths := a_worths) (a_pendingPlaces := a_pendingPlaces) (a_pendingRounds := a_pendingRounds) (a_pendingLimits := a_pendingLimits) (b_ends := b_ends) (b_wants := b_wants) (a_numbers := a_numbers) (a_taskKind := a_taskKind) (a_taskAt := a_taskAt) (a_taskRounds := a_taskRounds) (a_taskLimit := a_taskLimit) CX hb01 p2 p5
        have hI2 : cc_I T N a f_running a_timerOn_2 a_tokens a_lengths a_ends b_tokens := ⟨ha, hb2, heb, hpr, hrun⟩
        refine hX _ (fun fp fr w pp pr pl => ?_)
        refine br_f h0 (br_t h1 (br_f h2 (nm_e ?_)))
        refine hY _ (fun ft fb e num tk ta tr tl => ?_)
        exact ⟨rfl, cc_rel hI2⟩
    · exact br_f h1 (br_f h0 (br_f h1 ⟨rfl, cc_rel hI⟩))
end
section
section
variable {f_time f_active f_running f_pending f_roundsBegun : Int32} {a_variables a_row a_inputs a_outputs a_timerOn a_timerBegin a_timerElapsed a_timerDone a_counterLast a_counterValue a_counterDone a_edgeLast a_edgeDone a_tokens a_lengths a_ends a_worths a_pendingPlaces a_pendingRounds a_pendingLimits : Nat → Int32}
theorem cc_xip {post : Int32 → Prop} {p : Nat} (hp : p < 2) (h : post 1) : wpX_isProgram post (nI p) :=
  br_f (cc_nlt p 0 (by omega)) (br_f (cc_nle 2 p hp) h)
theorem cc_xlT {post : Int32 → Prop} {x : Int32} (h1 : ¬ f_running = 0) (h2 : x = f_active) (h : post 1) : wpX_isLocked post (f_time, f_active, f_running, f_pending, f_roundsBegun, a_variables, a_row, a_inputs, a_outputs, a_timerOn, a_timerBegin, a_timerElapsed, a_timerDone, a_counterLast, a_counterValue, a_counterDone, a_edgeLast, a_edgeDone, a_tokens, a_lengths, a_ends, a_worths, a_pendingPlaces, a_pendingRounds, a_pendingLimits) x := br_f h1 (br_t h2 h)
theorem cc_xlF {post : Int32 → Prop} {x : Int32} (h1 : ¬ (¬ f_running = 0 ∧ x = f_active)) (h : post 0) : wpX_isLocked post (f_time, f_active, f_running, f_pending, f_roundsBegun, a_variables, a_row, a_inputs, a_outputs, a_timerOn, a_timerBegin, a_timerElapsed, a_timerDone, a_counterLast, a_counterValue, a_counterDone, a_edgeLast, a_edgeDone, a_tokens, a_lengths, a_ends, a_worths, a_pendingPlaces, a_pendingRounds, a_pendingLimits) x :=
  br_c (fun _ => h) (fun z => br_f (fun y => h1 ⟨z, y⟩) h)
end
section
variable {f_time f_active f_running f_open f_depth f_tasks f_begun : Int32} {a_variables a_cells a_inputs a_outputs a_timerOn a_timerBegin a_timerElapsed a_timerDone a_counterLast a_counterValue a_counterDone a_edgeLast a_edgeDone a_sizes a_tokens a_ends a_wants a_numbers a_taskKind a_taskAt a_taskRounds a_taskLimit : Nat → Int32}
theorem cc_ybp {post : Int32 → Prop} {p : Nat} (hp : p < 2) (h : post 0) : wpY_badProgram post (f_time, f_active, f_running, f_open, f_depth, f_tasks, f_begun, a_variables, a_cells, a_inputs, a_outputs, a_timerOn, a_timerBegin, a_timerElapsed, a_timerDone, a_counterLast, a_counterValue, a_counterDone, a_edgeLast, a_edgeDone, a_sizes, a_tokens, a_ends, a_wants, a_numbers, a_taskKind, a_taskAt, a_taskRounds, a_taskLimit) (nI p) :=
  br_f (cc_nlt p 0 (by omega)) (br_t (cc_le p 1 (by omega)) h)
theorem cc_ylT {post : Int32 → Prop} {x : Int32} (h1 : ¬ f_running = 0) (h2 : x = f_active) (h : post 1) : wpY_isBusy post (f_time, f_active, f_running, f_open, f_depth, f_tasks, f_begun, a_variables, a_cells, a_inputs, a_outputs, a_timerOn, a_timerBegin, a_timerElapsed, a_timerDone, a_counterLast, a_counterValue, a_counterDone, a_edgeLast, a_edgeDone, a_sizes, a_tokens, a_ends, a_wants, a_numbers, a_taskKind, a_taskAt, a_taskRounds, a_taskLimit) x := br_f h1 (br_t h2 h)
theorem cc_ylF {post : Int32 → Prop} {x : Int32} (h1 : ¬ (¬ f_running = 0 ∧ x = f_active)) (h : post 0) : wpY_isBusy post (f_time, f_active, f_running, f_open, f_depth, f_tasks, f_begun, a_variables, a_cells, a_inputs, a_outputs, a_timerOn, a_timerBegin, a_timerElapsed, a_timerDone, a_counterLast, a_counterValue, a_counterDone, a_edgeLast, a_edgeDone, a_sizes, a_tokens, a_ends, a_wants, a_numbers, a_taskKind, a_taskAt, a_taskRounds, a_taskLimit) x :=
  br_c (fun _ => h) (fun z => br_f (fun y => h1 ⟨z, y⟩) h)
end

def cc_uN (N : Nat → Nat) (p x : Nat) : Nat → Nat := fun q => if q = p then x else N q
def cc_uT (T : Nat → Nat → Nat) (p m t : Nat) : Nat → Nat → Nat := fun q i => if q = p ∧ i = m then t else T q i
theorem cc_uNs (N : Nat → Nat) (p x : Nat) : cc_uN N p x p = x := if_pos rfl
theorem cc_uNn {N : Nat → Nat} {p q x : Nat} (h : q ≠ p) : cc_uN N p x q = N q := if_neg h
theorem cc_uTo {T : Nat → Nat → Nat} {p q m t : Nat} (h : q ≠ p) : cc_uT T p m t q = T q := by
  funext i
  exact if_neg (fun z => h z.1)
theorem cc_uTs {T : Nat → Nat → Nat} {p m t : Nat} : cc_uT T p m t p m = t := if_pos ⟨rfl, rfl⟩
theorem cc_uTb {T : Nat → Nat → Nat} {p m t i : Nat} (h : i < m) : cc_uT T p m t p i = T p i := if_neg (fun z => by omega)

theorem cc_I_less {T : Nat → Nat → Nat} {N : Nat → Nat} {a p x : Nat} {f_running : Int32} {a_timerOn a_tokens a_lengths a_ends b_tokens : Nat → Int32}
    (hI : cc_I T N a f_running a_timerOn a_tokens a_lengths a_ends b_tokens) (hp : p < 2) (hx : x ≤ N p) (hun : ¬ (¬ f_running = 0 ∧ nI p = nI a)) :
    cc_I T (cc_uN N p x) a f_running a_timerOn a_tokens (upd a_lengths p (nI x)) a_ends b_tokens := by
  obtain ⟨ha, hb01, heb, hpr, hrun⟩ := hI
  refine ⟨ha, hb01, heb, fun q hq => ?_, fun z => ?_⟩
  · obtain ⟨p1, p2, p3, p4, p5⟩ := hpr q hq
    by_cases e : q = p
    · subst e
      rw [cc_uNs, cc_u_s]
      exact ⟨by omega, rfl, cc_ok_le hx p3, fun i hi => p4 i (by omega), fun i hi => p5 i (by omega)⟩
    · rw [cc_uNn e, cc_u_n e]
      exact ⟨p1, p2, p3, p4, p5⟩
  · have e : a ≠ p := fun y => hun ⟨z, by rw [y]⟩
    rw [cc_uNn e]
    exact hrun z

theorem i_vc_back {k : Nat} {u : SX} {v : SY} (I : i_Rel k u v) (hk : k + 3 ≤ 1536) (v1 : Int32) : wpX_back (fun r u' => wpY_back (fun r' v' => r' = r ∧ i_Rel (k + 3) u' v') v v1) u v1 := by
  obtain ⟨T, N, a, f_time, f_running, f_pending, f_roundsBegun, f_open, f_depth, f_tasks, f_begun, a_variables, a_row, a_inputs, a_outputs, a_timerOn, a_timerBegin, a_timerElapsed, a_timerDone, a_counterLast, a_counterValue, a_counterDone, a_edgeLast, a_edgeDone, a_tokens, a_lengths, a_ends, a_worths, a_pendingPlaces, a_pendingRounds, a_pendingLimits, b_tokens, b_ends, b_wants, a_numbers, a_taskKind, a_taskAt, a_taskRounds, a_taskLimit, rfl, rfl, ⟨ha, hb01, heb, hpr, hrun⟩⟩ := I
  have hI : cc_I T N a f_running a_timerOn a_tokens a_lengths a_ends b_tokens := ⟨ha, hb01, heb, hpr, hrun⟩
  rcases pk_ix v1 (n := 2) (by omega) with h | h | ⟨p, hp, rfl⟩
  · exact br_t h (br_t rfl (br_t h (br_f cc_n10 ⟨rfl, cc_rel hI⟩)))
  · obtain ⟨b1, b2, b3⟩ := cc_big h (by omega)
    exact br_f b1 (br_t h (br_t rfl (br_f b1 (br_f (b3 1 (by omega)) (br_f cc_n10 ⟨rfl, cc_rel hI⟩)))))
  · have hv : vp_in (nI p) 2 := vp_in_nI hp (by omega)
    have hc : (nI p).toNatClampNeg = p := nI_clamp (by omega)
    obtain ⟨p1, p2, p3, p4, p5⟩ := hpr p hp
    unfold wpX_back
    dsimp only
    refine cc_xip hp ?_
    refine br_f cc_n10 ?_
    by_cases hlk : ¬ f_running = 0 ∧ nI p = nI a
    · refine cc_xlT hlk.1 hlk.2 ?_
      refine br_f cc_n10 ?_
      unfold wpY_back
      dsimp only
      refine cc_ybp hp ?_
      refine br_t rfl ?_
      refine cc_ylT hlk.1 hlk.2 ?_
      exact br_f cc_n10 ⟨rfl, cc_rel hI⟩
    · refine cc_xlF hlk ?_
      refine br_t rfl ⟨hv, ?_⟩
      rw [hc, p2]
      refine pk_eq (N p) 0 (fun z => ?_) (fun z => ⟨hv, hv, ?_⟩)
      · unfold wpY_back
        dsimp only
        refine cc_ybp hp ?_
        refine br_t rfl ?_
        refine cc_ylF hlk ?_
        refine br_t rfl ⟨hv, ?_⟩
        rw [hc, p2]
        exact br_t (cc_eq (N p) 0 z) ⟨rfl, cc_rel hI⟩
      · refine nm_r (e' := upd a_lengths p (nI (N p - 1))) (by rw [cc_s1 (by omega)]) ⟨hv, ?_⟩
        unfold wpY_back
        dsimp only
        refine cc_ybp hp ?_
        refine br_t rfl ?_
        refine cc_ylF hlk ?_
        refine br_t rfl ⟨hv, ?_⟩
        rw [hc, p2]
        refine br_f (cc_ne (N p) 0 z) ⟨hv, hv, ?_⟩
        refine nm_r (e' := upd a_lengths p (nI (N p - 1))) (by rw [cc_s1 (by omega)]) ⟨hv, rfl, ?_⟩
        exact cc_rel (cc_I_less hI hp (by omega) hlk)

theorem i_vc_erase {k : Nat} {u : SX} {v : SY} (I : i_Rel k u v) (hk : k + 3 ≤ 1536) (v1 : Int32) : wpX_erase (fun r u' => wpY_erase (fun r' v' => r' = r ∧ i_Rel (k + 3) u' v') v v1) u v1 := by
  obtain ⟨T, N, a, f_time, f_running, f_pending, f_roundsBegun, f_open, f_depth, f_tasks, f_begun, a_variables, a_row, a_inputs, a_outputs, a_timerOn, a_timerBegin, a_timerElapsed, a_timerDone, a_counterLast, a_counterValue, a_counterDone, a_edgeLast, a_edgeDone, a_tokens, a_lengths, a_ends, a_worths, a_pendingPlaces, a_pendingRounds, a_pendingLimits, b_tokens, b_ends, b_wants, a_numbers, a_taskKind, a_taskAt, a_taskRounds, a_taskLimit, rfl, rfl, ⟨ha, hb01, heb, hpr, hrun⟩⟩ := I
  have hI : cc_I T N a f_running a_timerOn a_tokens a_lengths a_ends b_tokens := ⟨ha, hb01, heb, hpr, hrun⟩
  rcases pk_ix v1 (n := 2) (by omega) with h | h | ⟨p, hp, rfl⟩
  · exact br_t h (br_t rfl (br_t h (br_f cc_n10 ⟨rfl, cc_rel hI⟩)))
  · obtain ⟨b1, b2, b3⟩ := cc_big h (by omega)
    exact br_f b1 (br_t h (br_t rfl (br_f b1 (br_f (b3 1 (by omega)) (br_f cc_n10 ⟨rfl, cc_rel hI⟩)))))
  · have hv : vp_in (nI p) 2 := vp_in_nI hp (by omega)
    have hc : (nI p).toNatClampNeg = p := nI_clamp (by omega)
    unfold wpX_erase
    dsimp only
    refine cc_xip hp ?_
    refine br_f cc_n10 ?_
    by_cases hlk : ¬ f_running = 0 ∧ nI p = nI a
    · refine cc_xlT hlk.1 hlk.2 ?_
      refine br_f cc_n10 ?_
      unfold wpY_erase
      dsimp only
      refine cc_ybp hp ?_
      refine br_t rfl ?_
      refine cc_ylT hlk.1 hlk.2 ?_
      exact br_f cc_n10 ⟨rfl, cc_rel hI⟩
    · refine cc_xlF hlk ?_
      refine br_t rfl ⟨hv, ?_⟩
      refine nm_e ⟨hv, ?_⟩
      refine nm_r (e' := upd a_lengths p (nI 0)) (by rw [hc]; rfl) ?_
      unfold wpY_erase
      dsimp only
      refine cc_ybp hp ?_
      refine br_t rfl ?_
      refine cc_ylF hlk ?_
      refine br_t rfl ⟨hv, ?_⟩
      refine nm_e ⟨hv, ?_⟩
      refine nm_r (e' := upd a_lengths p (nI 0)) (by rw [hc]; rfl) ⟨rfl, ?_⟩
      exact cc_rel (cc_I_less hI hp (Nat.zero_le _) hlk)

theorem cc_nk0 {T : Nat → Nat} {n : Nat} : cc_nk (cc_sk T n) = 0 ↔ cc_h T n = 0 := by
  unfold cc_h
  cases cc_sk T n with
  | nil => simp [cc_nk]
  | cons b l => cases b <;> simp [cc_nk]

theorem cc_nkle (l : List Bool) : cc_nk l ≤ 2 := by
  unfold cc_nk
  split
  · omega
  · split <;> omega

theorem i_vc_complete {k : Nat} {u : SX} {v : SY} (I : i_Rel k u v) (hk : k + 3 ≤ 1536) (v1 : Int32) : wpX_complete (fun r => wpY_complete (fun r' v' => r' = r ∧ i_Rel (k + 3) u v') v v1) u v1 := by
  obtain ⟨T, N, a, f_time, f_running, f_pending, f_roundsBegun, f_open, f_depth, f_tasks, f_begun, a_variables, a_row, a_inputs, a_outputs, a_timerOn, a_timerBegin, a_timerElapsed, a_timerDone, a_counterLast, a_counterValue, a_counterDone, a_edgeLast, a_edgeDone, a_tokens, a_lengths, a_ends, a_worths, a_pendingPlaces, a_pendingRounds, a_pendingLimits, b_tokens, b_ends, b_wants, a_numbers, a_taskKind, a_taskAt, a_taskRounds, a_taskLimit, rfl, rfl, ⟨ha, hb01, heb, hpr, hrun⟩⟩ := I
  have hI : cc_I T N a f_running a_timerOn a_tokens a_lengths a_ends b_tokens := ⟨ha, hb01, heb, hpr, hrun⟩
  rcases pk_ix v1 (n := 2) (by omega) with h | h | ⟨p, hp, rfl⟩
  · exact br_t h (br_t rfl (br_t h (br_f cc_n10 ⟨rfl, cc_rel hI⟩)))
  · obtain ⟨b1, b2, b3⟩ := cc_big h (by omega)
    exact br_f b1 (br_t h (br_t rfl (br_f b1 (br_f (b3 1 (by omega)) (br_f cc_n10 ⟨rfl, cc_rel hI⟩)))))
  · obtain ⟨p1, p2, p3, p4, p5⟩ := hpr p hp
    have hle := cc_h_le (T p) (N p)
    have hkl := cc_nkle (cc_sk (T p) (N p))
    unfold wpX_complete
    dsimp only
    refine cc_xip hp ?_
    refine br_f cc_n10 ?_
    refine cc_xnk hp p1 p3 p2 p4 ?_
    refine pk_eq (cc_nk (cc_sk (T p) (N p))) 0 (fun z => ?_) (fun z => ?_)
    · unfold wpY_complete
      dsimp only
      refine cc_ybp hp ?_
      refine br_t rfl ?_
      refine cc_ysc hp p1 p3 p2 p5 (fun w hw => ?_)
      exact br_t (cc_eq (cc_h (T p) (N p)) 0 (cc_nk0.mp z)) ⟨rfl, cc_rel hI⟩
    · unfold wpY_complete
      dsimp only
      refine cc_ybp hp ?_
      refine br_t rfl ?_
      refine cc_ysc hp p1 p3 p2 p5 (fun w hw => ?_)
      exact br_f (cc_ne (cc_h (T p) (N p)) 0 (fun y => z (cc_nk0.mpr y))) ⟨rfl, cc_rel hI⟩

theorem i_vc_activate {k : Nat} {u : SX} {v : SY} (I : i_Rel k u v) (hk : k + 3 ≤ 1536) (v1 : Int32) : wpX_activate (fun r u' => wpY_activate (fun r' v' => r' = r ∧ i_Rel (k + 3) u' v') v v1) u v1 := by
  obtain ⟨T, N, a, f_time, f_running, f_pending, f_roundsBegun, f_open, f_depth, f_tasks, f_begun, a_variables, a_row, a_inputs, a_outputs, a_timerOn, a_timerBegin, a_timerElapsed, a_timerDone, a_counterLast, a_counterValue, a_counterDone, a_edgeLast, a_edgeDone, a_tokens, a_lengths, a_ends, a_worths, a_pendingPlaces, a_pendingRounds, a_pendingLimits, b_tokens, b_ends, b_wants, a_numbers, a_taskKind, a_taskAt, a_taskRounds, a_taskLimit, rfl, rfl, ⟨ha, hb01, heb, hpr, hrun⟩⟩ := I
  have hI : cc_I T N a f_running a_timerOn a_tokens a_lengths a_ends b_tokens := ⟨ha, hb01, heb, hpr, hrun⟩
  rcases pk_ix v1 (n := 2) (by omega) with h | h | ⟨p, hp, rfl⟩
  · exact br_t h (br_t rfl (br_t h (br_f cc_n10 ⟨rfl, cc_rel hI⟩)))
  · obtain ⟨b1, b2, b3⟩ := cc_big h (by omega)
    exact br_f b1 (br_t h (br_t rfl (br_f b1 (br_f (b3 1 (by omega)) (br_f cc_n10 ⟨rfl, cc_rel hI⟩)))))
  · obtain ⟨p1, p2, p3, p4, p5⟩ := hpr p hp
    have hle := cc_h_le (T p) (N p)
    have hkl := cc_nkle (cc_sk (T p) (N p))
    unfold wpX_activate
    dsimp only
    refine cc_xip hp ?_
    refine br_f cc_n10 ?_
    refine cc_xnk hp p1 p3 p2 p4 ?_
    refine pk_eq (cc_nk (cc_sk (T p) (N p))) 0 (fun z => ?_) (fun z => ?_)
    · have hz := cc_nk0.mp z
      refine cc_xfe (T := T p) (n := N p) (a := p) ⟨p3, hz, p1⟩ hp p2 p4 heb (fun e he1 he2 => ?_)
      unfold wpY_activate
      dsimp only
      refine cc_ybp hp ?_
      refine br_t rfl ?_
      unfold wpY_complete
      dsimp only
      refine cc_ybp hp ?_
      refine br_t rfl ?_
      refine cc_ysc hp p1 p3 p2 p5 (fun w hw => ?_)
      refine br_t (cc_eq (cc_h (T p) (N p)) 0 hz) ?_
      refine br_f cc_n10 ⟨rfl, ?_⟩
      exact cc_rel (a := p) ⟨hp, hb01, he1, hpr, fun _ => ⟨hz, he2⟩⟩
    · unfold wpY_activate
      dsimp only
      refine cc_ybp hp ?_
      refine br_t rfl ?_
      unfold wpY_complete
      dsimp only
      refine cc_ybp hp ?_
      refine br_t rfl ?_
      refine cc_ysc hp p1 p3 p2 p5 (fun w hw => ?_)
      refine br_f (cc_ne (cc_h (T p) (N p)) 0 (fun y => z (cc_nk0.mpr y))) ?_
      exact br_t rfl ⟨rfl, cc_rel hI⟩

theorem cc_I_feed {T : Nat → Nat → Nat} {N : Nat → Nat} {a p t : Nat} {b : Bool} {l : List Bool} {f_running : Int32} {a_timerOn a_tokens a_lengths a_ends b_tokens : Nat → Int32}
    (hI : cc_I T N a f_running a_timerOn a_tokens a_lengths a_ends b_tokens) (hp : p < 2) (hN : N p < 60) (hun : ¬ (¬ f_running = 0 ∧ nI p = nI a))
    (hsk : cc_sk (T p) (N p) = b :: l) (hst : cc_st t = b) (hva : cc_st t = true ∨ cc_ex t = true) :
    cc_I (cc_uT T p (N p) t) (cc_uN N p (N p + 1)) a f_running a_timerOn (upd a_tokens (p * 61 + N p) (nI t)) (upd a_lengths p (nI (N p + 1))) a_ends (upd b_tokens (60 * p + N p) (nI t)) := by
  obtain ⟨ha, hb01, heb, hpr, hrun⟩ := hI
  refine ⟨ha, hb01, heb, fun q hq => ?_, fun z => ?_⟩
  · obtain ⟨p1, p2, p3, p4, p5⟩ := hpr q hq
    by_cases e : q = p
    · subst e
      rw [cc_uNs, cc_u_s]
      refine ⟨by omega, rfl, ?_, fun i hi => ?_, fun i hi => ?_⟩
      · have ag : ∀ i, i < N q → T q i = cc_uT T q (N q) t q i := fun i hi => (cc_uTb hi).symm
        intro k hk
        by_cases e : k = N q
        · subst e
          rw [← cc_sk_congr ag, cc_uTs, hsk, hst]
          exact ⟨rfl, by rw [← hst]; exact hva⟩
        · exact cc_ok_congr ag p3 k (by omega)
      · by_cases e : i = N q
        · subst e; rw [cc_u_s, cc_uTs]
        · rw [cc_u_n (by omega), cc_uTb (by omega)]; exact p4 i (by omega)
      · by_cases e : i = N q
        · subst e; rw [cc_u_s, cc_uTs]
        · rw [cc_u_n (by omega), cc_uTb (by omega)]; exact p5 i (by omega)
    · rw [cc_uNn e, cc_u_n e, cc_uTo e]
      refine ⟨p1, p2, p3, fun i hi => ?_, fun i hi => ?_⟩
      · rw [cc_u_n (by omega)]; exact p4 i hi
      · rw [cc_u_n (by omega)]; exact p5 i hi
  · have e : a ≠ p := fun y => hun ⟨z, by rw [y]⟩
    rw [cc_uNn e, cc_uTo e]
    exact hrun z

theorem i_vc_feed {k : Nat} {u : SX} {v : SY} (I : i_Rel k u v) (hk : k + 3 ≤ 1536) (v1 : Int32) (v2 : Int32) : wpX_feed (fun r u' => wpY_feed (fun r' v' => r' = r ∧ i_Rel (k + 3) u' v') v v1 v2) u v1 v2 := by
  obtain ⟨T, N, a, f_time, f_running, f_pending, f_roundsBegun, f_open, f_depth, f_tasks, f_begun, a_variables, a_row, a_inputs, a_outputs, a_timerOn, a_timerBegin, a_timerElapsed, a_timerDone, a_counterLast, a_counterValue, a_counterDone, a_edgeLast, a_edgeDone, a_tokens, a_lengths, a_ends, a_worths, a_pendingPlaces, a_pendingRounds, a_pendingLimits, b_tokens, b_ends, b_wants, a_numbers, a_taskKind, a_taskAt, a_taskRounds, a_taskLimit, rfl, rfl, ⟨ha, hb01, heb, hpr, hrun⟩⟩ := I
  have hI : cc_I T N a f_running a_timerOn a_tokens a_lengths a_ends b_tokens := ⟨ha, hb01, heb, hpr, hrun⟩
  rcases pk_ix v1 (n := 2) (by omega) with h | h | ⟨p, hp, rfl⟩
  · exact br_t h (br_t rfl (br_t h (br_f cc_n10 ⟨rfl, cc_rel hI⟩)))
  · obtain ⟨b1, b2, b3⟩ := cc_big h (by omega)
    exact br_f b1 (br_t h (br_t rfl (br_f b1 (br_f (b3 1 (by omega)) (br_f cc_n10 ⟨rfl, cc_rel hI⟩)))))
  · have hv : vp_in (nI p) 2 := vp_in_nI hp (by omega)
    have hc : (nI p).toNatClampNeg = p := nI_clamp (by omega)
    obtain ⟨p1, p2, p3, p4, p5⟩ := hpr p hp
    have hle := cc_h_le (T p) (N p)
    have hkl := cc_nkle (cc_sk (T p) (N p))
    unfold wpX_feed
    dsimp only
    refine cc_xip hp ?_
    refine br_f cc_n10 ?_
    by_cases hlk : ¬ f_running = 0 ∧ nI p = nI a
    · refine cc_xlT hlk.1 hlk.2 ?_
      refine br_f cc_n10 ?_
      unfold wpY_feed
      dsimp only
      refine cc_ybp hp ?_
      refine br_t rfl ?_
      refine cc_ylT hlk.1 hlk.2 ?_
      exact br_f cc_n10 ⟨rfl, cc_rel hI⟩
    · refine cc_xlF hlk ?_
      refine br_t rfl ?_
      refine cc_xnk hp p1 p3 p2 p4 ?_
      refine pk_eq (cc_nk (cc_sk (T p) (N p))) 0 (fun z => ?_) (fun z => ⟨hv, ?_⟩)
      · unfold wpY_feed
        dsimp only
        refine cc_ybp hp ?_
        refine br_t rfl ?_
        refine cc_ylF hlk ?_
        refine br_t rfl ?_
        refine cc_ysc hp p1 p3 p2 p5 (fun w hw => ?_)
        exact br_t (cc_eq (cc_h (T p) (N p)) 0 (cc_nk0.mp z)) ⟨rfl, cc_rel hI⟩
      · have hnz : cc_h (T p) (N p) ≠ 0 := fun y => z (cc_nk0.mpr y)
        rw [hc, p2]
        refine pk_lt (N p) 60 (fun y => ?_) (fun y => ?_)
        · obtain ⟨b, l, hsk⟩ : ∃ b l, cc_sk (T p) (N p) = b :: l := by
            cases hl : cc_sk (T p) (N p) with
            | nil => exact absurd (by unfold cc_h; rw [hl]; rfl) hnz
            | cons b l => exact ⟨b, l, rfl⟩
          have hhl : cc_h (T p) (N p) = l.length + 1 := by unfold cc_h; rw [hsk]; rfl
          refine cc_xko (fun kk hkk => ?_)
          have hnkb : cc_nk (cc_sk (T p) (N p)) = if b = true then 1 else 2 := by rw [hsk]; rfl
          have hkk2 : kk ≤ 2 := by
            rw [← hkk]
            unfold cc_kI
            repeat' split
            all_goals omega
          have yw : ∀ P : Int32 → SY → Prop, (∀ w, (kk = (if b = true then 1 else 2) → wY_feed_82 P (nI p) v2 f_time (nI a) f_running (nI (cc_h (T p) (N p))) f_depth f_tasks f_begun a_variables a_row a_inputs a_outputs a_timerOn a_timerBegin a_timerElapsed a_timerDone a_counterLast a_counterValue a_counterDone a_edgeLast a_edgeDone a_lengths b_tokens b_ends w a_numbers a_taskKind a_taskAt a_taskRounds a_taskLimit) ∧ (¬ kk = (if b = true then 1 else 2) → P (-1) (f_time, nI a, f_running, nI (cc_h (T p) (N p)), f_depth, f_tasks, f_begun, a_variables, a_row, a_inputs, a_outputs, a_timerOn, a_timerBegin, a_timerElapsed, a_timerDone, a_counterLast, a_counterValue, a_counterDone, a_edgeLast, a_edgeDone, a_lengths, b_tokens, b_ends, w, a_numbers, a_taskKind, a_taskAt, a_taskRounds, a_taskLimit))) → wpY_feed P (f_time, nI a, f_running, f_open, f_depth, f_tasks, f_begun, a_variables, a_row, a_inputs, a_outputs, a_timerOn, a_timerBegin, a_timerElapsed, a_timerDone, a_counterLast, a_counterValue, a_counterDone, a_edgeLast, a_edgeDone, a_lengths, b_tokens, b_ends, b_wants, a_numbers, a_taskKind, a_taskAt, a_taskRounds, a_taskLimit) (nI p) v2 := by
            intro P hP
            unfold wpY_feed
            dsimp only
            refine cc_ybp hp ?_
            refine br_t rfl ?_
            refine cc_ylF hlk ?_
            refine br_t rfl ?_
            refine cc_ysc hp p1 p3 p2 p5 (fun w hw => ?_)
            have hPw := hP w
            refine br_f (cc_ne (cc_h (T p) (N p)) 0 hnz) ⟨hv, ?_⟩
            dsimp only
            rw [hc, p2]
            refine br_f (cc_ne (N p) 60 (by omega)) ?_
            rw [show nI (cc_h (T p) (N p)) - 1 = nI l.length from by rw [hhl]; exact nI_pred _]
            refine ⟨vp_in_nI (by omega) (by omega), ?_⟩
            rw [hsk] at hw
            rw [nI_clamp (show l.length < 2 ^ 31 by omega), hw.1]
            cases b with
            | true =>
              refine br_f cc_n10 ?_
              refine cc_yst ?_
              rw [hkk]
              by_cases e : kk = 1
              · rw [if_pos e]; exact br_f cc_n10 (hPw.1 e)
              · rw [if_neg e]; exact br_t rfl (hPw.2 e)
            | false =>
              refine br_t rfl ?_
              refine cc_yex ?_
              rw [hkk]
              by_cases e : kk = 2
              · rw [if_pos e]; exact br_f cc_n10 (hPw.1 e)
              · rw [if_neg e]; exact br_t rfl (hPw.2 e)
          refine pk_eq kk (cc_nk (cc_sk (T p) (N p))) (fun e => ?_) (fun e => ?_)
          · rw [hnkb] at e
            obtain ⟨t, ht, hx, k1, k2⟩ := cc_kI_va (x := v2) (by rw [hkk, e]; split <;> omega)
            have hva : cc_st t = true ∨ cc_ex t = true := by
              cases b with
              | true => exact Or.inl (k1 (hkk.trans e))
              | false => exact Or.inr (k2 (hkk.trans e))
            have hstb : cc_st t = b := by
              cases b with
              | true => exact k1 (hkk.trans e)
              | false => exact cc_st_ex (k2 (hkk.trans e))
            refine ⟨hv, ?_⟩
            rw [cc_a61]
            refine ⟨vp_in_nI (by omega) (by omega), ?_⟩
            refine nm_r (e' := upd a_tokens (p * 61 + N p) (nI t)) (by rw [nI_clamp (by omega), hx]) ⟨hv, hv, ?_⟩
            refine nm_r (e' := upd a_lengths p (nI (N p + 1))) (by rw [nI_1]) ⟨hv, ?_⟩
            refine yw _ (fun w => ⟨fun _ => ?_, fun e' => absurd e e'⟩)
            refine ⟨hv, ?_⟩
            rw [hc, p2, cc_a60]
            refine ⟨vp_in_nI (by omega) (by omega), ?_⟩
            refine nm_r (e' := upd b_tokens (60 * p + N p) (nI t)) (by rw [nI_clamp (by omega), hx]) ⟨hv, hv, ?_⟩
            refine nm_r (e' := upd a_lengths p (nI (N p + 1))) (by rw [nI_1]) ⟨hv, rfl, ?_⟩
            exact cc_rel (cc_I_feed hI hp y hlk hsk hstb hva)
          · rw [hnkb] at e
            refine yw _ (fun w => ⟨fun e' => absurd e' e, fun _ => ⟨rfl, cc_rel hI⟩⟩)
        · unfold wpY_feed
          dsimp only
          refine cc_ybp hp ?_
          refine br_t rfl ?_
          refine cc_ylF hlk ?_
          refine br_t rfl ?_
          refine cc_ysc hp p1 p3 p2 p5 (fun w hw => ?_)
          refine br_f (cc_ne (cc_h (T p) (N p)) 0 hnz) ⟨hv, ?_⟩
          dsimp only
          rw [hc, p2]
          exact br_t (cc_eq (N p) 60 (by omega)) ⟨rfl, cc_rel hI⟩
end
section
def cc_zr : (Nat → Int32) → Nat → Nat → (Nat → Int32)
  | f, 0, _ => f
  | f, d + 1, i => cc_zr (upd f i 0) d (i + 1)

theorem cc_zr_b01 {f : Nat → Int32} (h : cc_b01 f) (d i : Nat) : cc_b01 (cc_zr f d i) := by
  induction d generalizing f i with
  | zero => exact h
  | succ d ih =>
    refine ih (fun j => ?_) (i + 1)
    by_cases z : j = i
    · rw [z, cc_u_s]; exact Or.inl rfl
    · rw [cc_u_n z]; exact h j

def cc_sm (f : Nat → Int32) : Nat → Nat → Int32 → Int32
  | 0, _, acc => acc
  | d + 1, i, acc => cc_sm f d (i + 1) (acc + f i)

theorem cc_sm_add (f : Nat → Int32) (d e i : Nat) (acc : Int32) : cc_sm f (d + e) i acc = cc_sm f e (i + d) (cc_sm f d i acc) := by
  induction d generalizing i acc with
  | zero => simp [cc_sm]
  | succ d ih =>
    rw [show d + 1 + e = (d + e) + 1 by omega]
    simp only [cc_sm]
    rw [ih, show i + 1 + d = i + (d + 1) by omega]

section
variable {f_time f_active f_running f_pending f_roundsBegun : Int32} {a_variables a_row a_inputs a_outputs a_timerOn a_timerBegin a_timerElapsed a_timerDone a_counterLast a_counterValue a_counterDone a_edgeLast a_edgeDone a_tokens a_lengths a_ends a_worths a_pendingPlaces a_pendingRounds a_pendingLimits : Nat → Int32}

theorem cc_xr2 {post : SX → Prop} : ∀ (d i : Nat) (f : Nat → Int32), i + d = 16 → (∃ m, wX_restart_23 post f_time f_active f_running f_pending f_roundsBegun m 0 (cc_zr f d i) a_row a_inputs a_outputs a_timerOn a_timerBegin a_timerElapsed a_timerDone a_counterLast a_counterValue a_counterDone a_edgeLast a_edgeDone a_tokens a_lengths a_ends a_worths a_pendingPlaces a_pendingRounds a_pendingLimits) → wX_restart_2 post f_time f_active f_running f_pending f_roundsBegun (d + 1) (nI i) f a_row a_inputs a_outputs a_timerOn a_timerBegin a_timerElapsed a_timerDone a_counterLast a_counterValue a_counterDone a_edgeLast a_edgeDone a_tokens a_lengths a_ends a_worths a_pendingPlaces a_pendingRounds a_pendingLimits := by
  intro d
  induction d with
  | zero =>
    intro i f hi h
    exact br_t (cc_le 16 i (by omega)) h
  | succ d ih =>
    intro i f hi h
    refine br_f (cc_nle 16 i (by omega)) ⟨vp_in_nI (by omega) (by omega), ?_⟩
    refine nm_r (e' := upd f i 0) (by rw [nI_clamp (by omega)]) ?_
    refine nm_r (e' := nI (i + 1)) (nI_1 i) ?_
    exact ih (i + 1) (upd f i 0) (by omega) h

theorem cc_xr23 {post : SX → Prop} : ∀ (d i : Nat) (f : Nat → Int32), i + d = 8 → (∃ m, wX_restart_44 post f_time f_active f_running f_pending f_roundsBegun m 0 a_variables (cc_zr f d i) a_inputs a_outputs a_timerOn a_timerBegin a_timerElapsed a_timerDone a_counterLast a_counterValue a_counterDone a_edgeLast a_edgeDone a_tokens a_lengths a_ends a_worths a_pendingPlaces a_pendingRounds a_pendingLimits) → wX_restart_23 post f_time f_active f_running f_pending f_roundsBegun (d + 1) (nI i) a_variables f a_inputs a_outputs a_timerOn a_timerBegin a_timerElapsed a_timerDone a_counterLast a_counterValue a_counterDone a_edgeLast a_edgeDone a_tokens a_lengths a_ends a_worths a_pendingPlaces a_pendingRounds a_pendingLimits := by
  intro d
  induction d with
  | zero =>
    intro i f hi h
    exact br_t (cc_le 8 i (by omega)) h
  | succ d ih =>
    intro i f hi h
    refine br_f (cc_nle 8 i (by omega)) ⟨vp_in_nI (by omega) (by omega), ?_⟩
    refine nm_r (e' := upd f i 0) (by rw [nI_clamp (by omega)]) ?_
    refine nm_r (e' := nI (i + 1)) (nI_1 i) ?_
    exact ih (i + 1) (upd f i 0) (by omega) h

theorem cc_xr44 {post : SX → Prop} : ∀ (d i : Nat) (f : Nat → Int32), i + d = 4 → (∃ n64, wX_restart_64 post n64 0 f_time f_active f_running f_pending f_roundsBegun a_variables a_row a_inputs (cc_zr f d i) a_timerOn a_timerBegin a_timerElapsed a_timerDone a_counterLast a_counterValue a_counterDone a_edgeLast a_edgeDone a_tokens a_lengths a_ends a_worths a_pendingPlaces a_pendingRounds a_pendingLimits) → wX_restart_44 post f_time f_active f_running f_pending f_roundsBegun (d + 1) (nI i) a_variables a_row a_inputs f a_timerOn a_timerBegin a_timerElapsed a_timerDone a_counterLast a_counterValue a_counterDone a_edgeLast a_edgeDone a_tokens a_lengths a_ends a_worths a_pendingPlaces a_pendingRounds a_pendingLimits := by
  intro d
  induction d with
  | zero =>
    intro i f hi h
    exact br_t (cc_le 4 i (by omega)) h
  | succ d ih =>
    intro i f hi h
    refine br_f (cc_nle 4 i (by omega)) ⟨vp_in_nI (by omega) (by omega), ?_⟩
    refine nm_r (e' := upd f i 0) (by rw [nI_clamp (by omega)]) ?_
    refine nm_r (e' := nI (i + 1)) (nI_1 i) ?_
    exact ih (i + 1) (upd f i 0) (by omega) h

theorem cc_xr64 {post : SX → Prop} : ∀ (d i : Nat) (f0 f1 f2 f3 f4 f5 f6 f7 f8 : Nat → Int32), i + d = 3 → post (f_time, f_active, f_running, f_pending, f_roundsBegun, a_variables, a_row, a_inputs, a_outputs, cc_zr f0 d i, cc_zr f1 d i, cc_zr f2 d i, cc_zr f3 d i, cc_zr f4 d i, cc_zr f5 d i, cc_zr f6 d i, cc_zr f7 d i, cc_zr f8 d i, a_tokens, a_lengths, a_ends, a_worths, a_pendingPlaces, a_pendingRounds, a_pendingLimits) → wX_restart_64 post (d + 1) (nI i) f_time f_active f_running f_pending f_roundsBegun a_variables a_row a_inputs a_outputs f0 f1 f2 f3 f4 f5 f6 f7 f8 a_tokens a_lengths a_ends a_worths a_pendingPlaces a_pendingRounds a_pendingLimits := by
  intro d
  induction d with
  | zero =>
    intro i f0 f1 f2 f3 f4 f5 f6 f7 f8 hi h
    exact br_t (cc_le 3 i (by omega)) h
  | succ d ih =>
    intro i f0 f1 f2 f3 f4 f5 f6 f7 f8 hi h
    refine br_f (cc_nle 3 i (by omega)) ?_
    have hv : vp_in (nI i) 3 := vp_in_nI (by omega) (by omega)
    have hc : (nI i).toNatClampNeg = i := nI_clamp (by omega)
    refine ⟨hv, ?_⟩
    refine nm_r (e' := upd f0 i 0) (by rw [hc]; rw [cc_vb0]) ?_
    refine ⟨hv, ?_⟩
    refine nm_r (e' := upd f1 i 0) (by rw [hc]) ?_
    refine ⟨hv, ?_⟩
    refine nm_r (e' := upd f2 i 0) (by rw [hc]) ?_
    refine ⟨hv, ?_⟩
    refine nm_r (e' := upd f3 i 0) (by rw [hc]) ?_
    refine ⟨hv, ?_⟩
    refine nm_r (e' := upd f4 i 0) (by rw [hc]; rw [cc_vb0]) ?_
    refine ⟨hv, ?_⟩
    refine nm_r (e' := upd f5 i 0) (by rw [hc]) ?_
    refine ⟨hv, ?_⟩
    refine nm_r (e' := upd f6 i 0) (by rw [hc]) ?_
    refine ⟨hv, ?_⟩
    refine nm_r (e' := upd f7 i 0) (by rw [hc]; rw [cc_vb0]) ?_
    refine ⟨hv, ?_⟩
    refine nm_r (e' := upd f8 i 0) (by rw [hc]) ?_
    refine nm_r (e' := nI (i + 1)) (nI_1 i) ?_
    exact ih (i + 1) (upd f0 i 0) (upd f1 i 0) (upd f2 i 0) (upd f3 i 0) (upd f4 i 0) (upd f5 i 0) (upd f6 i 0) (upd f7 i 0) (upd f8 i 0) (by omega) h

theorem cc_xres {post : SX → Prop} (h : post (f_time, f_active, f_running, f_pending, f_roundsBegun, cc_zr a_variables 12 4, cc_zr a_row 8 0, a_inputs, cc_zr a_outputs 4 0, cc_zr a_timerOn 3 0, cc_zr a_timerBegin 3 0, cc_zr a_timerElapsed 3 0, cc_zr a_timerDone 3 0, cc_zr a_counterLast 3 0, cc_zr a_counterValue 3 0, cc_zr a_counterDone 3 0, cc_zr a_edgeLast 3 0, cc_zr a_edgeDone 3 0, a_tokens, a_lengths, a_ends, a_worths, a_pendingPlaces, a_pendingRounds, a_pendingLimits)) : wpX_restart post (f_time, f_active, f_running, f_pending, f_roundsBegun, a_variables, a_row, a_inputs, a_outputs, a_timerOn, a_timerBegin, a_timerElapsed, a_timerDone, a_counterLast, a_counterValue, a_counterDone, a_edgeLast, a_edgeDone, a_tokens, a_lengths, a_ends, a_worths, a_pendingPlaces, a_pendingRounds, a_pendingLimits) :=
  ⟨13, cc_xr2 12 4 a_variables rfl ⟨9, cc_xr23 8 0 a_row rfl ⟨5, cc_xr44 4 0 a_outputs rfl ⟨4, cc_xr64 3 0 a_timerOn a_timerBegin a_timerElapsed a_timerDone a_counterLast a_counterValue a_counterDone a_edgeLast a_edgeDone rfl h⟩⟩⟩⟩

theorem cc_xd4 {post : Int32 → Prop} : ∀ (d i : Nat) (acc : Int32), i + d = 16 → (∃ m, wX_digest_31 post f_time f_active f_running f_pending f_roundsBegun a_variables a_row a_inputs a_outputs a_timerOn a_timerBegin a_timerElapsed a_timerDone a_counterLast a_counterValue a_counterDone a_edgeLast a_edgeDone a_tokens a_lengths a_ends a_worths a_pendingPlaces a_pendingRounds a_pendingLimits m (cc_sm (fun j => (nI j + 1) * a_variables j) d i acc) 0) → wX_digest_4 post f_time f_active f_running f_pending f_roundsBegun a_variables a_row a_inputs a_outputs a_timerOn a_timerBegin a_timerElapsed a_timerDone a_counterLast a_counterValue a_counterDone a_edgeLast a_edgeDone a_tokens a_lengths a_ends a_worths a_pendingPlaces a_pendingRounds a_pendingLimits (d + 1) acc (nI i) := by
  intro d
  induction d with
  | zero =>
    intro i acc hi h
    exact br_t (cc_le 16 i (by omega)) h
  | succ d ih =>
    intro i acc hi h
    refine br_f (cc_nle 16 i (by omega)) ⟨vp_in_nI (by omega) (by omega), ?_⟩
    refine nm_r (e' := acc + (nI i + 1) * a_variables i) (by rw [nI_clamp (by omega)]) ?_
    refine nm_r (e' := nI (i + 1)) (nI_1 i) ?_
    exact ih (i + 1) _ (by omega) h

theorem cc_xd31 {post : Int32 → Prop} : ∀ (d i : Nat) (acc : Int32), i + d = 8 → (∃ m, wX_digest_59 post f_time f_active f_running f_pending f_roundsBegun a_variables a_row a_inputs a_outputs a_timerOn a_timerBegin a_timerElapsed a_timerDone a_counterLast a_counterValue a_counterDone a_edgeLast a_edgeDone a_tokens a_lengths a_ends a_worths a_pendingPlaces a_pendingRounds a_pendingLimits m (cc_sm (fun j => (nI j + 17) * a_row j) d i acc) 0) → wX_digest_31 post f_time f_active f_running f_pending f_roundsBegun a_variables a_row a_inputs a_outputs a_timerOn a_timerBegin a_timerElapsed a_timerDone a_counterLast a_counterValue a_counterDone a_edgeLast a_edgeDone a_tokens a_lengths a_ends a_worths a_pendingPlaces a_pendingRounds a_pendingLimits (d + 1) acc (nI i) := by
  intro d
  induction d with
  | zero =>
    intro i acc hi h
    exact br_t (cc_le 8 i (by omega)) h
  | succ d ih =>
    intro i acc hi h
    refine br_f (cc_nle 8 i (by omega)) ⟨vp_in_nI (by omega) (by omega), ?_⟩
    refine nm_r (e' := acc + (nI i + 17) * a_row i) (by rw [nI_clamp (by omega)]) ?_
    refine nm_r (e' := nI (i + 1)) (nI_1 i) ?_
    exact ih (i + 1) _ (by omega) h

theorem cc_xd59 {post : Int32 → Prop} : ∀ (d i : Nat) (acc : Int32), i + d = 4 → (∃ m, wX_digest_86 post f_time f_active f_running f_pending f_roundsBegun a_variables a_row a_inputs a_outputs a_timerOn a_timerBegin a_timerElapsed a_timerDone a_counterLast a_counterValue a_counterDone a_edgeLast a_edgeDone a_tokens a_lengths a_ends a_worths a_pendingPlaces a_pendingRounds a_pendingLimits m (cc_sm (fun j => (nI j + 25) * a_outputs j) d i acc) 0) → wX_digest_59 post f_time f_active f_running f_pending f_roundsBegun a_variables a_row a_inputs a_outputs a_timerOn a_timerBegin a_timerElapsed a_timerDone a_counterLast a_counterValue a_counterDone a_edgeLast a_edgeDone a_tokens a_lengths a_ends a_worths a_pendingPlaces a_pendingRounds a_pendingLimits (d + 1) acc (nI i) := by
  intro d
  induction d with
  | zero =>
    intro i acc hi h
    exact br_t (cc_le 4 i (by omega)) h
  | succ d ih =>
    intro i acc hi h
    refine br_f (cc_nle 4 i (by omega)) ⟨vp_in_nI (by omega) (by omega), ?_⟩
    refine nm_r (e' := acc + (nI i + 25) * a_outputs i) (by rw [nI_clamp (by omega)]) ?_
    refine nm_r (e' := nI (i + 1)) (nI_1 i) ?_
    exact ih (i + 1) _ (by omega) h

theorem cc_xd93 {post : Int32 → Prop} {J : Int32 → Int32 → Prop} {q : Nat} (hq : q < 3) : ∀ (d i : Nat) (acc : Int32), i + d = 5 → J (cc_sm (fun j => (nI j + 29) * cc_bk a_timerElapsed a_timerDone a_counterValue a_counterDone a_edgeDone (j / 5) (nI (j % 5))) d (5 * q + i) acc) (nI (q + 1)) → wX_digest_93 post J (nI q) f_time f_active f_running f_pending f_roundsBegun a_variables a_row a_inputs a_outputs a_timerOn a_timerBegin a_timerElapsed a_timerDone a_counterLast a_counterValue a_counterDone a_edgeLast a_edgeDone a_tokens a_lengths a_ends a_worths a_pendingPlaces a_pendingRounds a_pendingLimits (d + 1) acc (nI i) := by
  intro d
  induction d with
  | zero =>
    intro i acc hi h
    refine br_t (cc_le 5 i (by omega)) ?_
    exact nm_r (e' := nI (q + 1)) (nI_1 q) h
  | succ d ih =>
    intro i acc hi h
    refine br_f (cc_nle 5 i (by omega)) ?_
    refine cc_xbk hq ?_
    refine nm_r (e' := acc + (nI (5 * q + i) + 29) * cc_bk a_timerElapsed a_timerDone a_counterValue a_counterDone a_edgeDone ((5 * q + i) / 5) (nI ((5 * q + i) % 5))) ?_ ?_
    · rw [show (5 * q + i) / 5 = q by omega, show (5 * q + i) % 5 = i by omega, show (5 : Int32) = nI 5 from rfl, pk_mul, nI_add]
    · refine nm_r (e' := nI (i + 1)) (nI_1 i) ?_
      exact ih (i + 1) _ (by omega) h

theorem cc_xd86 {post : Int32 → Prop} : ∀ (d q : Nat) (acc : Int32), q + d = 3 → post (cc_sm (fun j => (nI j + 29) * cc_bk a_timerElapsed a_timerDone a_counterValue a_counterDone a_edgeDone (j / 5) (nI (j % 5))) (5 * d) (5 * q) acc) → wX_digest_86 post f_time f_active f_running f_pending f_roundsBegun a_variables a_row a_inputs a_outputs a_timerOn a_timerBegin a_timerElapsed a_timerDone a_counterLast a_counterValue a_counterDone a_edgeLast a_edgeDone a_tokens a_lengths a_ends a_worths a_pendingPlaces a_pendingRounds a_pendingLimits (d + 1) acc (nI q) := by
  intro d
  induction d with
  | zero =>
    intro q acc hq h
    exact br_t (cc_le 3 q (by omega)) h
  | succ d ih =>
    intro q acc hq h
    refine br_f (cc_nle 3 q (by omega)) ⟨6, ?_⟩
    refine cc_xd93 (by omega) 5 0 acc rfl ?_
    refine ih (q + 1) _ (by omega) ?_
    rw [show 5 * (d + 1) = 5 + 5 * d by omega, cc_sm_add] at h
    exact h

theorem cc_xdig {post : Int32 → Prop} (h : post (cc_sm (fun j => (nI j + 29) * cc_bk a_timerElapsed a_timerDone a_counterValue a_counterDone a_edgeDone (j / 5) (nI (j % 5))) 15 0 (cc_sm (fun j => (nI j + 25) * a_outputs j) 4 0 (cc_sm (fun j => (nI j + 17) * a_row j) 8 0 (cc_sm (fun j => (nI j + 1) * a_variables j) 16 0 0))))) : wpX_digest post (f_time, f_active, f_running, f_pending, f_roundsBegun, a_variables, a_row, a_inputs, a_outputs, a_timerOn, a_timerBegin, a_timerElapsed, a_timerDone, a_counterLast, a_counterValue, a_counterDone, a_edgeLast, a_edgeDone, a_tokens, a_lengths, a_ends, a_worths, a_pendingPlaces, a_pendingRounds, a_pendingLimits) :=
  ⟨17, cc_xd4 16 0 0 rfl ⟨9, cc_xd31 8 0 _ rfl ⟨5, cc_xd59 4 0 _ rfl ⟨4, cc_xd86 3 0 _ rfl h⟩⟩⟩⟩

end

section
variable {f_time f_active f_running f_open f_depth f_tasks f_begun : Int32} {a_variables a_cells a_inputs a_outputs a_timerOn a_timerBegin a_timerElapsed a_timerDone a_counterLast a_counterValue a_counterDone a_edgeLast a_edgeDone a_sizes a_tokens a_ends a_wants a_numbers a_taskKind a_taskAt a_taskRounds a_taskLimit : Nat → Int32}

theorem cc_yr2 {post : SY → Prop} : ∀ (d i : Nat) (f : Nat → Int32), i + d = 16 → (∃ m, wY_restart_23 post f_time f_active f_running f_open f_depth f_tasks f_begun m 0 (cc_zr f d i) a_cells a_inputs a_outputs a_timerOn a_timerBegin a_timerElapsed a_timerDone a_counterLast a_counterValue a_counterDone a_edgeLast a_edgeDone a_sizes a_tokens a_ends a_wants a_numbers a_taskKind a_taskAt a_taskRounds a_taskLimit) → wY_restart_2 post f_time f_active f_running f_open f_depth f_tasks f_begun (d + 1) (nI i) f a_cells a_inputs a_outputs a_timerOn a_timerBegin a_timerElapsed a_timerDone a_counterLast a_counterValue a_counterDone a_edgeLast a_edgeDone a_sizes a_tokens a_ends a_wants a_numbers a_taskKind a_taskAt a_taskRounds a_taskLimit := by
  intro d
  induction d with
  | zero =>
    intro i f hi h
    exact br_t (cc_le 16 i (by omega)) h
  | succ d ih =>
    intro i f hi h
    refine br_f (cc_nle 16 i (by omega)) ⟨vp_in_nI (by omega) (by omega), ?_⟩
    refine nm_r (e' := upd f i 0) (by rw [nI_clamp (by omega)]) ?_
    refine nm_r (e' := nI (i + 1)) (nI_1 i) ?_
    exact ih (i + 1) (upd f i 0) (by omega) h

theorem cc_yr23 {post : SY → Prop} : ∀ (d i : Nat) (f : Nat → Int32), i + d = 8 → (∃ m, wY_restart_44 post f_time f_active f_running f_open f_depth f_tasks f_begun m 0 a_variables (cc_zr f d i) a_inputs a_outputs a_timerOn a_timerBegin a_timerElapsed a_timerDone a_counterLast a_counterValue a_counterDone a_edgeLast a_edgeDone a_sizes a_tokens a_ends a_wants a_numbers a_taskKind a_taskAt a_taskRounds a_taskLimit) → wY_restart_23 post f_time f_active f_running f_open f_depth f_tasks f_begun (d + 1) (nI i) a_variables f a_inputs a_outputs a_timerOn a_timerBegin a_timerElapsed a_timerDone a_counterLast a_counterValue a_counterDone a_edgeLast a_edgeDone a_sizes a_tokens a_ends a_wants a_numbers a_taskKind a_taskAt a_taskRounds a_taskLimit := by
  intro d
  induction d with
  | zero =>
    intro i f hi h
    exact br_t (cc_le 8 i (by omega)) h
  | succ d ih =>
    intro i f hi h
    refine br_f (cc_nle 8 i (by omega)) ⟨vp_in_nI (by omega) (by omega), ?_⟩
    refine nm_r (e' := upd f i 0) (by rw [nI_clamp (by omega)]) ?_
    refine nm_r (e' := nI (i + 1)) (nI_1 i) ?_
    exact ih (i + 1) (upd f i 0) (by omega) h

theorem cc_yr44 {post : SY → Prop} : ∀ (d i : Nat) (f : Nat → Int32), i + d = 4 → (∃ n64, wY_restart_64 post f_time f_active f_running f_open f_depth f_tasks f_begun n64 0 a_variables a_cells a_inputs (cc_zr f d i) a_timerOn a_timerBegin a_timerElapsed a_timerDone a_counterLast a_counterValue a_counterDone a_edgeLast a_edgeDone a_sizes a_tokens a_ends a_wants a_numbers a_taskKind a_taskAt a_taskRounds a_taskLimit) → wY_restart_44 post f_time f_active f_running f_open f_depth f_tasks f_begun (d + 1) (nI i) a_variables a_cells a_inputs f a_timerOn a_timerBegin a_timerElapsed a_timerDone a_counterLast a_counterValue a_counterDone a_edgeLast a_edgeDone a_sizes a_tokens a_ends a_wants a_numbers a_taskKind a_taskAt a_taskRounds a_taskLimit := by
  intro d
  induction d with
  | zero =>
    intro i f hi h
    exact br_t (cc_le 4 i (by omega)) h
  | succ d ih =>
    intro i f hi h
    refine br_f (cc_nle 4 i (by omega)) ⟨vp_in_nI (by omega) (by omega), ?_⟩
    refine nm_r (e' := upd f i 0) (by rw [nI_clamp (by omega)]) ?_
    refine nm_r (e' := nI (i + 1)) (nI_1 i) ?_
    exact ih (i + 1) (upd f i 0) (by omega) h

theorem cc_yr64 {post : SY → Prop} : ∀ (d i : Nat) (f0 f1 f2 f3 f4 f5 f6 f7 f8 : Nat → Int32), i + d = 3 → post (f_time, f_active, f_running, f_open, f_depth, f_tasks, f_begun, a_variables, a_cells, a_inputs, a_outputs, cc_zr f0 d i, cc_zr f1 d i, cc_zr f2 d i, cc_zr f3 d i, cc_zr f4 d i, cc_zr f5 d i, cc_zr f6 d i, cc_zr f7 d i, cc_zr f8 d i, a_sizes, a_tokens, a_ends, a_wants, a_numbers, a_taskKind, a_taskAt, a_taskRounds, a_taskLimit) → wY_restart_64 post f_time f_active f_running f_open f_depth f_tasks f_begun (d + 1) (nI i) a_variables a_cells a_inputs a_outputs f0 f1 f2 f3 f4 f5 f6 f7 f8 a_sizes a_tokens a_ends a_wants a_numbers a_taskKind a_taskAt a_taskRounds a_taskLimit := by
  intro d
  induction d with
  | zero =>
    intro i f0 f1 f2 f3 f4 f5 f6 f7 f8 hi h
    exact br_t (cc_le 3 i (by omega)) h
  | succ d ih =>
    intro i f0 f1 f2 f3 f4 f5 f6 f7 f8 hi h
    refine br_f (cc_nle 3 i (by omega)) ?_
    have hv : vp_in (nI i) 3 := vp_in_nI (by omega) (by omega)
    have hc : (nI i).toNatClampNeg = i := nI_clamp (by omega)
    refine ⟨hv, ?_⟩
    refine nm_r (e' := upd f0 i 0) (by rw [hc]; rw [cc_vb0]) ?_
    refine ⟨hv, ?_⟩
    refine nm_r (e' := upd f1 i 0) (by rw [hc]) ?_
    refine ⟨hv, ?_⟩
    refine nm_r (e' := upd f2 i 0) (by rw [hc]) ?_
    refine ⟨hv, ?_⟩
    refine nm_r (e' := upd f3 i 0) (by rw [hc]) ?_
    refine ⟨hv, ?_⟩
    refine nm_r (e' := upd f4 i 0) (by rw [hc]; rw [cc_vb0]) ?_
    refine ⟨hv, ?_⟩
    refine nm_r (e' := upd f5 i 0) (by rw [hc]) ?_
    refine ⟨hv, ?_⟩
    refine nm_r (e' := upd f6 i 0) (by rw [hc]) ?_
    refine ⟨hv, ?_⟩
    refine nm_r (e' := upd f7 i 0) (by rw [hc]; rw [cc_vb0]) ?_
    refine ⟨hv, ?_⟩
    refine nm_r (e' := upd f8 i 0) (by rw [hc]) ?_
    refine nm_r (e' := nI (i + 1)) (nI_1 i) ?_
    exact ih (i + 1) (upd f0 i 0) (upd f1 i 0) (upd f2 i 0) (upd f3 i 0) (upd f4 i 0) (upd f5 i 0) (upd f6 i 0) (upd f7 i 0) (upd f8 i 0) (by omega) h

theorem cc_yres {post : SY → Prop} (h : post (f_time, f_active, f_running, f_open, f_depth, f_tasks, f_begun, cc_zr a_variables 12 4, cc_zr a_cells 8 0, a_inputs, cc_zr a_outputs 4 0, cc_zr a_timerOn 3 0, cc_zr a_timerBegin 3 0, cc_zr a_timerElapsed 3 0, cc_zr a_timerDone 3 0, cc_zr a_counterLast 3 0, cc_zr a_counterValue 3 0, cc_zr a_counterDone 3 0, cc_zr a_edgeLast 3 0, cc_zr a_edgeDone 3 0, a_sizes, a_tokens, a_ends, a_wants, a_numbers, a_taskKind, a_taskAt, a_taskRounds, a_taskLimit)) : wpY_restart post (f_time, f_active, f_running, f_open, f_depth, f_tasks, f_begun, a_variables, a_cells, a_inputs, a_outputs, a_timerOn, a_timerBegin, a_timerElapsed, a_timerDone, a_counterLast, a_counterValue, a_counterDone, a_edgeLast, a_edgeDone, a_sizes, a_tokens, a_ends, a_wants, a_numbers, a_taskKind, a_taskAt, a_taskRounds, a_taskLimit) :=
  ⟨13, cc_yr2 12 4 a_variables rfl ⟨9, cc_yr23 8 0 a_cells rfl ⟨5, cc_yr44 4 0 a_outputs rfl ⟨4, cc_yr64 3 0 a_timerOn a_timerBegin a_timerElapsed a_timerDone a_counterLast a_counterValue a_counterDone a_edgeLast a_edgeDone rfl h⟩⟩⟩⟩

theorem cc_yd4 {post : Int32 → Prop} : ∀ (d i : Nat) (acc : Int32), i + d = 16 → (∃ m, wY_digest_31 post f_time f_active f_running f_open f_depth f_tasks f_begun a_variables a_cells a_inputs a_outputs a_timerOn a_timerBegin a_timerElapsed a_timerDone a_counterLast a_counterValue a_counterDone a_edgeLast a_edgeDone a_sizes a_tokens a_ends a_wants a_numbers a_taskKind a_taskAt a_taskRounds a_taskLimit m (cc_sm (fun j => (nI j + 1) * a_variables j) d i acc) 0) → wY_digest_4 post f_time f_active f_running f_open f_depth f_tasks f_begun a_variables a_cells a_inputs a_outputs a_timerOn a_timerBegin a_timerElapsed a_timerDone a_counterLast a_counterValue a_counterDone a_edgeLast a_edgeDone a_sizes a_tokens a_ends a_wants a_numbers a_taskKind a_taskAt a_taskRounds a_taskLimit (d + 1) acc (nI i) := by
  intro d
  induction d with
  | zero =>
    intro i acc hi h
    exact br_t (cc_le 16 i (by omega)) h
  | succ d ih =>
    intro i acc hi h
    refine br_f (cc_nle 16 i (by omega)) ⟨vp_in_nI (by omega) (by omega), ?_⟩
    refine nm_r (e' := acc + (nI i + 1) * a_variables i) (by rw [nI_clamp (by omega)]) ?_
    refine nm_r (e' := nI (i + 1)) (nI_1 i) ?_
    exact ih (i + 1) _ (by omega) h

theorem cc_yd31 {post : Int32 → Prop} : ∀ (d i : Nat) (acc : Int32), i + d = 8 → (∃ m, wY_digest_59 post f_time f_active f_running f_open f_depth f_tasks f_begun a_variables a_cells a_inputs a_outputs a_timerOn a_timerBegin a_timerElapsed a_timerDone a_counterLast a_counterValue a_counterDone a_edgeLast a_edgeDone a_sizes a_tokens a_ends a_wants a_numbers a_taskKind a_taskAt a_taskRounds a_taskLimit m (cc_sm (fun j => (nI j + 17) * a_cells j) d i acc) 0) → wY_digest_31 post f_time f_active f_running f_open f_depth f_tasks f_begun a_variables a_cells a_inputs a_outputs a_timerOn a_timerBegin a_timerElapsed a_timerDone a_counterLast a_counterValue a_counterDone a_edgeLast a_edgeDone a_sizes a_tokens a_ends a_wants a_numbers a_taskKind a_taskAt a_taskRounds a_taskLimit (d + 1) acc (nI i) := by
  intro d
  induction d with
  | zero =>
    intro i acc hi h
    exact br_t (cc_le 8 i (by omega)) h
  | succ d ih =>
    intro i acc hi h
    refine br_f (cc_nle 8 i (by omega)) ⟨vp_in_nI (by omega) (by omega), ?_⟩
    refine nm_r (e' := acc + (nI i + 17) * a_cells i) (by rw [nI_clamp (by omega)]) ?_
    refine nm_r (e' := nI (i + 1)) (nI_1 i) ?_
    exact ih (i + 1) _ (by omega) h

theorem cc_yd59 {post : Int32 → Prop} : ∀ (d i : Nat) (acc : Int32), i + d = 4 → (∃ m, wY_digest_86 post f_time f_active f_running f_open f_depth f_tasks f_begun a_variables a_cells a_inputs a_outputs a_timerOn a_timerBegin a_timerElapsed a_timerDone a_counterLast a_counterValue a_counterDone a_edgeLast a_edgeDone a_sizes a_tokens a_ends a_wants a_numbers a_taskKind a_taskAt a_taskRounds a_taskLimit m (cc_sm (fun j => (nI j + 25) * a_outputs j) d i acc) 0) → wY_digest_59 post f_time f_active f_running f_open f_depth f_tasks f_begun a_variables a_cells a_inputs a_outputs a_timerOn a_timerBegin a_timerElapsed a_timerDone a_counterLast a_counterValue a_counterDone a_edgeLast a_edgeDone a_sizes a_tokens a_ends a_wants a_numbers a_taskKind a_taskAt a_taskRounds a_taskLimit (d + 1) acc (nI i) := by
  intro d
  induction d with
  | zero =>
    intro i acc hi h
    exact br_t (cc_le 4 i (by omega)) h
  | succ d ih =>
    intro i acc hi h
    refine br_f (cc_nle 4 i (by omega)) ⟨vp_in_nI (by omega) (by omega), ?_⟩
    refine nm_r (e' := acc + (nI i + 25) * a_outputs i) (by rw [nI_clamp (by omega)]) ?_
    refine nm_r (e' := nI (i + 1)) (nI_1 i) ?_
    exact ih (i + 1) _ (by omega) h

theorem cc_yd86 {post : Int32 → Prop} : ∀ (d i : Nat) (acc : Int32), i + d = 15 → post (cc_sm (fun j => (nI j + 29) * cc_bk a_timerElapsed a_timerDone a_counterValue a_counterDone a_edgeDone (j / 5) (nI (j % 5))) d i acc) → wY_digest_86 post f_time f_active f_running f_open f_depth f_tasks f_begun a_variables a_cells a_inputs a_outputs a_timerOn a_timerBegin a_timerElapsed a_timerDone a_counterLast a_counterValue a_counterDone a_edgeLast a_edgeDone a_sizes a_tokens a_ends a_wants a_numbers a_taskKind a_taskAt a_taskRounds a_taskLimit (d + 1) acc (nI i) := by
  intro d
  induction d with
  | zero =>
    intro i acc hi h
    exact br_t (cc_le 15 i (by omega)) h
  | succ d ih =>
    intro i acc hi h
    refine br_f (cc_nle 15 i (by omega)) ⟨by decide, by decide, ?_⟩
    rw [show (nI i - nI i / 5 * 5) = nI (i % 5) from pk_rem (d := 5) (by omega) (by omega) (by omega), show nI i / 5 = nI (i / 5) from pk_div (d := 5) (by omega) (by omega) (by omega)]
    refine cc_ybk (by omega) ?_
    refine nm_e ?_
    refine nm_r (e' := nI (i + 1)) (nI_1 i) ?_
    exact ih (i + 1) _ (by omega) h

theorem cc_ydig {post : Int32 → Prop} (h : post (cc_sm (fun j => (nI j + 29) * cc_bk a_timerElapsed a_timerDone a_counterValue a_counterDone a_edgeDone (j / 5) (nI (j % 5))) 15 0 (cc_sm (fun j => (nI j + 25) * a_outputs j) 4 0 (cc_sm (fun j => (nI j + 17) * a_cells j) 8 0 (cc_sm (fun j => (nI j + 1) * a_variables j) 16 0 0))))) : wpY_digest post (f_time, f_active, f_running, f_open, f_depth, f_tasks, f_begun, a_variables, a_cells, a_inputs, a_outputs, a_timerOn, a_timerBegin, a_timerElapsed, a_timerDone, a_counterLast, a_counterValue, a_counterDone, a_edgeLast, a_edgeDone, a_sizes, a_tokens, a_ends, a_wants, a_numbers, a_taskKind, a_taskAt, a_taskRounds, a_taskLimit) :=
  ⟨17, cc_yd4 16 0 0 rfl ⟨9, cc_yd31 8 0 _ rfl ⟨5, cc_yd59 4 0 _ rfl ⟨16, cc_yd86 15 0 _ rfl h⟩⟩⟩⟩

end
end
section
theorem i_vc_restart {k : Nat} {u : SX} {v : SY} (I : i_Rel k u v) (hk : k + 3 ≤ 1536) : wpX_restart (fun u' => wpY_restart (fun v' => i_Rel (k + 3) u' v') v) u := by
  obtain ⟨T, N, a, f_time, f_running, f_pending, f_roundsBegun, f_open, f_depth, f_tasks, f_begun, a_variables, a_row, a_inputs, a_outputs, a_timerOn, a_timerBegin, a_timerElapsed, a_timerDone, a_counterLast, a_counterValue, a_counterDone, a_edgeLast, a_edgeDone, a_tokens, a_lengths, a_ends, a_worths, a_pendingPlaces, a_pendingRounds, a_pendingLimits, b_tokens, b_ends, b_wants, a_numbers, a_taskKind, a_taskAt, a_taskRounds, a_taskLimit, rfl, rfl, ⟨ha, hb01, heb, hpr, hrun⟩⟩ := I
  exact cc_xres (cc_yres (cc_rel ⟨ha, cc_zr_b01 hb01 3 0, heb, hpr, hrun⟩))

theorem i_vc_digest {k : Nat} {u : SX} {v : SY} (I : i_Rel k u v) (hk : k + 3 ≤ 1536) : wpX_digest (fun r => wpY_digest (fun r' => r' = r ∧ i_Rel (k + 3) u v) v) u := by
  have I' : i_Rel (k + 3) u v := I
  obtain ⟨T, N, a, f_time, f_running, f_pending, f_roundsBegun, f_open, f_depth, f_tasks, f_begun, a_variables, a_row, a_inputs, a_outputs, a_timerOn, a_timerBegin, a_timerElapsed, a_timerDone, a_counterLast, a_counterValue, a_counterDone, a_edgeLast, a_edgeDone, a_tokens, a_lengths, a_ends, a_worths, a_pendingPlaces, a_pendingRounds, a_pendingLimits, b_tokens, b_ends, b_wants, a_numbers, a_taskKind, a_taskAt, a_taskRounds, a_taskLimit, rfl, rfl, ⟨ha, hb01, heb, hpr, hrun⟩⟩ := I
  exact cc_xdig (cc_ydig ⟨rfl, I'⟩)
end
