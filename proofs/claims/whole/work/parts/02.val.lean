def cc_lf (va inp ou td te cv cd ed : Nat → Int32) (t : Nat) : Int32 :=
  if t < 120 then va (t - 100) else if t < 124 then inp (t - 120) else if t < 128 then ou (t - 124)
  else if t < 146 then td (t - 143) else if t < 149 then te (t - 146) else if t < 152 then cv (t - 149)
  else if t < 155 then cd (t - 152) else if t < 158 then ed (t - 155) else nI t - 250

def cc_op (ce : Nat → Int32) (t : Nat) (e f g : Int32) : Int32 :=
  if t = 128 then ce (e &&& 7).toNatClampNeg
  else if t = 130 then e + f else if t = 131 then e - f else if t = 132 then e * f
  else if t = 133 then (if f = 0 then 0 else e / f)
  else if t = 134 then (if f = 0 then 0 else e - e / f * f)
  else if t = 135 then (if e < f then 1 else 0)
  else if t = 136 then (if e = f then 1 else 0)
  else if t = 137 then (if e ≠ 0 ∧ f ≠ 0 then 1 else 0)
  else if t = 138 then (if e ≠ 0 ∨ f ≠ 0 then 1 else 0)
  else if t = 139 then (if e = 0 then 1 else 0)
  else if t = 140 then (if f < e then e else f)
  else if t = 141 then (if e < f then e else f)
  else (if e ≠ 0 then f else g)

def cc_vl (T : Nat → Nat) (n : Nat) (lf : Nat → Int32) (ce : Nat → Int32) (i : Nat) : Int32 :=
  if _h : i < n then
    (if cc_ar (T i) = 0 then lf (T i) else
      cc_op ce (T i) (cc_vl T n lf ce (i + 1)) (cc_vl T n lf ce (cc_en T (i + 1)))
        (cc_vl T n lf ce (cc_en T (cc_en T (i + 1)))))
  else 0
termination_by n - i
decreasing_by
  all_goals (have := cc_en_ge T (i + 1); have := cc_en_ge T (cc_en T (i + 1)); omega)

theorem cc_vl_0 {T : Nat → Nat} {n i : Nat} {lf ce : Nat → Int32} (hi : i < n) (ha : cc_ar (T i) = 0) :
    cc_vl T n lf ce i = lf (T i) := by
  rw [cc_vl, dif_pos hi, if_pos ha]

theorem cc_vl_s {T : Nat → Nat} {n i : Nat} {lf ce : Nat → Int32} (hi : i < n) (ha : cc_ar (T i) ≠ 0) :
    cc_vl T n lf ce i = cc_op ce (T i) (cc_vl T n lf ce (i + 1)) (cc_vl T n lf ce (cc_en T (i + 1)))
        (cc_vl T n lf ce (cc_en T (cc_en T (i + 1)))) := by
  rw [cc_vl, dif_pos hi, if_neg ha]

def cc_ns (T : Nat → Nat) (val : Nat → Int32) (num : Nat → Int32) : Nat → Nat → Prop
  | 0, _ => True
  | c + 1, pos => num c = val pos ∧ cc_ns T val num c (cc_en T pos)

theorem cc_u_s (f : Nat → Int32) (k : Nat) (x : Int32) : upd f k x k = x := by simp [upd]

theorem cc_u_n {f : Nat → Int32} {k j : Nat} {x : Int32} (h : j ≠ k) : upd f k x j = f j := by simp [upd, h]

theorem cc_u_id {f : Nat → Int32} {k : Nat} {x : Int32} (h : f k = x) : upd f k x = f := by
  funext j
  by_cases e : j = k
  · rw [e, cc_u_s, h]
  · rw [cc_u_n e]

theorem cc_ns_upd {T : Nat → Nat} {val num : Nat → Int32} {c pos k : Nat} {x : Int32} (hk : c ≤ k) (h : cc_ns T val num c pos) :
    cc_ns T val (upd num k x) c pos := by
  induction c generalizing pos with
  | zero => trivial
  | succ c ih =>
    refine ⟨?_, ih (by omega) h.2⟩
    rw [cc_u_n (by omega)]
    exact h.1

def cc_bI (b : Bool) : Int32 := if b = true then 1 else 0

def cc_sr (w : Nat → Int32) : List Bool → Prop
  | [] => True
  | b :: L => w L.length = cc_bI b ∧ cc_sr w L

theorem cc_sr_upd {w : Nat → Int32} {L : List Bool} {k : Nat} {x : Int32} (hk : L.length ≤ k) (h : cc_sr w L) : cc_sr (upd w k x) L := by
  induction L with
  | nil => trivial
  | cons b L ih =>
    simp only [List.length_cons] at hk
    refine ⟨?_, ih (by omega) h.2⟩
    rw [cc_u_n (by omega)]
    exact h.1

theorem cc_sr_tail {w : Nat → Int32} {L : List Bool} (h : cc_sr w L) : cc_sr w L.tail := by
  cases L with
  | nil => trivial
  | cons b L => exact h.2

def cc_nk (L : List Bool) : Nat :=
  match L with
  | [] => 0
  | b :: _ => if b = true then 1 else 2

def cc_xs (pp pr pl : Nat → Int32) : List (Nat × Nat × Int32) → Prop
  | [] => True
  | e :: L => pp L.length = nI e.1 ∧ pr L.length = nI e.2.1 - 1 ∧ pl L.length = e.2.2 ∧ cc_xs pp pr pl L

theorem cc_xs_upd {pp pr pl : Nat → Int32} {L : List (Nat × Nat × Int32)} {k : Nat} {x y z : Int32} (hk : L.length ≤ k) (h : cc_xs pp pr pl L) :
    cc_xs (upd pp k x) (upd pr k y) (upd pl k z) L := by
  induction L with
  | nil => trivial
  | cons e L ih =>
    simp only [List.length_cons] at hk
    refine ⟨?_, ?_, ?_, ih (by omega) h.2.2.2⟩
    · rw [cc_u_n (by omega)]; exact h.1
    · rw [cc_u_n (by omega)]; exact h.2.1
    · rw [cc_u_n (by omega)]; exact h.2.2.1

theorem cc_xs_updr {pp pr pl : Nat → Int32} {L : List (Nat × Nat × Int32)} {k : Nat} {y : Int32} (hk : L.length ≤ k) (h : cc_xs pp pr pl L) :
    cc_xs pp (upd pr k y) pl L := by
  induction L with
  | nil => trivial
  | cons e L ih =>
    simp only [List.length_cons] at hk
    refine ⟨h.1, ?_, h.2.2.1, ih (by omega) h.2.2.2⟩
    rw [cc_u_n (by omega)]; exact h.2.1

theorem cc_xs_push {pp pr pl : Nat → Int32} {L : List (Nat × Nat × Int32)} (q c : Nat) (l : Int32) (h : cc_xs pp pr pl L) :
    cc_xs (upd pp L.length (nI q)) (upd pr L.length (nI c - 1)) (upd pl L.length l) ((q, c, l) :: L) :=
  ⟨cc_u_s _ _ _, cc_u_s _ _ _, cc_u_s _ _ _, cc_xs_upd (Nat.le_refl _) h⟩

def cc_yk (c : Nat) : Int32 := if c = 0 then 0 else if c = 1 then 1 else 2

def cc_ys (a : Nat) (tk ta tr tl : Nat → Int32) : List (Nat × Nat × Int32) → Prop
  | [] => True
  | e :: L => tk L.length = cc_yk e.2.1 ∧ ta L.length = nI (60 * a + e.1) ∧ tr L.length = nI (e.2.1 - 2) ∧ tl L.length = e.2.2 ∧ cc_ys a tk ta tr tl L

theorem cc_ys_upd {a : Nat} {tk ta tr tl : Nat → Int32} {L : List (Nat × Nat × Int32)} {k : Nat} {x y z u : Int32} (hk : L.length ≤ k) (h : cc_ys a tk ta tr tl L) :
    cc_ys a (upd tk k x) (upd ta k y) (upd tr k z) (upd tl k u) L := by
  induction L with
  | nil => trivial
  | cons e L ih =>
    simp only [List.length_cons] at hk
    refine ⟨?_, ?_, ?_, ?_, ih (by omega) h.2.2.2.2⟩
    · rw [cc_u_n (by omega)]; exact h.1
    · rw [cc_u_n (by omega)]; exact h.2.1
    · rw [cc_u_n (by omega)]; exact h.2.2.1
    · rw [cc_u_n (by omega)]; exact h.2.2.2.1

theorem cc_ys_push {a : Nat} {tk ta tr tl : Nat → Int32} {L : List (Nat × Nat × Int32)} (q c : Nat) (l : Int32) (h : cc_ys a tk ta tr tl L) :
    cc_ys a (upd tk L.length (cc_yk c)) (upd ta L.length (nI (60 * a + q))) (upd tr L.length (nI (c - 2))) (upd tl L.length l) ((q, c, l) :: L) :=
  ⟨cc_u_s _ _ _, cc_u_s _ _ _, cc_u_s _ _ _, cc_u_s _ _ _, cc_ys_upd (Nat.le_refl _) h⟩

def cc_lp (t : Nat) : Prop := t = 36 ∨ t = 37 ∨ (40 ≤ t ∧ t ≤ 55)

def cc_so (T : Nat → Nat) (n : Nat) : List (Nat × Nat × Int32) → Nat → Nat → Prop
  | [], lo, hi => lo = 0 ∧ hi = n
  | e :: L, lo, hi => ∃ lo' hi', cc_so T n L lo' hi' ∧ lo' ≤ e.1 ∧ e.1 < n ∧ cc_en T e.1 ≤ hi' ∧ cc_st (T e.1) = true ∧ e.2.1 ≤ 21 ∧
      ((e.2.1 = 0 ∧ lo = lo' ∧ hi = e.1) ∨ (e.2.1 ≠ 0 ∧ lo = e.1 + 1 ∧ hi = cc_en T e.1 ∧ cc_lp (T e.1)))

theorem cc_so_len {T : Nat → Nat} {n : Nat} (w : cc_wh T n) {L : List (Nat × Nat × Int32)} {lo hi : Nat} (h : cc_so T n L lo hi) :
    lo ≤ hi ∧ hi ≤ n ∧ L.length + (hi - lo) ≤ n := by
  induction L generalizing lo hi with
  | nil =>
    obtain ⟨h1, h2⟩ := h
    subst h1 h2
    simp
  | cons e L ih =>
    obtain ⟨lo', hi', h1, h2, h3, h4, h5, h6, h7⟩ := h
    have g := ih h1
    have gt := cc_en_gt w h3
    simp only [List.length_cons]
    rcases h7 with ⟨_, rfl, rfl⟩ | ⟨_, rfl, rfl, _⟩
    · omega
    · omega

def cc_wt (T : Nat → Nat) : List (Nat × Nat × Int32) → Nat
  | [] => 0
  | e :: L => (if e.2.1 = 0 then 2 * (cc_en T e.1 - e.1) else 1) + cc_wt T L

def cc_n1 (L : List (Nat × Nat × Int32)) : Prop := ∀ e, e ∈ L → e.2.1 ≠ 1

def cc_lv : List (Nat × Nat × Int32) → List (Nat × Nat × Int32)
  | [] => []
  | e :: L => if e.2.1 = 0 then cc_lv L else L

theorem cc_lv_wt (T : Nat → Nat) (L : List (Nat × Nat × Int32)) : cc_wt T (cc_lv L) ≤ cc_wt T L := by
  induction L with
  | nil => simp [cc_lv]
  | cons e L ih =>
    simp only [cc_lv, cc_wt]
    split
    · omega
    · omega

theorem cc_lv_n1 {L : List (Nat × Nat × Int32)} (h : cc_n1 L) : cc_n1 (cc_lv L) := by
  induction L with
  | nil => exact h
  | cons e L ih =>
    have hL : cc_n1 L := fun x hx => h x (List.mem_cons_of_mem _ hx)
    simp only [cc_lv]
    split
    · exact ih hL
    · exact hL

theorem cc_lv_so {T : Nat → Nat} {n : Nat} {L : List (Nat × Nat × Int32)} {lo hi : Nat} (h : cc_so T n L lo hi) : ∃ lo' hi', cc_so T n (cc_lv L) lo' hi' := by
  induction L generalizing lo hi with
  | nil => exact ⟨lo, hi, h⟩
  | cons e L ih =>
    obtain ⟨lo', hi', h1, _⟩ := h
    simp only [cc_lv]
    split
    · exact ih h1
    · exact ⟨lo', hi', h1⟩

theorem cc_lv_xs {pp pr pl : Nat → Int32} {L : List (Nat × Nat × Int32)} (h : cc_xs pp pr pl L) : cc_xs pp pr pl (cc_lv L) := by
  induction L with
  | nil => exact h
  | cons e L ih =>
    simp only [cc_lv]
    split
    · exact ih h.2.2.2
    · exact h.2.2.2

theorem cc_lv_ys {a : Nat} {tk ta tr tl : Nat → Int32} {L : List (Nat × Nat × Int32)} (h : cc_ys a tk ta tr tl L) : cc_ys a tk ta tr tl (cc_lv L) := by
  induction L with
  | nil => exact h
  | cons e L ih =>
    simp only [cc_lv]
    split
    · exact ih h.2.2.2.2
    · exact h.2.2.2.2

theorem cc_ch {T : Nat → Nat} {n q k : Nat} (w : cc_wh T n) (hq : q < n) (hk : k < cc_ar (T q)) :
    q < cc_nx T k (q + 1) ∧ cc_nx T k (q + 1) < n ∧ cc_en T (cc_nx T k (q + 1)) ≤ cc_en T q ∧ cc_nx T k (q + 1) < cc_en T (cc_nx T k (q + 1)) := by
  have hp := cc_hpos w.1 hq
  have hs := cc_hs hp
  have a := cc_nx_F w hq (Nat.le_of_lt hk)
  have b := cc_nx_F (k := k + 1) w hq (by omega)
  have l := cc_nx_lt w hq hk
  have e := cc_en_h w hq
  have g := cc_en_gt w hq
  refine ⟨by have := a.1; omega, l, ?_, cc_en_gt w l⟩
  exact cc_F_le b (by omega) (by omega)

theorem cc_so_w {T : Nat → Nat} {n q k : Nat} {L : List (Nat × Nat × Int32)} {lo hi : Nat} (w : cc_wh T n) (h : cc_so T n L lo hi) (hlo : lo ≤ q) (hq : q < n) (hhi : cc_en T q ≤ hi)
    (hk : k < cc_ar (T q)) (hs : cc_ts (T q) k = true) (l : Int32) : cc_so T n ((cc_nx T k (q + 1), 0, l) :: L) lo (cc_nx T k (q + 1)) := by
  obtain ⟨c1, c2, c3, c4⟩ := cc_ch w hq hk
  exact ⟨lo, hi, h, by show lo ≤ cc_nx T k (q + 1); omega, c2, by show cc_en T (cc_nx T k (q + 1)) ≤ hi; omega, (cc_part w hq hk).trans hs, by show (0 : Nat) ≤ 21; omega, Or.inl ⟨rfl, rfl, rfl⟩⟩

theorem cc_so_l {T : Nat → Nat} {n q c : Nat} {L : List (Nat × Nat × Int32)} {lo hi : Nat} (h : cc_so T n L lo hi) (hlo : lo ≤ q) (hq : q < n) (hhi : cc_en T q ≤ hi)
    (hs : cc_st (T q) = true) (hl : cc_lp (T q)) (hc : c ≠ 0) (hc' : c ≤ 21) (l : Int32) : cc_so T n ((q, c, l) :: L) (q + 1) (cc_en T q) :=
  ⟨lo, hi, h, hlo, hq, hhi, hs, hc', Or.inr ⟨hc, rfl, rfl, hl⟩⟩

theorem cc_wt_ch {T : Nat → Nat} {n q k : Nat} (w : cc_wh T n) (hq : q < n) (hk : k < cc_ar (T q)) (l l' : Int32) (L : List (Nat × Nat × Int32)) :
    cc_wt T ((cc_nx T k (q + 1), 0, l) :: L) < cc_wt T ((q, 0, l') :: L) := by
  obtain ⟨c1, c2, c3, c4⟩ := cc_ch w hq hk
  simp only [cc_wt, if_true]
  omega

theorem cc_n1_cons {L : List (Nat × Nat × Int32)} {e : Nat × Nat × Int32} (h : cc_n1 L) (he : e.2.1 ≠ 1) : cc_n1 (e :: L) := by
  intro x hx
  rcases List.mem_cons.mp hx with h1 | h1
  · rw [h1]; exact he
  · exact h x h1
