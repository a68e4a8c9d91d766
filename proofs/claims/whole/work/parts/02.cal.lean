/-! the calendar as numbers: cc_L the leap day, cc_ln a month's length, cc_MF the first day of a month number, cc_Y of a year -/
def cc_L (y : Nat) : Nat := if y % 4 = 0 ∧ (y % 100 ≠ 0 ∨ y % 400 = 0) then 1 else 0
theorem cc_L2 (y : Nat) : cc_L y < 2 := by unfold cc_L; split <;> omega
def cc_ln (l m : Nat) : Nat := if m = 2 then 28 + l else if m = 4 ∨ m = 6 ∨ m = 9 ∨ m = 11 then 30 else 31
theorem cc_ln_b {l : Nat} (hl : l < 2) (m : Nat) : 28 ≤ cc_ln l m ∧ cc_ln l m ≤ 31 := by
  unfold cc_ln
  split
  · omega
  · split <;> omega
def cc_C (l : Nat) : Nat → Nat
  | 0 => 0
  | m + 1 => cc_C l m + cc_ln l (m + 1)
def cc_MF : Nat → Nat
  | 0 => 0
  | n + 1 => cc_MF n + cc_ln (cc_L (2000 + n / 12)) (n % 12 + 1)
def cc_Y (j : Nat) : Nat := 365 * j + ((j + 3) / 4 - (j + 99) / 100 + (j + 399) / 400)
theorem cc_Y_s (j : Nat) : cc_Y (j + 1) = cc_Y j + 365 + cc_L (2000 + j) := by
  unfold cc_Y cc_L
  split <;> omega
theorem cc_Y_b {j : Nat} (h : j ≤ 401) : 365 * j ≤ cc_Y j ∧ cc_Y j ≤ 365 * j + 98 := by
  unfold cc_Y
  omega
theorem cc_Y_lt (j : Nat) : cc_Y j + 365 ≤ cc_Y (j + 1) := by rw [cc_Y_s]; omega
theorem cc_Y_mono {a b : Nat} (h : a ≤ b) : cc_Y a ≤ cc_Y b := by
  induction h with
  | refl => exact Nat.le_refl _
  | step _ ih => exact Nat.le_trans ih (Nat.le_trans (Nat.le_add_right _ 365) (cc_Y_lt _))
theorem cc_Y400 : cc_Y 400 = 146097 := by decide
theorem cc_C12 {l : Nat} (hl : l < 2) : cc_C l 12 = 365 + l := by
  have h : l = 0 ∨ l = 1 := by omega
  rcases h with rfl | rfl <;> rfl
theorem cc_C_b : ∀ l, l < 2 → ∀ m, m < 12 → cc_C l m ≤ 31 * m := by decide
theorem cc_C_c : ∀ l, l < 2 → ∀ m, m < 11 → 31 * (m + 1) ≤ cc_C l (m + 2) := by decide
theorem cc_MFm (j : Nat) : ∀ m, m ≤ 12 → cc_MF (12 * j + m) = cc_MF (12 * j) + cc_C (cc_L (2000 + j)) m := by
  intro m
  induction m with
  | zero => intro _; rfl
  | succ m ih =>
    intro h
    show cc_MF (12 * j + m) + cc_ln (cc_L (2000 + (12 * j + m) / 12)) ((12 * j + m) % 12 + 1) = cc_MF (12 * j) + (cc_C (cc_L (2000 + j)) m + cc_ln (cc_L (2000 + j)) (m + 1))
    rw [ih (by omega), show (12 * j + m) / 12 = j by omega, show (12 * j + m) % 12 = m by omega, Nat.add_assoc]
theorem cc_MFY (j : Nat) : cc_MF (12 * j) = cc_Y j := by
  induction j with
  | zero => rfl
  | succ j ih =>
    rw [show 12 * (j + 1) = 12 * j + 12 by omega, cc_MFm j 12 (by omega), cc_C12 (cc_L2 _), ih, cc_Y_s]
    omega
theorem cc_MFc (j m : Nat) (h : m ≤ 12) : cc_MF (12 * j + m) = cc_Y j + cc_C (cc_L (2000 + j)) m := by rw [cc_MFm j m h, cc_MFY]
theorem cc_end : cc_MF 4800 = 146097 := by
  have h := cc_MFY 400
  rw [cc_Y400] at h
  exact h
theorem cc_MF_s (n : Nat) : cc_MF n + 28 ≤ cc_MF (n + 1) ∧ cc_MF (n + 1) ≤ cc_MF n + 31 := by
  have h := cc_ln_b (cc_L2 (2000 + n / 12)) (n % 12 + 1)
  have e : cc_MF (n + 1) = cc_MF n + cc_ln (cc_L (2000 + n / 12)) (n % 12 + 1) := rfl
  omega
theorem cc_MF_mono {a b : Nat} (h : a ≤ b) : cc_MF a ≤ cc_MF b := by
  induction h with
  | refl => exact Nat.le_refl _
  | step _ ih => exact Nat.le_trans ih (Nat.le_trans (Nat.le_add_right _ 28) (cc_MF_s _).1)
theorem cc_uniq {d a b : Nat} (h1 : cc_MF a ≤ d) (h2 : d < cc_MF (a + 1)) (h3 : cc_MF b ≤ d) (h4 : d < cc_MF (b + 1)) : a = b := by
  rcases Nat.lt_trichotomy a b with h | h | h
  · have := cc_MF_mono (show a + 1 ≤ b by omega); omega
  · exact h
  · have := cc_MF_mono (show b + 1 ≤ a by omega); omega
def cc_yr (d : Nat) : Nat := if d < cc_Y (d / 365) then d / 365 - 1 else d / 365
theorem cc_yr_s {d : Nat} (h : d < 146097) : cc_Y (cc_yr d) ≤ d ∧ d < cc_Y (cc_yr d + 1) ∧ cc_yr d < 400 := by
  have h1 : 365 * (d / 365) ≤ d ∧ d < 365 * (d / 365) + 365 := by omega
  unfold cc_yr
  generalize d / 365 = q at h1 ⊢
  have hq : q ≤ 400 := by omega
  have b0 := cc_Y_b (show q ≤ 401 by omega)
  have b1 := cc_Y_b (show q + 1 ≤ 401 by omega)
  have e0 : cc_Y 0 = 0 := rfl
  have e4 := cc_Y400
  split
  · rename_i h2
    cases q with
    | zero => omega
    | succ p =>
      have b2 := cc_Y_b (show p ≤ 401 by omega)
      rw [Nat.add_sub_cancel]
      exact ⟨by omega, h2, by omega⟩
  · rename_i h2
    refine ⟨by omega, by omega, ?_⟩
    rcases Nat.lt_or_ge q 400 with h3 | h3
    · exact h3
    · have h4 : q = 400 := by omega
      subst h4
      omega
theorem cc_yr_u {d j : Nat} (h : d < 146097) (h1 : cc_Y j ≤ d) (h2 : d < cc_Y (j + 1)) : cc_yr d = j := by
  obtain ⟨a, b, _⟩ := cc_yr_s h
  generalize cc_yr d = i at a b ⊢
  rcases Nat.lt_trichotomy i j with h | h | h
  · have := cc_Y_mono (show i + 1 ≤ j by omega); omega
  · exact h
  · have := cc_Y_mono (show j + 1 ≤ i by omega); omega
/-- the guess of the month number -/
def cc_g (d : Nat) : Nat := 12 * cc_yr d + (d - cc_Y (cc_yr d)) / 31
def cc_mo (d : Nat) : Nat := if d < cc_MF (cc_g d + 1) then cc_g d else cc_g d + 1
theorem cc_mo_s {d : Nat} (h : d < 146097) : cc_MF (cc_mo d) ≤ d ∧ d < cc_MF (cc_mo d + 1) ∧ cc_mo d < 4800 ∧ cc_mo d / 12 = cc_yr d ∧ cc_g d < 4800 := by
  obtain ⟨a, b, c⟩ := cc_yr_s h
  unfold cc_mo cc_g
  generalize cc_yr d = j at a b c ⊢
  have hl := cc_L2 (2000 + j)
  have e := cc_Y_s j
  have c0 : ∀ m, m ≤ 12 → _ := fun m hm => cc_MFc j m hm
  have k12 := cc_C12 hl
  generalize cc_L (2000 + j) = l at hl e c0 k12
  have hp : 31 * ((d - cc_Y j) / 31) ≤ d - cc_Y j ∧ d - cc_Y j < 31 * ((d - cc_Y j) / 31) + 31 := by omega
  generalize (d - cc_Y j) / 31 = m at hp ⊢
  have hm : m ≤ 11 := by omega
  have a0 := c0 m (by omega)
  have a1 := c0 (m + 1) (by omega)
  have b0 := cc_C_b l hl m (by omega)
  rw [← Nat.add_assoc] at a1
  split
  · rename_i h2
    exact ⟨by omega, h2, by omega, by omega, by omega⟩
  · rename_i h2
    rcases Nat.lt_or_ge m 11 with h3 | h3
    · have a2 := c0 (m + 2) (by omega)
      have b2 := cc_C_c l hl m h3
      rw [← Nat.add_assoc] at a2
      exact ⟨by omega, by rw [show 12 * j + m + 1 + 1 = 12 * j + m + 2 by omega]; omega, by omega, by omega, by omega⟩
    · have h4 : m = 11 := by omega
      subst h4
      rw [show (11 + 1 : Nat) = 12 from rfl] at a1
      omega
/-- day d is the k-th of month number n -/
def cc_At (d n : Nat) : Prop := cc_MF n ≤ d ∧ d < cc_MF (n + 1) ∧ n < 4800
theorem cc_at {d : Nat} (h : d < 146097) : cc_At d (cc_mo d) := ⟨(cc_mo_s h).1, (cc_mo_s h).2.1, (cc_mo_s h).2.2.1⟩
theorem cc_at_d {d n : Nat} (h : cc_At d n) : d < 146097 := by
  have h1 := h.2.1
  have h2 := cc_MF_mono (show n + 1 ≤ 4800 from h.2.2)
  rw [cc_end] at h2
  omega
theorem cc_at_u {d n : Nat} (h : cc_At d n) : cc_mo d = n := by
  have h2 := cc_at (cc_at_d h)
  exact cc_uniq h2.1 h2.2.1 h.1 h.2.1
theorem cc_MF_le {n : Nat} (h : n ≤ 4800) : cc_MF n ≤ 146097 := by
  have h2 := cc_MF_mono h
  rw [cc_end] at h2
  exact h2
/-! counting -/
def cc_cnt (f : Nat → Bool) : Nat → Nat
  | 0 => 0
  | n + 1 => cc_cnt f n + (if f n then 1 else 0)
theorem cc_cnt_le (f : Nat → Bool) (n : Nat) : cc_cnt f n ≤ n := by
  induction n with
  | zero => exact Nat.le_refl _
  | succ n ih =>
    show cc_cnt f n + (if f n then 1 else 0) ≤ n + 1
    split <;> omega
theorem cc_cnt_t {f : Nat → Bool} {n : Nat} (h : f n = true) : cc_cnt f (n + 1) = cc_cnt f n + 1 := by
  show cc_cnt f n + (if f n then 1 else 0) = _
  rw [if_pos h]
theorem cc_cnt_f {f : Nat → Bool} {n : Nat} (h : f n = false) : cc_cnt f (n + 1) = cc_cnt f n := by
  show cc_cnt f n + (if f n then 1 else 0) = _
  rw [if_neg (by rw [h]; decide)]
  rfl
theorem cc_cnt_0 {f : Nat → Bool} {a n : Nat} (h : ∀ i, a ≤ i → i < n → f i = false) (ha : a ≤ n) : cc_cnt f n = cc_cnt f a := by
  induction ha with
  | refl => rfl
  | step hm ih =>
    rename_i m
    rw [cc_cnt_f (h m hm (Nat.lt_succ_self m))]
    exact ih (fun i h1 h2 => h i h1 (by omega))
theorem cc_cnt_e {f g : Nat → Bool} {n : Nat} (h : ∀ i, i < n → f i = g i) : cc_cnt f n = cc_cnt g n := by
  induction n with
  | zero => rfl
  | succ n ih =>
    show cc_cnt f n + (if f n then 1 else 0) = cc_cnt g n + (if g n then 1 else 0)
    rw [ih (fun i hi => h i (by omega)), h n (by omega)]
theorem cc_cnt_p {f g : Nat → Bool} (i k : Nat) (hk : k ≤ 60) : cc_cnt (fun t => f (t / 60) && g (t % 60)) (60 * i + k) = cc_cnt (fun t => f (t / 60) && g (t % 60)) (60 * i) + (if f i then cc_cnt g k else 0) := by
  induction k with
  | zero =>
    show _ = _ + (if f i then 0 else 0)
    split <;> rfl
  | succ k ih =>
    show cc_cnt _ (60 * i + k) + (if (f ((60 * i + k) / 60) && g ((60 * i + k) % 60)) then 1 else 0) = _ + (if f i then cc_cnt g k + (if g k then 1 else 0) else 0)
    rw [ih (by omega), show (60 * i + k) / 60 = i by omega, show (60 * i + k) % 60 = k by omega]
    cases f i <;> cases g k <;> simp [Nat.add_assoc]
theorem cc_cnt_m {f g : Nat → Bool} (i : Nat) : cc_cnt (fun t => f (t / 60) && g (t % 60)) (60 * i) = cc_cnt f i * cc_cnt g 60 := by
  induction i with
  | zero => rw [Nat.mul_zero]; show 0 = 0 * _; rw [Nat.zero_mul]
  | succ i ih =>
    rw [show 60 * (i + 1) = 60 * i + 60 by omega, cc_cnt_p i 60 (by omega), ih]
    show _ = (cc_cnt f i + (if f i then 1 else 0)) * _
    cases f i <;> simp [Nat.add_mul]
