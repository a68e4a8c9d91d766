/-! the component's calendar, each method with a general post -/
theorem cx_leap {post : Int32 → Prop} {y : Nat} (hy : y < 2 ^ 31) (h : post (nI (cc_L y))) : wpX_leap post (nI y) := by
  have e4 : nI y - nI y / 4 * 4 = nI (y % 4) := pk_rem (d := 4) hy (by decide) (by decide)
  have e1 : nI y - nI y / 100 * 100 = nI (y % 100) := pk_rem (d := 100) hy (by decide) (by decide)
  have e0 : nI y - nI y / 400 * 400 = nI (y % 400) := pk_rem (d := 400) hy (by decide) (by decide)
  unfold wpX_leap
  rw [e4, e1, e0]
  have h0 : ¬ (y % 4 = 0 ∧ (y % 100 ≠ 0 ∨ y % 400 = 0)) → post 0 := fun z => by
    rw [cc_L, if_neg z] at h; exact h
  have h1 : (y % 4 = 0 ∧ (y % 100 ≠ 0 ∨ y % 400 = 0)) → post 1 := fun z => by
    rw [cc_L, if_pos z] at h; exact h
  exact ⟨by decide, pk_eq (y % 4) 0 (fun a => ⟨by decide, pk_eq (y % 100) 0 (fun b => ⟨by decide, pk_eq (y % 400) 0 (fun c => h1 ⟨a, Or.inr c⟩) (fun c => h0 (by omega))⟩) (fun b => h1 ⟨a, Or.inl b⟩)⟩) (fun a => h0 (by omega))⟩
theorem cx_12 {m : Nat} {P : Nat → Prop} (h0 : 1 ≤ m) (h9 : m ≤ 12) (h1 : P 1) (h2 : P 2) (h3 : P 3) (h4 : P 4) (h5 : P 5) (h6 : P 6) (h7 : P 7) (h8 : P 8) (k9 : P 9) (h10 : P 10) (h11 : P 11) (h12 : P 12) : P m := by
  have e : m = 1 ∨ m = 2 ∨ m = 3 ∨ m = 4 ∨ m = 5 ∨ m = 6 ∨ m = 7 ∨ m = 8 ∨ m = 9 ∨ m = 10 ∨ m = 11 ∨ m = 12 := by omega
  rcases e with rfl | rfl | rfl | rfl | rfl | rfl | rfl | rfl | rfl | rfl | rfl | rfl <;> assumption
theorem cx_leap2 {post : Int32 → Prop} {l : Nat} (hl : l < 2) (h : post (nI (28 + l))) : (nI l = 0 → post 28) ∧ (¬ nI l = 0 → post 29) := by
  have e : l = 0 ∨ l = 1 := by omega
  rcases e with rfl | rfl
  · exact br_t (by decide) h
  · exact br_f (by decide) h
theorem cx_len {post : Int32 → Prop} {y m : Nat} (hy : y < 2 ^ 31) (h1 : 1 ≤ m) (h2 : m ≤ 12) (h : post (nI (cc_ln (cc_L y) m))) : wpX_lengthOfMonth post (nI y) (nI m) := by
  revert h
  refine cx_12 (P := fun m => post (nI (cc_ln (cc_L y) m)) → wpX_lengthOfMonth post (nI y) (nI m)) h1 h2 ?_ ?_ ?_ ?_ ?_ ?_ ?_ ?_ ?_ ?_ ?_ ?_
  · exact fun h => br_t (by decide) h
  · exact fun h => br_f (by decide) (br_f (by decide) (br_t (by decide) (cx_leap hy (cx_leap2 (cc_L2 y) h))))
  · exact fun h => br_f (by decide) (br_f (by decide) (br_f (by decide) (br_t (by decide) h)))
  · exact fun h => br_f (by decide) (br_f (by decide) (br_f (by decide) (br_f (by decide) (br_t (by decide) h))))
  · exact fun h => br_f (by decide) (br_f (by decide) (br_f (by decide) (br_f (by decide) (br_f (by decide) (br_t (by decide) h)))))
  · exact fun h => br_f (by decide) (br_f (by decide) (br_f (by decide) (br_f (by decide) (br_f (by decide) (br_f (by decide) (br_t (by decide) h))))))
  · exact fun h => br_f (by decide) (br_f (by decide) (br_f (by decide) (br_f (by decide) (br_f (by decide) (br_f (by decide) (br_f (by decide) (br_t (by decide) h)))))))
  · exact fun h => br_f (by decide) (br_f (by decide) (br_f (by decide) (br_f (by decide) (br_f (by decide) (br_f (by decide) (br_f (by decide) (br_f (by decide) (br_t (by decide) h))))))))
  · exact fun h => br_f (by decide) (br_f (by decide) (br_f (by decide) (br_f (by decide) (br_f (by decide) (br_f (by decide) (br_f (by decide) (br_f (by decide) (br_f (by decide) (br_t (by decide) h)))))))))
  · exact fun h => br_f (by decide) (br_f (by decide) (br_f (by decide) (br_f (by decide) (br_f (by decide) (br_f (by decide) (br_f (by decide) (br_f (by decide) (br_f (by decide) (br_f (by decide) (br_t (by decide) h))))))))))
  · exact fun h => br_f (by decide) (br_f (by decide) (br_f (by decide) (br_f (by decide) (br_f (by decide) (br_f (by decide) (br_f (by decide) (br_f (by decide) (br_f (by decide) (br_f (by decide) (br_f (by decide) (br_t (by decide) h)))))))))))
  · exact fun h => br_f (by decide) (br_t (by decide) h)
theorem cx_fdy {post : Int32 → Prop} {j : Nat} (hj : j ≤ 400) (h : post (nI (cc_Y j))) : wpX_firstDayOfYear post (nI (2000 + j)) := by
  have e0 : nI (2000 + j) - 2000 = nI j := by
    rw [show (2000 : Int32) = nI 2000 from rfl, pk_sub (by omega), show 2000 + j - 2000 = j by omega]
  have e1 : (nI j + 3) / 4 = nI ((j + 3) / 4) := by
    rw [show (3 : Int32) = nI 3 from rfl, show (4 : Int32) = nI 4 from rfl, nI_add, pk_div (by omega) (by decide) (by decide)]
  have e2 : (nI j + 99) / 100 = nI ((j + 99) / 100) := by
    rw [show (99 : Int32) = nI 99 from rfl, show (100 : Int32) = nI 100 from rfl, nI_add, pk_div (by omega) (by decide) (by decide)]
  have e3 : (nI j + 399) / 400 = nI ((j + 399) / 400) := by
    rw [show (399 : Int32) = nI 399 from rfl, show (400 : Int32) = nI 400 from rfl, nI_add, pk_div (by omega) (by decide) (by decide)]
  have e4 : ((nI j + 3) / 4 - (nI j + 99) / 100) + (nI j + 399) / 400 = nI ((j + 3) / 4 - (j + 99) / 100 + (j + 399) / 400) := by
    rw [e1, e2, e3, pk_sub (by omega), nI_add]
  have e5 : 365 * nI j + nI ((j + 3) / 4 - (j + 99) / 100 + (j + 399) / 400) = nI (cc_Y j) := by
    rw [show (365 : Int32) = nI 365 from rfl, pk_mul, nI_add]
    rfl
  unfold wpX_firstDayOfYear
  refine nm_r e0 ⟨by decide, by decide, by decide, nm_r e4 ?_⟩
  rw [e5]
  exact h
theorem cx_yom {post : Int32 → Prop} {n : Nat} (hn : n ≤ 4800) (h : post (nI (2000 + n / 12))) : wpX_yearOfMonth post (nI n) := by
  have e : 2000 + nI n / 12 = nI (2000 + n / 12) := by
    rw [show (2000 : Int32) = nI 2000 from rfl, show (12 : Int32) = nI 12 from rfl, pk_div (by omega) (by decide) (by decide), nI_add]
  refine ⟨by decide, ?_⟩
  rw [e]
  exact h
theorem cx_moy {post : Int32 → Prop} {n : Nat} (hn : n ≤ 4800) (h : post (nI (n % 12 + 1))) : wpX_monthOfYear post (nI n) := by
  have e : nI n - nI n / 12 * 12 + 1 = nI (n % 12 + 1) := by
    rw [show (12 : Int32) = nI 12 from rfl, pk_rem (by omega) (by decide) (by decide), nI_1]
  refine ⟨by decide, ?_⟩
  rw [e]
  exact h
theorem cx_mnum {post : Int32 → Prop} {j m : Nat} (hj : j ≤ 400) (hm : 1 ≤ m) (h : post (nI (12 * j + m - 1))) : wpX_monthNumber post (nI (2000 + j)) (nI m) := by
  have e : 12 * (nI (2000 + j) - 2000) + nI m - 1 = nI (12 * j + m - 1) := by
    rw [show (2000 : Int32) = nI 2000 from rfl, show (12 : Int32) = nI 12 from rfl, show (1 : Int32) = nI 1 from rfl, pk_sub (by omega), pk_mul, nI_add, pk_sub (by omega), show 2000 + j - 2000 = j by omega]
  show post (12 * (nI (2000 + j) - 2000) + nI m - 1)
  rw [e]
  exact h
theorem cx_fd {post : Int32 → Prop} {j e : Nat} (hj : j ≤ 400) (he : e < 12) (h : post (nI (cc_MF (12 * j + e)))) : ∀ n m, m ≤ e → e - m < n → wX_firstDayOf_18 post (nI (2000 + j)) (nI (e + 1)) n (nI (cc_MF (12 * j + m))) (nI (m + 1)) := by
  intro n
  induction n with
  | zero => intro m _ h2; omega
  | succ n ih =>
    intro m h1 h2
    refine pk_le (e + 1) (m + 1) (fun a => ?_) (fun a => ?_)
    · rw [show m = e by omega]
      exact h
    · refine cx_len (by omega) (by omega) (by omega) ?_
      have hi := ih (m + 1) (by omega) (by omega)
      refine nm_r ?_ (nm_r (nI_1 (m + 1)) hi)
      rw [nI_add]
      exact congrArg nI (by
        show _ = cc_MF (12 * j + m) + cc_ln (cc_L (2000 + (12 * j + m) / 12)) ((12 * j + m) % 12 + 1)
        rw [show (12 * j + m) / 12 = j by omega, show (12 * j + m) % 12 = m by omega])
theorem cx_first {post : Int32 → Prop} {n : Nat} (hn : n ≤ 4800) (h : post (nI (cc_MF n))) : wpX_firstDayOf post (nI n) := by
  have e : 12 * (n / 12) + n % 12 = n := by omega
  rw [← e] at h
  have hc := cx_fd (j := n / 12) (e := n % 12) (by omega) (by omega) h 13 0 (by omega) (by omega)
  rw [show 12 * (n / 12) + 0 = 12 * (n / 12) from rfl, cc_MFY] at hc
  exact cx_yom hn (cx_moy hn (cx_fdy (by omega) ⟨_, hc⟩))
theorem cx_yearOf {post : Int32 → Prop} {d : Nat} (hd : d < 146097) (h : post (nI (2000 + cc_yr d))) : wpX_yearOf post (nI d) := by
  have e : 2000 + nI d / 365 = nI (2000 + d / 365) := by
    rw [show (2000 : Int32) = nI 2000 from rfl, show (365 : Int32) = nI 365 from rfl, pk_div (by omega) (by decide) (by decide), nI_add]
  have hb := cc_Y_b (j := d / 365) (by omega)
  have e0 : cc_Y 0 = 0 := rfl
  refine ⟨by decide, nm_r e (cx_fdy (by omega) ?_)⟩
  refine pk_le (cc_Y (d / 365)) d (fun a => ?_) (fun a => ?_)
  · rw [cc_yr, if_neg (by omega)] at h
    exact h
  · rw [cc_yr, if_pos a] at h
    have hp : 1 ≤ d / 365 := by
      rcases Nat.eq_zero_or_pos (d / 365) with z | z
      · rw [z, e0] at a; omega
      · exact z
    rw [show (1 : Int32) = nI 1 from rfl, pk_sub (by omega), show 2000 + d / 365 - 1 = 2000 + (d / 365 - 1) by omega]
    exact h
theorem cx_mno {post : Int32 → Prop} {d : Nat} (hd : d < 146097) (h : post (nI (cc_mo d))) : wpX_monthNumberOf post (nI d) := by
  obtain ⟨a, b, c⟩ := cc_yr_s hd
  have hg := (cc_mo_s hd).2.2.2.2
  have hm := cc_MF_le (n := cc_g d + 1) (by omega)
  have e1 : nI d - nI (cc_Y (cc_yr d)) = nI (d - cc_Y (cc_yr d)) := pk_sub a
  have e2 : nI (12 * cc_yr d + 1 - 1) + nI (d - cc_Y (cc_yr d)) / 31 = nI (cc_g d) := by
    rw [show (31 : Int32) = nI 31 from rfl, pk_div (by omega) (by decide) (by decide), nI_add]
    rfl
  refine cx_yearOf hd (cx_fdy (by omega) (nm_r e1 (cx_mnum (m := 1) (by omega) (by omega) ⟨by decide, nm_r e2 ?_⟩)))
  rw [nI_1]
  refine cx_first (by omega) ?_
  refine pk_le (cc_MF (cc_g d + 1)) d (fun z => ?_) (fun z => ?_)
  · rw [cc_mo, if_neg (by omega)] at h
    exact h
  · rw [cc_mo, if_pos z] at h
    exact h
theorem cx_wd {post : Int32 → Prop} {d : Nat} (hd : d < 146097) (h : post (nI ((d + 6) % 7))) : wpX_weekdayOf post (nI d) := by
  have e : (nI d + 6) - (nI d + 6) / 7 * 7 = nI ((d + 6) % 7) := by
    rw [show (6 : Int32) = nI 6 from rfl, show (7 : Int32) = nI 7 from rfl, nI_add, pk_rem (by omega) (by decide) (by decide)]
  refine ⟨by decide, ?_⟩
  rw [e]
  exact h
theorem cx_dpy {post : Int32 → Prop} {d : Nat} (hd : d < 146097) (h : post (nI (d - cc_Y (cc_yr d)))) : wpX_daysPassedInYear post (nI d) := by
  obtain ⟨a, b, c⟩ := cc_yr_s hd
  refine cx_yearOf hd (cx_fdy (by omega) ?_)
  rw [pk_sub a]
  exact h
/-! makeFull -/
theorem cx_mf {post : SX → Prop} {w : Nat → Int64} {b : Nat → Int32} {p f : Nat} (hp : p < 20) (h : ∀ m, (∀ i, i < 64 → cb_b m i = decide (cc_lo f ≤ i ∧ i ≤ cc_hi f)) → post (vp_updL w p m, upd b p 1)) : ∀ n v (m : Int64), cc_lo f ≤ v → v ≤ cc_hi f + 1 → cc_hi f + 1 - v < n → (∀ i, i < 64 → cb_b m i = decide (cc_lo f ≤ i ∧ i < v)) → wX_makeFull_21 post (nI p) (nI (cc_hi f)) w b n m (nI v) := by
  have hh := cc_hi_b f
  intro n
  induction n with
  | zero => intro v m _ _ h2; omega
  | succ n ih =>
    intro v m h0 h1 h2 hm
    refine pk_lt (cc_hi f) v (fun a => ?_) (fun a => ?_)
    · refine ⟨vp_in_nI hp (by decide), nm_e ⟨vp_in_nI hp (by decide), nm_e ?_⟩⟩
      rw [nI_clamp (by omega)]
      refine h m (fun i hi => ?_)
      rw [hm i hi]
      exact decide_eq_decide.mpr (by omega)
    · refine nm_e (nm_r (nI_1 v) (ih (v + 1) _ (by omega) (by omega) (by omega) (fun i hi => ?_)))
      rw [cb_or _ i (by omega), hm i hi]
      by_cases z : v = i
      · rw [decide_eq_true z, Bool.or_true]
        exact (decide_eq_true (by omega)).symm
      · rw [decide_eq_false z, Bool.or_false]
        exact decide_eq_decide.mpr (by omega)
theorem cx_makeFull {post : SX → Prop} {w : Nat → Int64} {b : Nat → Int32} {r f : Nat} (hr : r < 4) (hf : f < 5) (h : ∀ m, (∀ i, i < 64 → cb_b m i = decide (cc_lo f ≤ i ∧ i ≤ cc_hi f)) → post (vp_updL w (5 * r + f) m, upd b (5 * r + f) 1)) : wpX_makeFull post (w, b) (nI r) (nI f) := by
  have hh := cc_hi_b f
  have hl := cc_lo_b f
  unfold wpX_makeFull
  dsimp only
  exact cx_place (cx_hi hf (cx_lo hf ⟨_, cx_mf (by omega) h (cc_hi f + 2) (cc_lo f) 0 (by omega) (by omega) (by omega) (fun i hi => by rw [cb_0]; exact (decide_eq_false (by omega)).symm)⟩))
