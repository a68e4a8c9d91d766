/-! week, addMonths, nth -/
theorem cw_e7 {d : Nat} (hd : d < 2 ^ 30) (c : Nat) (hc : c < 2 ^ 30) : nI d + nI c - (nI d + nI c) / 7 * 7 = nI ((d + c) % 7) := by
  rw [show (7 : Int32) = nI 7 from rfl, nI_add, pk_rem (by omega) (by decide) (by decide)]
/-- what week answers for the Thursday t -/
def cw_v (t : Nat) : Int32 := 100 * nI (2000 + cc_yr t) + nI ((t - cc_Y (cc_yr t)) / 7 + 1)
theorem cx_week {post : Int32 → Prop} {w : Nat → Int64} {b : Nat → Int32} {d : Nat} (hd : d < 146097) (h2 : 2 ≤ d) (h : post (cw_v (d - (d + 5) % 7 + 3))) : wpX_week post (w, b) (nI d) := by
  have hy := cc_yr_s (d := d - (d + 5) % 7 + 3) (by omega)
  have e1 : nI ((d + 6) % 7) + 6 - (nI ((d + 6) % 7) + 6) / 7 * 7 = nI ((d + 5) % 7) := by
    rw [show (6 : Int32) = nI 6 from rfl, cw_e7 (by omega) 6 (by decide)]
    exact congrArg nI (by omega)
  have e2 : nI d - nI ((d + 5) % 7) + 3 = nI (d - (d + 5) % 7 + 3) := by
    rw [pk_sub (by omega), show (3 : Int32) = nI 3 from rfl, nI_add]
  unfold wpX_week
  dsimp only
  refine cx_day (fun _ => br_f (by decide) ?_) (fun c => absurd ⟨d, hd, rfl⟩ c)
  refine cx_wd hd ⟨by decide, nm_r e1 (nm_r e2 ?_)⟩
  refine cx_day (fun _ => br_f (by decide) ?_) (fun c => absurd ⟨_, by omega, rfl⟩ c)
  refine cx_yearOf (by omega) (cx_dpy (by omega) ⟨by decide, ?_⟩)
  unfold cw_v at h
  rw [show (7 : Int32) = nI 7 from rfl, pk_div (by omega) (by decide) (by decide), Int32.add_assoc, nI_1]
  exact h
section
variable {m k : Int32} {o b : Nat → Int32}
theorem cy_yearOf {post : Int32 → SY → Prop} {y : Int32} {d : Nat} (hd : d < 146097) (h : ∀ y' m' k', post (nI (2000 + cc_yr d)) (y', m', k', o, b)) : wpY_yearOf post (y, m, k, o, b) (nI d) := by
  unfold wpY_yearOf
  dsimp only
  refine cy_split hd ?_
  rw [(cc_mo_s hd).2.2.2.1]
  exact h _ _ _
theorem cy_w93 {post : Int32 → SY → Prop} {y : Int32} {t a : Nat} {x2 x3 : Int32} (ht : t < 146097) (ea : t = 5 + 7 * a) (e2 : x2 + 3 = nI t) (h : ∀ y' m' k', post (100 * x3 + nI (a + 1)) (y', m', k', o, b)) : ∀ n i, i ≤ a + 1 → a + 1 - i < n → wY_week_93 post x2 x3 y m k o b n (nI i) (nI (5 + 7 * i)) := by
  intro n
  induction n with
  | zero => intro i _ h2; omega
  | succ n ih =>
    intro i h1 h2
    unfold wY_week_93
    rw [e2]
    refine pk_lt t (5 + 7 * i) (fun z => ?_) (fun z => ?_)
    · rw [show i = a + 1 by omega]
      exact h _ _ _
    · refine nm_r (nI_1 i) (nm_r ?_ (ih (i + 1) (by omega) (by omega)))
      rw [show (7 : Int32) = nI 7 from rfl, nI_add]
      exact congrArg nI (by omega)
theorem cy_w38 {post : Int32 → SY → Prop} {t a : Nat} {x2 : Int32} (ht : t < 146097) (ea : t = 5 + 7 * a) (e2 : x2 + 3 = nI t) (h : ∀ y' m' k', post (cw_v t) (y', m', k', o, b)) : ∀ n i (y m k : Int32), i ≤ 54 → 54 - i < n → wY_week_38 post x2 (nI (2000 + cc_yr t)) n (nI (if 7 * i ≤ t - cc_Y (cc_yr t) then i else (t - cc_Y (cc_yr t)) / 7 + 1)) (nI i) y m k o b := by
  have hy := cc_yr_s ht
  have hl := cc_L2 (2000 + cc_yr t)
  have hY := cc_Y_s (cc_yr t)
  intro n
  induction n with
  | zero => intro i _ _ _ _ h2; omega
  | succ n ih =>
    intro i y m k h1 h2
    unfold wY_week_38
    refine pk_le 54 i (fun z => ?_) (fun z => ?_)
    · rw [if_neg (by omega)]
      refine pk_eq (2000 + cc_yr t) 2000 (fun q => ?_) (fun q => h _ _ _)
      have e0 : cc_Y 0 = 0 := rfl
      have ey : cc_yr t = 0 := by omega
      unfold cw_v at h
      rw [ey, e0, show (t - 0) / 7 + 1 = a + 1 by omega] at h
      rw [ey]
      exact ⟨_, cy_w93 ht ea e2 h (a + 2) 0 (by omega) (by omega)⟩
    · have e7 : 7 * nI i = nI (7 * i) := by rw [show (7 : Int32) = nI 7 from rfl, pk_mul]
      rw [e2, e7]
      rcases Nat.lt_or_ge t (7 * i) with q | q
      · refine nm_e (br_t (pk_sneg (by omega) q) (nm_r (nI_1 i) ?_))
        have hi := ih (i + 1) y m k (by omega) (by omega)
        rw [if_neg (by omega)] at hi
        rw [if_neg (by omega)]
        exact hi
      · refine nm_r (pk_sub q) (br_f (nI_pos (by omega)) (cy_yearOf (by omega) (fun y' m' k' => ?_)))
        have hi := ih (i + 1) y' m' k' (by omega) (by omega)
        rcases Nat.lt_or_ge (t - cc_Y (cc_yr t)) (7 * i) with p | p
        · rw [if_neg (by omega)] at hi
          rw [if_neg (by omega)]
          refine br_f ?_ (nm_r (nI_1 i) hi)
          intro e
          have e' := (nI_eq (by have := (cc_yr_s (d := t - 7 * i) (by omega)).2.2; omega) (by omega)).mp e
          have e'' : cc_yr (t - 7 * i) = cc_yr t := by omega
          have := (cc_yr_s (d := t - 7 * i) (by omega)).1
          rw [e''] at this
          omega
        · have e : cc_yr (t - 7 * i) = cc_yr t := cc_yr_u (by omega) (by omega) (by omega)
          rw [if_pos p]
          refine br_t (by rw [e]) (nm_r (nI_1 i) (nm_r (nI_1 i) ?_))
          rcases Nat.lt_or_ge (t - cc_Y (cc_yr t)) (7 * (i + 1)) with p2 | p2
          · rw [if_neg (by omega), show (t - cc_Y (cc_yr t)) / 7 + 1 = i + 1 by omega] at hi
            exact hi
          · rw [if_pos p2] at hi
            exact hi
theorem cy_week {post : Int32 → SY → Prop} {y : Int32} {d : Nat} (hd : d < 146097) (h2 : 2 ≤ d) (h : ∀ y' m' k', post (cw_v (d - (d + 5) % 7 + 3)) (y', m', k', o, b)) : wpY_week post (y, m, k, o, b) (nI d) := by
  have e1 : nI d - (nI d + 5 - (nI d + 5) / 7 * 7) = nI (d - (d + 5) % 7) := by
    rw [show (5 : Int32) = nI 5 from rfl, cw_e7 (by omega) 5 (by decide), pk_sub (by omega)]
  have e2 : nI (d - (d + 5) % 7) + 3 = nI (d - (d + 5) % 7 + 3) := by rw [show (3 : Int32) = nI 3 from rfl, nI_add]
  unfold wpY_week
  dsimp only
  refine cy_day (fun _ => br_t rfl ?_) (fun c => absurd ⟨d, hd, rfl⟩ c)
  refine pk_le 2 d (fun _ => ⟨by decide, nm_r e1 ?_⟩) (fun z => absurd z (by omega))
  rw [e2]
  refine cy_yearOf (by omega) (fun y' m' k' => ?_)
  have hx := cy_w38 (t := d - (d + 5) % 7 + 3) (a := (d - (d + 5) % 7 + 3) / 7) (by omega) (by omega) e2 h 55 0 y' m' k' (by omega) (by omega)
  rw [if_pos (by omega)] at hx
  exact ⟨_, hx⟩
end
theorem i_vc_week {k : Nat} {u : SX} {v : SY} (I : i_Rel k u v) (hk : k + 4 ≤ 2048) (v1 : Int32) : wpX_week (fun r => wpY_week (fun r' v' => r' = r ∧ i_Rel (k + 4) u v') v v1) u v1 := by
  obtain ⟨w, b⟩ := u
  obtain ⟨y, m, q, o, b'⟩ := v
  by_cases c : cf_r 146097 v1
  · obtain ⟨d, hd, rfl⟩ := c
    rcases Nat.lt_or_ge d 2 with z | z
    · have hY : wpY_week (fun r' v' => r' = (-1 : Int32) ∧ i_Rel (k + 4) (w, b) v') (y, m, q, o, b') (nI d) := by
        unfold wpY_week
        dsimp only
        refine cy_day (fun _ => br_t rfl ?_) (fun c => absurd ⟨d, hd, rfl⟩ c)
        exact pk_le 2 d (fun q => absurd q (by omega)) (fun _ => ⟨rfl, I⟩)
      unfold wpX_week
      dsimp only
      refine cx_day (fun _ => br_f (by decide) ?_) (fun c => absurd ⟨d, hd, rfl⟩ c)
      have ed : d = 0 ∨ d = 1 := by omega
      rcases ed with rfl | rfl
      · exact cx_wd hd ⟨by decide, nm_r (e' := nI 5) (by decide) (nm_r (e' := -2) (by decide) (cx_day (fun c => absurd c (cf_neg (by decide) (by decide))) (fun _ => br_t rfl hY)))⟩
      · exact cx_wd hd ⟨by decide, nm_r (e' := nI 6) (by decide) (nm_r (e' := -2) (by decide) (cx_day (fun c => absurd c (cf_neg (by decide) (by decide))) (fun _ => br_t rfl hY)))⟩
    · exact cx_week hd z (cy_week hd z (fun _ _ _ => ⟨rfl, I⟩))
  · unfold wpX_week wpY_week
    dsimp only
    exact cx_day (fun g => absurd g c) (fun _ => br_t rfl (cy_day (fun g => absurd g c) (fun _ => br_f (by decide) ⟨rfl, I⟩)))
/-! addMonths -/
theorem ca_add {s : Nat} {x : Int32} (hs : s < 2 ^ 30) (h1 : -4800 ≤ x.toInt) (h2 : x.toInt ≤ 4800) : (nI s + x).toInt = (s : Int) + x.toInt := by
  rw [Int32.toInt_add, nI_toInt (by omega)]
  exact Int.bmod_eq_of_le (by omega) (by omega)
theorem ca_m : (-4800 : Int32).toInt = -4800 := by decide
theorem ca_p : (4800 : Int32).toInt = 4800 := by decide
/-- what addMonths answers: the day d to the month number t -/
def ca_v (d t : Nat) : Nat := if cc_MF (t + 1) - 1 ≤ cc_MF t + (d - cc_MF (cc_mo d)) then cc_MF (t + 1) - 1 else cc_MF t + (d - cc_MF (cc_mo d))
theorem cx_addM {post : Int32 → Prop} {w : Nat → Int64} {b : Nat → Int32} {d : Nat} {x : Int32} (hd : d < 146097) (h1 : -4800 ≤ x.toInt) (h2 : x.toInt ≤ 4800) (h : ∀ t : Nat, t < 4800 → (t : Int) = cc_mo d + x.toInt → post (nI (ca_v d t))) (h0 : ((cc_mo d : Int) + x.toInt < 0 ∨ 4800 ≤ (cc_mo d : Int) + x.toInt) → post (-3)) : wpX_addMonths post (w, b) (nI d) x := by
  have ha := cc_at hd
  have hs := ha.2.2
  have hx := ca_add (s := cc_mo d) (x := x) (by omega) h1 h2
  unfold wpX_addMonths
  dsimp only
  refine cx_day (fun _ => br_f (by decide) ?_) (fun c => absurd ⟨d, hd, rfl⟩ c)
  refine br_f (by rw [ci_lt, ca_m]; omega) (br_t (by rw [ci_le, ca_p]; omega) (cx_mno hd ?_))
  by_cases z : (cc_mo d : Int) + x.toInt < 0
  · exact nm_e (br_t (by rw [ci_neg, hx]; exact z) (h0 (Or.inl z)))
  · obtain ⟨t, et⟩ : ∃ t : Nat, (t : Int) = cc_mo d + x.toInt := ⟨((cc_mo d : Int) + x.toInt).toNat, by omega⟩
    refine nm_r (ci_nI (n := t) (by omega) (by omega)) (br_f (nI_pos (by omega)) ?_)
    refine pk_lt t 4800 (fun z2 => ?_) (fun z2 => h0 (Or.inr (by omega)))
    have m1 := cc_MF_le (n := t) (by omega)
    have m2 := cc_MF_le (n := t + 1) (by omega)
    have m3 := cc_MF_s t
    refine cx_first (by omega) (cx_first (by omega) (nm_r (e' := nI (cc_MF t + (d - cc_MF (cc_mo d)))) ?_ ?_))
    · rw [nI_add, pk_sub (by have := ha.1; omega)]
      exact congrArg nI (by have := ha.1; omega)
    · rw [nI_1]
      refine cx_first (by omega) (nm_r (e' := nI (cc_MF (t + 1) - 1)) (by rw [show (1 : Int32) = nI 1 from rfl, pk_sub (by omega)]) ?_)
      have hp := h t z2 et
      unfold ca_v at hp
      refine pk_le (cc_MF (t + 1) - 1) (cc_MF t + (d - cc_MF (cc_mo d))) (fun q => ?_) (fun q => ?_)
      · rw [if_pos q] at hp
        exact hp
      · rw [if_neg (by omega)] at hp
        exact hp
theorem cy_addM {post : Int32 → SY → Prop} {y m k : Int32} {o b : Nat → Int32} {d : Nat} {x : Int32} (hd : d < 146097) (h1 : -4800 ≤ x.toInt) (h2 : x.toInt ≤ 4800) (h : ∀ t : Nat, t < 4800 → (t : Int) = cc_mo d + x.toInt → ∀ y' m' k', post (nI (ca_v d t)) (y', m', k', o, b)) (h0 : ((cc_mo d : Int) + x.toInt < 0 ∨ 4800 ≤ (cc_mo d : Int) + x.toInt) → ∀ y' m' k', post (-3) (y', m', k', o, b)) : wpY_addMonths post (y, m, k, o, b) (nI d) x := by
  have ha := cc_at hd
  have hs := ha.2.2
  have hl := (cc_MF_s (cc_mo d)).2
  have hx := ca_add (s := 24000 + cc_mo d) (x := x) (by omega) h1 h2
  obtain ⟨t, et⟩ : ∃ t : Nat, (t : Int) = 24000 + cc_mo d + x.toInt := ⟨((24000 + cc_mo d : Int) + x.toInt).toNat, by omega⟩
  have e0 : nI (2000 + cc_mo d / 12) * 12 + nI (cc_mo d % 12 + 1) - 1 + x = nI t := by
    rw [show (12 : Int32) = nI 12 from rfl, show (1 : Int32) = nI 1 from rfl, pk_mul, nI_add, pk_sub (by omega), show (2000 + cc_mo d / 12) * 12 + (cc_mo d % 12 + 1) - 1 = 24000 + cc_mo d by omega]
    exact ci_nI (by omega) (by omega)
  have e1 : nI t / 12 = nI (t / 12) := by rw [show (12 : Int32) = nI 12 from rfl, pk_div (by omega) (by decide) (by decide)]
  have e2 : nI t - nI t / 12 * 12 + 1 = nI (t % 12 + 1) := by rw [show (12 : Int32) = nI 12 from rfl, pk_rem (by omega) (by decide) (by decide), nI_1]
  unfold wpY_addMonths
  dsimp only
  refine cy_day (fun _ => br_t rfl ?_) (fun c => absurd ⟨d, hd, rfl⟩ c)
  refine br_f (by rw [ci_lt, ca_m]; omega) (br_t (by rw [ci_le, ca_p]; omega) (cy_split hd ?_))
  refine nm_r e0 ⟨by decide, nm_r e1 ⟨by decide, nm_r e2 ?_⟩⟩
  refine pk_lt (t / 12) 2000 (fun z => h0 (Or.inl (by omega)) _ _ _) (fun z => ?_)
  refine pk_le (t / 12) 2399 (fun z2 => ?_) (fun z2 => h0 (Or.inr (by omega)) _ _ _)
  obtain ⟨s, es⟩ : ∃ s, t = 24000 + s := ⟨t - 24000, by omega⟩
  have q1 : t / 12 = 2000 + s / 12 := by omega
  have q2 : t % 12 = s % 12 := by omega
  have eM : cc_MF (s + 1) = cc_MF s + cc_ln (cc_L (2000 + s / 12)) (s % 12 + 1) := rfl
  have hb := cc_ln_b (cc_L2 (2000 + s / 12)) (s % 12 + 1)
  have hv := h s (by omega) (by omega)
  unfold ca_v at hv
  rw [q1, q2]
  refine cy_len (by omega) (by omega) (by omega) ?_
  refine pk_le (cc_ln (cc_L (2000 + s / 12)) (s % 12 + 1)) (d - cc_MF (cc_mo d) + 1) (fun z3 => ?_) (fun z3 => ?_)
  · refine cy_len (by omega) (by omega) (by omega) ?_
    rw [if_pos (by omega)] at hv
    have hj := cy_join (post := fun r_36 => post r_36 (nI (2000 + cc_mo d / 12), nI (cc_mo d % 12 + 1), nI (d - cc_MF (cc_mo d) + 1), o, b)) (y := nI (2000 + cc_mo d / 12)) (m := nI (cc_mo d % 12 + 1)) (k := nI (d - cc_MF (cc_mo d) + 1)) (o := o) (b := b) (j := s / 12) (q := s % 12) (c := cc_ln (cc_L (2000 + s / 12)) (s % 12 + 1) - 1) (by omega) (by omega) (by omega) (by
      rw [show 12 * (s / 12) + s % 12 = s by omega, show cc_MF s + (cc_ln (cc_L (2000 + s / 12)) (s % 12 + 1) - 1) = cc_MF (s + 1) - 1 by omega]
      exact hv _ _ _)
    rw [show cc_ln (cc_L (2000 + s / 12)) (s % 12 + 1) - 1 + 1 = cc_ln (cc_L (2000 + s / 12)) (s % 12 + 1) by omega] at hj
    exact hj
  · rw [if_neg (by omega)] at hv
    exact cy_join (post := fun r_36 => post r_36 (nI (2000 + cc_mo d / 12), nI (cc_mo d % 12 + 1), nI (d - cc_MF (cc_mo d) + 1), o, b)) (y := nI (2000 + cc_mo d / 12)) (m := nI (cc_mo d % 12 + 1)) (k := nI (d - cc_MF (cc_mo d) + 1)) (o := o) (b := b) (j := s / 12) (q := s % 12) (c := d - cc_MF (cc_mo d)) (by omega) (by omega) (by omega) (by
      rw [show 12 * (s / 12) + s % 12 = s by omega]
      exact hv _ _ _)
theorem i_vc_addMonths {k : Nat} {u : SX} {v : SY} (I : i_Rel k u v) (hk : k + 4 ≤ 2048) (v1 : Int32) (v2 : Int32) : wpX_addMonths (fun r => wpY_addMonths (fun r' v' => r' = r ∧ i_Rel (k + 4) u v') v v1 v2) u v1 v2 := by
  obtain ⟨w, b⟩ := u
  obtain ⟨y, m, q, o, b'⟩ := v
  by_cases c : cf_r 146097 v1
  · obtain ⟨d, hd, rfl⟩ := c
    by_cases g : -4800 ≤ v2.toInt ∧ v2.toInt ≤ 4800
    · refine cx_addM hd g.1 g.2 (fun t ht et => cy_addM hd g.1 g.2 (fun t' ht' et' _ _ _ => ⟨by rw [show t' = t by omega], I⟩) (fun z => absurd z (by omega))) (fun z => cy_addM hd g.1 g.2 (fun t' ht' et' => absurd z (by omega)) (fun _ _ _ _ => ⟨rfl, I⟩))
    · unfold wpX_addMonths wpY_addMonths
      dsimp only
      refine cx_day (fun _ => br_f (by decide) ?_) (fun c => absurd ⟨d, hd, rfl⟩ c)
      by_cases z : v2.toInt < -4800
      · have zz : v2 < -4800 := by rw [ci_lt, ca_m]; exact z
        exact br_t zz (cy_day (fun _ => br_t rfl (br_t zz ⟨rfl, I⟩)) (fun c => absurd ⟨d, hd, rfl⟩ c))
      · have zz : ¬ v2 < -4800 := by rw [ci_lt, ca_m]; exact z
        have z2 : ¬ v2 ≤ 4800 := by rw [ci_le, ca_p]; omega
        exact br_f zz (br_f z2 (cy_day (fun _ => br_t rfl (br_f zz (br_f z2 ⟨rfl, I⟩))) (fun c => absurd ⟨d, hd, rfl⟩ c)))
  · unfold wpX_addMonths wpY_addMonths
    dsimp only
    exact cx_day (fun g => absurd g c) (fun _ => br_t rfl (cy_day (fun g => absurd g c) (fun _ => br_f (by decide) ⟨rfl, I⟩)))
