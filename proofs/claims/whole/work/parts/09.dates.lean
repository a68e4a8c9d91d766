/-! the relation of whole, and the methods on dates -/
def i_Rel (k : Nat) (u : SX) (v : SY) : Prop := u.2 = v.2.2.2.2 ∧ cr_R u.1 u.2 v.2.2.2.1
theorem i_up {k : Nat} {u : SX} {v : SY} (h : i_Rel k u v) : i_Rel (k + 4) u v := h
def cq_good (n : Nat) : Prop := 2000 ≤ n / 10000 ∧ n / 10000 ≤ 2399 ∧ 1 ≤ n / 100 % 100 ∧ n / 100 % 100 ≤ 12 ∧ 1 ≤ n % 100 ∧ n % 100 ≤ cc_ln (cc_L (n / 10000)) (n / 100 % 100)
def cq_val (n : Nat) : Nat := cc_MF (12 * (n / 10000 - 2000) + (n / 100 % 100 - 1)) + (n % 100 - 1)
theorem cq_e1 {n : Nat} (hn : n < 2 ^ 31) : nI n / 10000 = nI (n / 10000) := by rw [show (10000 : Int32) = nI 10000 from rfl, pk_div hn (by decide) (by decide)]
theorem cq_e2 {n : Nat} (hn : n < 2 ^ 31) : nI n / 100 - nI n / 100 / 100 * 100 = nI (n / 100 % 100) := by rw [show (100 : Int32) = nI 100 from rfl, pk_div hn (by decide) (by decide), pk_rem (by omega) (by decide) (by decide)]
theorem cq_e3 {n : Nat} (hn : n < 2 ^ 31) : nI n - nI n / 100 * 100 = nI (n % 100) := by rw [show (100 : Int32) = nI 100 from rfl, pk_rem hn (by decide) (by decide)]
theorem cx_dayN {post : Int32 → Prop} {w : Nat → Int64} {b : Nat → Int32} {n : Nat} (hn : n < 2 ^ 31) (h1 : cq_good n → post (nI (cq_val n))) (h0 : ¬ cq_good n → post (-1)) : wpX_day post (w, b) (nI n) := by
  unfold wpX_day
  dsimp only
  refine ⟨by decide, nm_r (cq_e1 hn) ⟨by decide, by decide, nm_r (cq_e2 hn) ⟨by decide, nm_r (cq_e3 hn) ?_⟩⟩⟩
  refine cx_year (fun c => br_f (by decide) ?_) (fun c => br_t rfl (h0 (fun g => c ⟨n / 10000 - 2000, by have := g.1; have := g.2.1; omega, congrArg nI (by have := g.1; omega)⟩)))
  obtain ⟨j, hj, e⟩ := c
  have ej : n / 10000 = 2000 + j := (nI_eq (by omega) (by omega)).mp e
  refine cx_isv (f := 3) (by decide) (fun c => br_f (by decide) ?_) (fun c => br_t rfl (h0 (fun g => c ⟨n / 100 % 100, g.2.2.1, g.2.2.2.1, rfl⟩)))
  obtain ⟨q, q1, q2, e2⟩ := c
  have q1' : 1 ≤ q := q1
  have q2' : q ≤ 12 := q2
  have eq : n / 100 % 100 = q := (nI_eq (by omega) (by omega)).mp e2
  refine pk_lt (n % 100) 1 (fun z => h0 (fun g => by have := g.2.2.2.2.1; omega)) (fun z => ?_)
  refine cx_len (by omega) (by omega) (by omega) ?_
  have hb := cc_ln_b (cc_L2 (n / 10000)) (n / 100 % 100)
  refine pk_le (n % 100) (cc_ln (cc_L (n / 10000)) (n / 100 % 100)) (fun z2 => ?_) (fun z2 => h0 (fun g => by have := g.2.2.2.2.2; omega))
  have hp := h1 ⟨by omega, by omega, by omega, by omega, by omega, z2⟩
  rw [ej]
  refine cx_mnum (by omega) (by omega) (cx_first (by omega) ?_)
  rw [show (1 : Int32) = nI 1 from rfl, nI_add, pk_sub (by omega)]
  have ev : cq_val n = cc_MF (12 * j + n / 100 % 100 - 1) + n % 100 - 1 := by
    unfold cq_val
    rw [ej, show 12 * (2000 + j - 2000) + (n / 100 % 100 - 1) = 12 * j + n / 100 % 100 - 1 by omega]
    omega
  rw [ev] at hp
  exact hp
theorem cy_dayN {post : Int32 → Prop} {y m k : Int32} {o b : Nat → Int32} {n : Nat} (hn : n < 2 ^ 31) (h1 : cq_good n → post (nI (cq_val n))) (h0 : ¬ cq_good n → post (-1)) : wpY_day post (y, m, k, o, b) (nI n) := by
  unfold wpY_day
  dsimp only
  refine ⟨by decide, nm_r (cq_e1 hn) ⟨by decide, by decide, nm_r (cq_e2 hn) ⟨by decide, nm_r (cq_e3 hn) ?_⟩⟩⟩
  refine br_f (nI_pos hn) ?_
  refine pk_lt (n / 10000) 2000 (fun z => h0 (fun g => by have := g.1; omega)) (fun z1 => ?_)
  refine pk_lt 2399 (n / 10000) (fun z => h0 (fun g => by have := g.2.1; omega)) (fun z2 => ?_)
  refine pk_lt (n / 100 % 100) 1 (fun z => h0 (fun g => by have := g.2.2.1; omega)) (fun z3 => ?_)
  refine pk_le (n / 100 % 100) 12 (fun z4 => ?_) (fun z => h0 (fun g => by have := g.2.2.2.1; omega))
  refine pk_lt (n % 100) 1 (fun z => h0 (fun g => by have := g.2.2.2.2.1; omega)) (fun z5 => ?_)
  refine cy_len (by omega) (by omega) (by omega) ?_
  have hb := cc_ln_b (cc_L2 (n / 10000)) (n / 100 % 100)
  refine pk_le (n % 100) (cc_ln (cc_L (n / 10000)) (n / 100 % 100)) (fun z6 => ?_) (fun z => h0 (fun g => by have := g.2.2.2.2.2; omega))
  have hp := h1 ⟨z1, z2, z3, z4, z5, z6⟩
  have hj := cy_join (post := post) (y := y) (m := m) (k := k) (o := o) (b := b) (j := n / 10000 - 2000) (q := n / 100 % 100 - 1) (c := n % 100 - 1) (by omega) (by omega) (by omega) hp
  rw [show 2000 + (n / 10000 - 2000) = n / 10000 by omega, show n / 100 % 100 - 1 + 1 = n / 100 % 100 by omega, show n % 100 - 1 + 1 = n % 100 by omega] at hj
  exact hj
theorem cx_dayM {post : Int32 → Prop} {w : Nat → Int64} {b : Nat → Int32} {x : Int32} (hx : x < 0) (h : post (-1)) : wpX_day post (w, b) x := by
  have hd : (x / 10000).toInt ≤ 0 := ci_div0 10000 hx (by decide) (by decide)
  unfold wpX_day
  dsimp only
  refine ⟨by decide, nm_e ⟨by decide, by decide, nm_e ⟨by decide, nm_e ?_⟩⟩⟩
  refine cx_year (fun c => ?_) (fun c => br_t rfl h)
  obtain ⟨j, hj, e⟩ := c
  rw [e, nI_toInt (by omega)] at hd
  omega
theorem i_vc_day {k : Nat} {u : SX} {v : SY} (I : i_Rel k u v) (hk : k + 4 ≤ 2048) (v1 : Int32) : wpX_day (fun r => wpY_day (fun r' => r' = r ∧ i_Rel (k + 4) u v) v v1) u v1 := by
  obtain ⟨w, b⟩ := u
  obtain ⟨y, m, q, o, b'⟩ := v
  by_cases z : v1 < 0
  · refine cx_dayM z ?_
    unfold wpY_day
    dsimp only
    exact ⟨by decide, nm_e ⟨by decide, by decide, nm_e ⟨by decide, nm_e (br_t z ⟨rfl, I⟩)⟩⟩⟩
  · obtain ⟨n, hn, rfl⟩ := nI_of z
    exact cx_dayN hn (fun g => cy_dayN hn (fun _ => ⟨rfl, I⟩) (fun c => absurd g c)) (fun c => cy_dayN hn (fun g => absurd g c) (fun _ => ⟨rfl, I⟩))
theorem i_vc_date {k : Nat} {u : SX} {v : SY} (I : i_Rel k u v) (hk : k + 4 ≤ 2048) (v1 : Int32) : wpX_date (fun r => wpY_date (fun r' v' => r' = r ∧ i_Rel (k + 4) u v') v v1) u v1 := by
  obtain ⟨w, b⟩ := u
  obtain ⟨y, m, q, o, b'⟩ := v
  unfold wpX_date wpY_date
  dsimp only
  refine cx_day (fun c => br_f (by decide) ?_) (fun c => br_t rfl (cy_day (fun g => absurd g c) (fun _ => br_f (by decide) ⟨rfl, I⟩)))
  obtain ⟨d, hd, rfl⟩ := c
  have ha := cc_at hd
  refine cx_mno hd (cx_first (by have := ha.2.2; omega) (nm_r (e' := nI (d - cc_MF (cc_mo d) + 1)) (by rw [pk_sub ha.1, nI_1]) (cx_yom (by have := ha.2.2; omega) (cx_moy (by have := ha.2.2; omega) ?_))))
  exact cy_day (fun _ => br_t rfl (cy_split hd ⟨rfl, I⟩)) (fun c => absurd ⟨d, hd, rfl⟩ c)
theorem i_vc_weekday {k : Nat} {u : SX} {v : SY} (I : i_Rel k u v) (hk : k + 4 ≤ 2048) (v1 : Int32) : wpX_weekday (fun r => wpY_weekday (fun r' => r' = r ∧ i_Rel (k + 4) u v) v v1) u v1 := by
  obtain ⟨w, b⟩ := u
  obtain ⟨y, m, q, o, b'⟩ := v
  unfold wpX_weekday wpY_weekday
  dsimp only
  refine cx_day (fun c => br_f (by decide) ?_) (fun c => br_t rfl (cy_day (fun g => absurd g c) (fun _ => br_f (by decide) ⟨rfl, I⟩)))
  obtain ⟨d, hd, rfl⟩ := c
  refine ⟨by decide, ?_⟩
  exact cy_day (fun _ => br_t rfl ⟨by decide, rfl, I⟩) (fun c => absurd ⟨d, hd, rfl⟩ c)
theorem i_vc_monthDays {k : Nat} {u : SX} {v : SY} (I : i_Rel k u v) (hk : k + 4 ≤ 2048) (v1 : Int32) (v2 : Int32) : wpX_monthDays (fun r => wpY_monthDays (fun r' => r' = r ∧ i_Rel (k + 4) u v) v v1 v2) u v1 v2 := by
  obtain ⟨w, b⟩ := u
  obtain ⟨y, m, q, o, b'⟩ := v
  unfold wpX_monthDays wpY_monthDays
  dsimp only
  by_cases z : v1 < 0
  · refine cx_year (fun c => absurd c (cf_yneg z)) (fun c => br_t rfl (br_t (Int32.lt_trans z (by decide)) ⟨rfl, I⟩))
  · obtain ⟨n, hn, rfl⟩ := nI_of z
    refine cx_year (fun c => br_f (by decide) ?_) (fun c => br_t rfl (pk_lt n 2000 (fun _ => ⟨rfl, I⟩) (fun a => pk_le n 2399 (fun a2 => absurd ⟨n - 2000, by omega, congrArg nI (by omega)⟩ c) (fun _ => ⟨rfl, I⟩))))
    obtain ⟨j, hj, e⟩ := c
    have ej : n = 2000 + j := (nI_eq (by omega) (by omega)).mp e
    by_cases z2 : v2 < 0
    · refine cx_isv (f := 3) (by decide) (fun c => absurd c (cf_inneg z2)) (fun c => br_t rfl ?_)
      exact pk_lt n 2000 (fun a => absurd a (by omega)) (fun a => pk_le n 2399 (fun _ => br_t (Int32.lt_trans z2 (by decide)) ⟨rfl, I⟩) (fun a => absurd a (by omega)))
    · obtain ⟨p, hp, rfl⟩ := nI_of z2
      refine cx_isv (f := 3) (by decide) (fun c => br_f (by decide) ?_) (fun c => br_t rfl ?_)
      · obtain ⟨p', p1, p2, e2⟩ := c
        have p1' : 1 ≤ p' := p1
        have p2' : p' ≤ 12 := p2
        have ep : p = p' := (nI_eq (by omega) (by omega)).mp e2
        refine cx_len (by omega) (by omega) (by omega) ?_
        exact pk_lt n 2000 (fun a => absurd a (by omega)) (fun a => pk_le n 2399 (fun _ => pk_lt p 1 (fun a => absurd a (by omega)) (fun _ => pk_le p 12 (fun _ => cy_len (by omega) (by omega) (by omega) ⟨rfl, I⟩) (fun a => absurd a (by omega)))) (fun a => absurd a (by omega)))
      · exact pk_lt n 2000 (fun a => absurd a (by omega)) (fun a => pk_le n 2399 (fun _ => pk_lt p 1 (fun _ => ⟨rfl, I⟩) (fun a1 => pk_le p 12 (fun a2 => absurd ⟨p, a1, a2, rfl⟩ c) (fun _ => ⟨rfl, I⟩))) (fun a => absurd a (by omega)))
theorem i_vc_dayOfYear {k : Nat} {u : SX} {v : SY} (I : i_Rel k u v) (hk : k + 4 ≤ 2048) (v1 : Int32) : wpX_dayOfYear (fun r => wpY_dayOfYear (fun r' v' => r' = r ∧ i_Rel (k + 4) u v') v v1) u v1 := by
  obtain ⟨w, b⟩ := u
  obtain ⟨y, m, q, o, b'⟩ := v
  unfold wpX_dayOfYear wpY_dayOfYear
  dsimp only
  refine cx_day (fun c => br_f (by decide) ?_) (fun c => br_t rfl (cy_day (fun g => absurd g c) (fun _ => br_f (by decide) ⟨rfl, I⟩)))
  obtain ⟨d, hd, rfl⟩ := c
  have hm := cc_mo_s hd
  have hy := cc_yr_s hd
  refine cx_dpy hd (cy_day (fun _ => br_t rfl (cy_split hd ?_)) (fun c => absurd ⟨d, hd, rfl⟩ c))
  refine cy_join (j := cc_mo d / 12) (q := 0) (c := 0) (by omega) (by omega) (by omega) ⟨?_, I⟩
  rw [show cc_MF (12 * (cc_mo d / 12) + 0) + 0 = cc_MF (12 * (cc_mo d / 12)) from rfl, cc_MFY, hm.2.2.2.1, pk_sub hy.1]
