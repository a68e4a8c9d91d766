/-! the relation, and what fits, on both sides -/
def cr_P (b : Int32) (w : Int64) (o : Nat → Int32) (f : Nat) : Prop :=
  (b = 0 ∨ b = 1) ∧ (∀ v, v < 64 → cb_b w v = true → cc_lo f ≤ v ∧ v ≤ cc_hi f) ∧ (b = 1 → ∀ v, cc_lo f ≤ v → v ≤ cc_hi f → cb_b w v = true) ∧ (b = 0 → ∀ v, v < 64 → (o v = 0 ↔ cb_b w v = false)) ∧ (∃ v, v < 64 ∧ cb_b w v = true)
def cr_R (w : Nat → Int64) (b o : Nat → Int32) : Prop := ∀ p, p < 20 → cr_P (b p) (w p) (fun v => o (64 * p + v)) (p % 5)
theorem cr_at {w : Nat → Int64} {b o : Nat → Int32} (h : cr_R w b o) {r f : Nat} (hr : r < 4) (hf : f < 5) : cr_P (b (5 * r + f)) (w (5 * r + f)) (fun v => o (64 * (5 * r + f) + v)) f := by
  have h1 := h (5 * r + f) (by omega)
  rw [show (5 * r + f) % 5 = f by omega] at h1
  exact h1
def cd_dm (w : Nat → Int64) (b : Nat → Int32) (r k d : Nat) : Bool := if b (5 * r + 2) = 0 ∧ b (5 * r + 4) = 0 then (cb_b (w (5 * r + 2)) k || cb_b (w (5 * r + 4)) ((d + 6) % 7)) else (cb_b (w (5 * r + 2)) k && cb_b (w (5 * r + 4)) ((d + 6) % 7))
def cd_mf (w : Nat → Int64) (r n : Nat) : Bool := cb_b (w (5 * r + 3)) (n % 12 + 1)
def cd_df (w : Nat → Int64) (b : Nat → Int32) (r d : Nat) : Bool := cd_mf w r (cc_mo d) && cd_dm w b r (d - cc_MF (cc_mo d) + 1) d
def cd_tf (w : Nat → Int64) (r t : Nat) : Bool := cb_b (w (5 * r + 1)) (t / 60) && cb_b (w (5 * r + 0)) (t % 60)
theorem cd_and {post : Int32 → Prop} {p q : Bool} (h : post (cb_i (p && q))) : (cb_i p = 0 → post 0) ∧ (¬ cb_i p = 0 → (cb_i q = 0 → post 0) ∧ (¬ cb_i q = 0 → post 1)) := by
  cases p
  · exact br_t rfl h
  · cases q
    · exact br_f (by decide) (br_t rfl h)
    · exact br_f (by decide) (br_f (by decide) h)
theorem cd_or {post : Int32 → Prop} {p q : Bool} (h : post (cb_i (p || q))) : (cb_i p = 0 → (cb_i q = 0 → post 0) ∧ (¬ cb_i q = 0 → post 1)) ∧ (¬ cb_i p = 0 → post 1) := by
  cases p
  · cases q
    · exact br_t rfl (br_t rfl h)
    · exact br_t rfl (br_f (by decide) h)
  · exact br_f (by decide) h
theorem cd_and2 {post : Int32 → Prop} {W : (Int32 → Prop) → Prop} {p q : Bool} (h : post (cb_i (p && q))) (hq : ∀ P : Int32 → Prop, P (cb_i q) → W P) (ht : p = true → True) : (cb_i p = 0 → post 0) ∧ (¬ cb_i p = 0 → W (fun r => (r = 0 → post 0) ∧ (¬ r = 0 → post 1))) := by
  cases p
  · exact br_t rfl h
  · refine br_f (by decide) (hq _ ?_)
    cases q
    · exact br_t rfl h
    · exact br_f (by decide) h
theorem cd_60 {t : Nat} (ht : t < 1440) : nI t / 60 = nI (t / 60) := by rw [show (60 : Int32) = nI 60 from rfl, pk_div (by omega) (by decide) (by decide)]
theorem cd_m60 {t : Nat} (ht : t < 1440) : nI t - nI t / 60 * 60 = nI (t % 60) := by rw [show (60 : Int32) = nI 60 from rfl, pk_rem (by omega) (by decide) (by decide)]
section
variable {w : Nat → Int64} {b : Nat → Int32} {r : Nat}
theorem cx_tf {post : Int32 → Prop} {t : Nat} (hr : r < 4) (ht : t < 1440) (h : post (cb_i (cd_tf w r t))) : wpX_timeFits post (w, b) (nI r) (nI t) := by
  unfold wpX_timeFits
  dsimp only
  rw [cd_m60 ht, cd_60 ht]
  refine ⟨by decide, cx_has (f := 1) hr (by decide) (by omega) ?_⟩
  unfold cd_tf at h
  cases hp : cb_b (w (5 * r + 1)) (t / 60)
  · rw [hp] at h
    exact br_t rfl h
  · rw [hp] at h
    refine br_f (by decide) ⟨by decide, cx_has (f := 0) hr (by decide) (by omega) ?_⟩
    cases hq : cb_b (w (5 * r + 0)) (t % 60)
    · rw [hq] at h
      exact br_t rfl h
    · rw [hq] at h
      exact br_f (by decide) h
theorem cx_mfit {post : Int32 → Prop} {n : Nat} (hr : r < 4) (hn : n < 4800) (h : post (cb_i (cd_mf w r n))) : wpX_monthFits post (w, b) (nI r) (nI n) := by
  unfold wpX_monthFits
  dsimp only
  refine cx_moy (by omega) (cx_has (f := 3) hr (by decide) (by omega) ⟨?_, h⟩)
  cases cb_b (w (5 * r + 3)) (n % 12 + 1) <;> rfl
theorem cx_dom {post : Int32 → Prop} {q d : Nat} (hr : r < 4) (hd : d < 146097) (hq : q < 64) (hb2 : b (5 * r + 2) = 0 ∨ b (5 * r + 2) = 1) (hb4 : b (5 * r + 4) = 0 ∨ b (5 * r + 4) = 1) (h : post (cb_i (cd_dm w b r q d))) : wpX_dayOfMonthFits post (w, b) (nI r) (nI q) (nI d) := by
  unfold wpX_dayOfMonthFits wX_dayOfMonthFits_43
  dsimp only
  refine cx_wd hd (cx_has (f := 2) hr (by decide) hq (cx_has (f := 4) hr (by decide) (by omega) (cx_isFull (f := 2) hr (by decide) hb2 ?_)))
  unfold cd_dm at h
  rcases hb2 with e2 | e2
  · rw [e2]
    refine br_t rfl (cx_isFull (f := 4) hr (by decide) hb4 ?_)
    rcases hb4 with e4 | e4
    · rw [e4]
      rw [if_pos ⟨e2, e4⟩] at h
      exact br_t rfl (cd_or h)
    · rw [e4]
      rw [if_neg (by rw [e4]; exact fun z => absurd z.2 (by decide))] at h
      exact br_f (by decide) (cd_and h)
  · rw [e2]
    rw [if_neg (by rw [e2]; exact fun z => absurd z.1 (by decide))] at h
    exact br_f (by decide) (cd_and h)
theorem cx_df {post : Int32 → Prop} {d : Nat} (hr : r < 4) (hd : d < 146097) (hb2 : b (5 * r + 2) = 0 ∨ b (5 * r + 2) = 1) (hb4 : b (5 * r + 4) = 0 ∨ b (5 * r + 4) = 1) (h : post (cb_i (cd_df w b r d))) : wpX_dayFits post (w, b) (nI r) (nI d) := by
  obtain ⟨a1, a2, a3⟩ := cc_at hd
  have hs := (cc_MF_s (cc_mo d)).2
  unfold wpX_dayFits
  dsimp only
  refine cx_mno hd (cx_first (by omega) (nm_r (e' := nI (d - cc_MF (cc_mo d) + 1)) (by rw [pk_sub a1, nI_1]) (cx_mfit hr a3 ?_)))
  unfold cd_df at h
  cases hp : cd_mf w r (cc_mo d)
  · rw [hp] at h
    exact br_t rfl h
  · rw [hp] at h
    refine br_f (by decide) (cx_dom hr hd (by omega) hb2 hb4 ?_)
    cases hq : cd_dm w b r (d - cc_MF (cc_mo d) + 1) d
    · rw [hq] at h
      exact br_t rfl h
    · rw [hq] at h
      exact br_f (by decide) h
end
section
variable {y m k : Int32} {o b : Nat → Int32} {w : Nat → Int64} {r : Nat}
theorem cy_may {post : Int32 → Prop} {f v : Nat} (hR : cr_R w b o) (hr : r < 4) (hf : f < 5) (h1 : cc_lo f ≤ v) (h2 : v ≤ cc_hi f) (h : post (cb_i (cb_b (w (5 * r + f)) v))) : wpY_may post (y, m, k, o, b) (nI r) (nI f) (nI v) := by
  have hh := cc_hi_b f
  obtain ⟨p1, p2, p3, p4, p5⟩ := cr_at hR hr hf
  have e1 : nI r * 5 + nI f = nI (5 * r + f) := by rw [show (5 : Int32) = nI 5 from rfl, pk_mul, nI_add, Nat.mul_comm]
  have e2 : nI (5 * r + f) * 64 + nI v = nI (64 * (5 * r + f) + v) := by rw [show (64 : Int32) = nI 64 from rfl, pk_mul, nI_add, Nat.mul_comm]
  unfold wpY_may
  dsimp only
  rw [e1, e2, nI_clamp (by omega), nI_clamp (by omega)]
  refine ⟨vp_in_nI (by omega) (by decide), ?_⟩
  rcases p1 with q | q
  · refine br_t q ⟨vp_in_nI (by omega) (by decide), ?_⟩
    have hi := p4 q v (by omega)
    cases hb : cb_b (w (5 * r + f)) v
    · rw [hb] at h
      exact br_t (hi.mpr hb) h
    · rw [hb] at h
      exact br_f (fun z => by rw [hi.mp z] at hb; exact absurd hb (by decide)) h
  · rw [p3 q v h1 h2] at h
    exact br_f (by rw [q]; decide) h
theorem cy_tf {post : Int32 → Prop} {t : Nat} (hR : cr_R w b o) (hr : r < 4) (ht : t < 1440) (h : post (cb_i (cd_tf w r t))) : wpY_timeFits post (y, m, k, o, b) (nI r) (nI t) := by
  unfold wpY_timeFits
  dsimp only
  rw [cd_m60 ht, cd_60 ht]
  refine ⟨by decide, cy_may (f := 1) hR hr (by decide) (Nat.zero_le _) (by show t / 60 ≤ 23; omega) ?_⟩
  unfold cd_tf at h
  cases hp : cb_b (w (5 * r + 1)) (t / 60)
  · rw [hp] at h
    exact br_t rfl h
  · rw [hp] at h
    refine br_f (by decide) ⟨by decide, cy_may (f := 0) hR hr (by decide) (Nat.zero_le _) (by show t % 60 ≤ 59; omega) ?_⟩
    cases hq : cb_b (w (5 * r + 0)) (t % 60)
    · rw [hq] at h
      exact br_t rfl h
    · rw [hq] at h
      exact br_f (by decide) h
theorem cy_dfit {post : Int32 → Prop} {n q d : Nat} (hR : cr_R w b o) (hr : r < 4) (hq : q < 31) (h : post (cb_i (cd_mf w r n && cd_dm w b r (q + 1) d))) : wpY_dayFits post (y, m, k, o, b) (nI r) (nI (n % 12 + 1)) (nI (q + 1)) (nI ((d + 6) % 7)) := by
  have e2 : nI r * 5 + 2 = nI (5 * r + 2) := by rw [show (5 : Int32) = nI 5 from rfl, show (2 : Int32) = nI 2 from rfl, pk_mul, nI_add, Nat.mul_comm]
  have e4 : nI r * 5 + 4 = nI (5 * r + 4) := by rw [show (5 : Int32) = nI 5 from rfl, show (4 : Int32) = nI 4 from rfl, pk_mul, nI_add, Nat.mul_comm]
  have b2 := (cr_at hR hr (show 2 < 5 by decide)).1
  have b4 := (cr_at hR hr (show 4 < 5 by decide)).1
  unfold wpY_dayFits wY_dayFits_57
  dsimp only
  rw [e2, e4, nI_clamp (by omega), nI_clamp (by omega)]
  refine cy_may (f := 3) hR hr (by decide) (by show 1 ≤ n % 12 + 1; omega) (by show n % 12 + 1 ≤ 12; omega) ?_
  cases hp : cd_mf w r n
  · rw [hp] at h
    have hp' : cb_b (w (5 * r + 3)) (n % 12 + 1) = false := hp
    rw [hp']
    exact br_t rfl h
  · rw [hp] at h
    have hp' : cb_b (w (5 * r + 3)) (n % 12 + 1) = true := hp
    rw [hp']
    refine br_f (by decide) (cy_may (f := 2) hR hr (by decide) (by show 1 ≤ q + 1; omega) (by show q + 1 ≤ 31; omega) (cy_may (f := 4) hR hr (by decide) (Nat.zero_le _) (by show (d + 6) % 7 ≤ 6; omega) ?_))
    refine ⟨vp_in_nI (by omega) (by decide), ?_⟩
    rw [Bool.true_and] at h
    unfold cd_dm at h
    rcases b2 with q2 | q2
    · refine br_t q2 ⟨vp_in_nI (by omega) (by decide), ?_⟩
      rcases b4 with q4 | q4
      · rw [if_pos ⟨q2, q4⟩] at h
        exact br_t q4 (cd_or h)
      · rw [if_neg (by rw [q4]; exact fun z => absurd z.2 (by decide))] at h
        exact br_f (by rw [q4]; decide) (cd_and h)
    · rw [if_neg (by rw [q2]; exact fun z => absurd z.1 (by decide))] at h
      exact br_f (by rw [q2]; decide) (cd_and h)
theorem cy_df {post : Int32 → Prop} {d : Nat} (hR : cr_R w b o) (hr : r < 4) (hd : d < 146097) (hs : cy_St d y m k) (h : post (cb_i (cd_df w b r d))) : ¬ (7 : Int32) = 0 ∧ wpY_dayFits post (y, m, k, o, b) (nI r) m k (nI d + 6 - (nI d + 6) / 7 * 7) := by
  obtain ⟨n, h1, h2, h3, rfl, rfl, rfl⟩ := hs
  have hn : n < 4800 := by
    rcases Nat.lt_or_ge n 4800 with z | z
    · exact z
    · have := cc_MF_mono z; rw [cc_end] at this; omega
  have hM := cc_at_u (d := d) (n := n) ⟨h1, h2, hn⟩
  have hb := (cc_MF_s n).2
  have e : (nI d + 6) - (nI d + 6) / 7 * 7 = nI ((d + 6) % 7) := by
    rw [show (6 : Int32) = nI 6 from rfl, show (7 : Int32) = nI 7 from rfl, nI_add, pk_rem (by omega) (by decide) (by decide)]
  rw [e]
  unfold cd_df at h
  rw [hM] at h
  exact ⟨by decide, cy_dfit hR hr (by omega) h⟩
end
