/-! allow, joined -/
theorem cm_neg {x : Int32} (s : Int32) (j : Nat) (hs : (s.toBitVec.smod 32).toNat = j) (h : x < 0) : x >>> s < 0 := by
  rw [ci_neg] at h ⊢
  rw [pk_shr x s j hs, Int.shiftRight_eq_div_pow]
  exact Int.ediv_neg_of_neg_of_pos h (by exact_mod_cast Nat.two_pow_pos j)
section
variable {w : Nat → Int64} {b : Nat → Int32} {r f a t : Nat} {x : Int32}
theorem cx_allow3 {post : Int32 → SX → Prop} (ha : a < 2 ^ 31) (ht : t < 2 ^ 31) (er : a / 8 = r) (ef : a % 8 = f) (hr : r < 4) (hf : f < 5) (g : ¬ (cc_lo f ≤ t / 64 ∧ t % 64 ≤ cc_hi f ∧ t / 64 ≤ t % 64)) (h : post (-3) (w, b)) : wpX_allow post (w, b) (nI a) (nI t) x := by
  have hh := cc_hi_b f
  unfold wpX_allow
  dsimp only
  refine nm_r (cm_e8 ha) (nm_r (cm_a7 ha) ?_)
  rw [er, ef]
  refine cx_rule (fun _ => br_f (by decide) ?_) (fun g => absurd ⟨r, hr, rfl⟩ g)
  refine cx_field (fun _ => br_f (by decide) ?_) (fun g => absurd ⟨f, hf, rfl⟩ g)
  refine nm_r (cm_e64 ht) (nm_r (cm_a63 ht) ?_)
  refine cx_isv hf (fun c1 => br_f (by decide) ?_) (fun _ => br_t rfl h)
  refine cx_isv hf (fun c2 => br_f (by decide) ?_) (fun _ => br_t rfl h)
  obtain ⟨x1, a1, a2, e1⟩ := c1
  obtain ⟨x2, b1, b2, e2⟩ := c2
  have e1' := (nI_eq (by omega) (by omega)).mp e1
  have e2' := (nI_eq (by omega) (by omega)).mp e2
  exact pk_le (t / 64) (t % 64) (fun z => absurd ⟨by omega, by omega, z⟩ g) (fun _ => h)
theorem cx_allow4 {post : Int32 → SX → Prop} (ha : a < 2 ^ 31) (ht : t < 2 ^ 31) (er : a / 8 = r) (ef : a % 8 = f) (hr : r < 4) (hf : f < 5) (g : cc_lo f ≤ t / 64 ∧ t % 64 ≤ cc_hi f ∧ t / 64 ≤ t % 64) (gx : x < 1 ∨ ¬ x ≤ 59) (h : post (-4) (w, b)) : wpX_allow post (w, b) (nI a) (nI t) x := by
  have hh := cc_hi_b f
  unfold wpX_allow
  dsimp only
  refine nm_r (cm_e8 ha) (nm_r (cm_a7 ha) ?_)
  rw [er, ef]
  refine cx_rule (fun _ => br_f (by decide) ?_) (fun g => absurd ⟨r, hr, rfl⟩ g)
  refine cx_field (fun _ => br_f (by decide) ?_) (fun g => absurd ⟨f, hf, rfl⟩ g)
  refine nm_r (cm_e64 ht) (nm_r (cm_a63 ht) ?_)
  refine cx_isv hf (fun c1 => br_f (by decide) ?_) (fun q => absurd ⟨_, g.1, by omega, rfl⟩ q)
  refine cx_isv hf (fun c2 => br_f (by decide) ?_) (fun q => absurd ⟨_, by omega, g.2.1, rfl⟩ q)
  refine pk_le (t / 64) (t % 64) (fun z => ?_) (fun z => absurd z (by omega))
  by_cases z1 : x < 1
  · exact br_t z1 h
  · exact br_f z1 (br_f (gx.resolve_left z1) h)
end
section
variable {y m k : Int32} {b o : Nat → Int32} {r f a t : Nat} {x : Int32}
theorem cy_allow3 {post : Int32 → SY → Prop} (ha : a < 2 ^ 31) (ht : t < 2 ^ 31) (er : a / 8 = r) (ef : a % 8 = f) (hr : r < 4) (hf : f < 5) (g : ¬ (cc_lo f ≤ t / 64 ∧ t % 64 ≤ cc_hi f ∧ t / 64 ≤ t % 64)) (h : post (-3) (y, m, k, o, b)) : wpY_allow post (y, m, k, o, b) (nI a) (nI t) x := by
  have hh := cc_hi_b f
  have q1 : nI a / 8 = nI r := by rw [show (8 : Int32) = nI 8 from rfl, pk_div ha (by decide) (by decide), er]
  have q2 : nI a - nI a / 8 * 8 = nI f := by rw [show (8 : Int32) = nI 8 from rfl, pk_rem ha (by decide) (by decide), ef]
  have q3 : nI t / 64 = nI (t / 64) := by rw [show (64 : Int32) = nI 64 from rfl, pk_div ht (by decide) (by decide)]
  have q4 : nI t - nI t / 64 * 64 = nI (t % 64) := by rw [show (64 : Int32) = nI 64 from rfl, pk_rem ht (by decide) (by decide)]
  unfold wpY_allow
  dsimp only
  refine br_f (nI_pos ha) ⟨by decide, br_t (by rw [q1]; exact nI_le (b := 3) (by omega) (by decide)) ⟨by decide, nm_r q2 ?_⟩⟩
  refine pk_le f 4 (fun _ => br_t (nI_pos' ht) ?_) (fun z => absurd z (by omega))
  refine ⟨by decide, nm_r q3 ⟨by decide, nm_r q4 ?_⟩⟩
  refine cy_isv hf (fun c1 => br_f (by decide) ?_) (fun _ => br_t rfl h)
  refine cy_isv hf (fun c2 => br_f (by decide) ?_) (fun _ => br_t rfl h)
  obtain ⟨x1, a1, a2, e1⟩ := c1
  obtain ⟨x2, b1, b2, e2⟩ := c2
  have e1' := (nI_eq (by omega) (by omega)).mp e1
  have e2' := (nI_eq (by omega) (by omega)).mp e2
  exact pk_le (t / 64) (t % 64) (fun z => absurd ⟨by omega, by omega, z⟩ g) (fun _ => h)
theorem cy_allow4 {post : Int32 → SY → Prop} (ha : a < 2 ^ 31) (ht : t < 2 ^ 31) (er : a / 8 = r) (ef : a % 8 = f) (hr : r < 4) (hf : f < 5) (g : cc_lo f ≤ t / 64 ∧ t % 64 ≤ cc_hi f ∧ t / 64 ≤ t % 64) (gx : x < 1 ∨ ¬ x ≤ 59) (h : post (-4) (y, m, k, o, b)) : wpY_allow post (y, m, k, o, b) (nI a) (nI t) x := by
  have hh := cc_hi_b f
  have q1 : nI a / 8 = nI r := by rw [show (8 : Int32) = nI 8 from rfl, pk_div ha (by decide) (by decide), er]
  have q2 : nI a - nI a / 8 * 8 = nI f := by rw [show (8 : Int32) = nI 8 from rfl, pk_rem ha (by decide) (by decide), ef]
  have q3 : nI t / 64 = nI (t / 64) := by rw [show (64 : Int32) = nI 64 from rfl, pk_div ht (by decide) (by decide)]
  have q4 : nI t - nI t / 64 * 64 = nI (t % 64) := by rw [show (64 : Int32) = nI 64 from rfl, pk_rem ht (by decide) (by decide)]
  unfold wpY_allow
  dsimp only
  refine br_f (nI_pos ha) ⟨by decide, br_t (by rw [q1]; exact nI_le (b := 3) (by omega) (by decide)) ⟨by decide, nm_r q2 ?_⟩⟩
  refine pk_le f 4 (fun _ => br_t (nI_pos' ht) ?_) (fun z => absurd z (by omega))
  refine ⟨by decide, nm_r q3 ⟨by decide, nm_r q4 ?_⟩⟩
  refine cy_isv hf (fun c1 => br_f (by decide) ?_) (fun q => absurd ⟨_, g.1, by omega, rfl⟩ q)
  refine cy_isv hf (fun c2 => br_f (by decide) ?_) (fun q => absurd ⟨_, by omega, g.2.1, rfl⟩ q)
  refine pk_le (t / 64) (t % 64) (fun z => ?_) (fun z => absurd z (by omega))
  by_cases z1 : x < 1
  · exact br_t z1 h
  · exact br_f z1 (br_f (gx.resolve_left z1) h)
end
theorem cr_allow {w : Nat → Int64} {b o o' : Nat → Int32} {r f A T s : Nat} {M : Int64} (hR : cr_R w b o) (hr : r < 4) (hf : f < 5) (h1 : cc_lo f ≤ A) (h2 : T ≤ cc_hi f) (h3 : A ≤ T) (hM : ∀ v, v < 64 → cb_b M v = cm_M (cm_B w b (5 * r + f)) A T s v) (ho : ∀ v, v < 64 → (o' (64 * (5 * r + f) + v) = 0 ↔ cm_M (cm_B w b (5 * r + f)) A T s v = false)) (hj : ∀ j, (j < 64 * (5 * r + f) ∨ 64 * (5 * r + f) + 64 ≤ j) → o' j = o j) : cr_R (vp_updL w (5 * r + f) M) (upd b (5 * r + f) 0) o' := by
  have hh := cc_hi_b f
  obtain ⟨p1, p2, p3, p4, p5⟩ := cr_at hR hr hf
  refine cr_set hR ?_ hj
  rw [show (5 * r + f) % 5 = f by omega]
  refine ⟨Or.inl rfl, fun v hv e => ?_, fun z => absurd z (by decide), fun _ v hv => ?_, A, by omega, ?_⟩
  · rw [hM v hv] at e
    unfold cm_M cm_B at e
    rw [Bool.or_eq_true, Bool.and_eq_true] at e
    rcases e with e | e
    · exact p2 v hv e.2
    · have := of_decide_eq_true e
      omega
  · dsimp only
    rw [ho v hv, hM v hv]
  · rw [hM A (by omega)]
    unfold cm_M
    rw [decide_eq_true ⟨by omega, h3, by rw [Nat.sub_self, Nat.zero_mod]⟩, Bool.or_true]
theorem i_vc_allow {k : Nat} {u : SX} {v : SY} (I : i_Rel k u v) (hk : k + 4 ≤ 2048) (v1 : Int32) (v2 : Int32) (v3 : Int32) : wpX_allow (fun r u' => wpY_allow (fun r' v' => r' = r ∧ i_Rel (k + 4) u' v') v v1 v2 v3) u v1 v2 v3 := by
  obtain ⟨w, b⟩ := u
  obtain ⟨y, m, q, o, b'⟩ := v
  obtain ⟨e, hR⟩ := I
  have e' : b = b' := e
  subst e'
  have hR' : cr_R w b o := hR
  by_cases z1 : v1 < 0
  · unfold wpX_allow wpY_allow
    dsimp only
    refine nm_e (nm_e (cx_rule (fun g => absurd g (cf_neg (by decide) (cm_neg _ 3 (by decide) z1))) (fun _ => br_t rfl ?_)))
    exact br_t z1 ⟨rfl, rfl, hR⟩
  · obtain ⟨a, ha, rfl⟩ := nI_of z1
    have q1 : nI a / 8 = nI (a / 8) := by rw [show (8 : Int32) = nI 8 from rfl, pk_div ha (by decide) (by decide)]
    have q2 : nI a - nI a / 8 * 8 = nI (a % 8) := by rw [show (8 : Int32) = nI 8 from rfl, pk_rem ha (by decide) (by decide)]
    by_cases hr : a / 8 < 4
    · by_cases hf : a % 8 < 5
      · by_cases z2 : v2 < 0
        · unfold wpX_allow wpY_allow
          dsimp only
          refine nm_r (cm_e8 ha) (nm_r (cm_a7 ha) ?_)
          refine cx_rule (fun _ => br_f (by decide) ?_) (fun g => absurd ⟨_, hr, rfl⟩ g)
          refine cx_field (fun _ => br_f (by decide) ?_) (fun g => absurd ⟨_, hf, rfl⟩ g)
          refine nm_e (nm_e (cx_isv hf (fun g => absurd g (cf_inneg (cm_neg _ 6 (by decide) z2))) (fun _ => br_t rfl ?_)))
          refine br_f z1 ⟨by decide, br_t (by rw [q1]; exact nI_le (b := 3) (by omega) (by decide)) ⟨by decide, nm_r q2 ?_⟩⟩
          exact pk_le (a % 8) 4 (fun _ => br_f (by rw [Int32.not_le]; exact z2) ⟨rfl, rfl, hR⟩) (fun z => absurd z (by omega))
        · obtain ⟨t, ht, rfl⟩ := nI_of z2
          by_cases g : cc_lo (a % 8) ≤ t / 64 ∧ t % 64 ≤ cc_hi (a % 8) ∧ t / 64 ≤ t % 64
          · by_cases gx : v3 < 1 ∨ ¬ v3 ≤ 59
            · exact cx_allow4 ha ht rfl rfl hr hf g gx (cy_allow4 ha ht rfl rfl hr hf g gx ⟨rfl, rfl, hR⟩)
            · have x1 : ¬ v3 < 1 := fun z => gx (Or.inl z)
              have x2 : v3 ≤ 59 := Classical.byContradiction (fun z => gx (Or.inr z))
              have x0 : ¬ v3 < 0 := fun z => x1 (Int32.lt_trans z (by decide))
              obtain ⟨s, hs, rfl⟩ := nI_of x0
              have s1 : ¬ s < 1 := fun z => x1 ((nI_ltI hs (by decide)).mpr z)
              have s2 : s ≤ 59 := (nI_leI hs (by decide)).mp x2
              refine cx_allowG hR' ha ht rfl rfl hr hf g.1 g.2.1 g.2.2 (by omega) s2 (fun M hM => ?_)
              refine cy_allowG hR' ha ht rfl rfl hr hf g.1 g.2.1 g.2.2 (by omega) s2 (fun o' ho hj => ⟨rfl, rfl, ?_⟩)
              exact cr_allow hR' hr hf g.1 g.2.1 g.2.2 hM ho hj
          · exact cx_allow3 ha ht rfl rfl hr hf g (cy_allow3 ha ht rfl rfl hr hf g ⟨rfl, rfl, hR⟩)
      · unfold wpX_allow wpY_allow
        dsimp only
        refine nm_r (cm_e8 ha) (nm_r (cm_a7 ha) ?_)
        refine cx_rule (fun _ => br_f (by decide) ?_) (fun g => absurd ⟨_, hr, rfl⟩ g)
        refine cx_field (fun g => absurd g (cf_big (by omega) (by decide) (by omega))) (fun _ => br_t rfl ?_)
        refine br_f z1 ⟨by decide, br_t (by rw [q1]; exact nI_le (b := 3) (by omega) (by decide)) ⟨by decide, nm_r q2 ?_⟩⟩
        exact pk_le (a % 8) 4 (fun z => absurd z (by omega)) (fun _ => ⟨rfl, rfl, hR⟩)
    · unfold wpX_allow wpY_allow
      dsimp only
      refine nm_r (cm_e8 ha) (nm_r (cm_a7 ha) ?_)
      refine cx_rule (fun g => absurd g (cf_big (by omega) (by decide) (by omega))) (fun _ => br_t rfl ?_)
      refine br_f z1 ⟨by decide, br_f (by rw [q1]; exact nI_ge (a := 3) (by omega) (by omega)) ⟨rfl, rfl, hR⟩⟩
