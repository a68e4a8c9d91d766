/-! fits, dueOn, dueDays -/
theorem cd_fin {post : Int32 → Prop} {p : Bool} (h : post (cb_i p)) : (cb_i p = 0 → post 0) ∧ (¬ cb_i p = 0 → post 1) := by
  cases p
  · exact br_t rfl h
  · exact br_f (by decide) h
section
variable {w : Nat → Int64} {b o : Nat → Int32} {r : Nat}
theorem cx_fitsG {post : Int32 → Prop} {s : Nat} (hR : cr_R w b o) (hr : r < 4) (hs : s < 210379680) (h : post (cb_i (cd_df w b r (s / 1440) && cd_tf w r (s % 1440)))) : wpX_fits post (w, b) (nI r) (lN s) := by
  have b2 := (cr_at hR hr (show 2 < 5 by decide)).1
  have b4 := (cr_at hR hr (show 4 < 5 by decide)).1
  unfold wpX_fits
  dsimp only
  refine cx_rule (fun _ => br_f (by decide) ?_) (fun g => absurd ⟨r, hr, rfl⟩ g)
  refine br_f (fun z => absurd ((pk_lLT (b := 0) (by omega) (by decide)).mp z) (by omega)) (br_t ((pk_lLE (b := 210379679) (by omega) (by decide)).mpr (by omega)) ?_)
  refine ⟨by decide, nm_r (cl_div (by omega)) ⟨by decide, nm_r (cl_rem (by omega)) (cx_tf hr (by omega) ?_)⟩⟩
  cases hT : cd_tf w r (s % 1440)
  · rw [hT, Bool.and_false] at h
    exact br_t rfl h
  · rw [hT, Bool.and_true] at h
    exact br_f (by decide) (cx_df hr (by omega) b2 b4 (cd_fin h))
theorem cy_fitsG {post : Int32 → SY → Prop} {y m k : Int32} {s : Nat} (hR : cr_R w b o) (hr : r < 4) (hs : s < 210379680) (h : ∀ y' m' k', post (cb_i (cd_df w b r (s / 1440) && cd_tf w r (s % 1440))) (y', m', k', o, b)) : wpY_fits post (y, m, k, o, b) (nI r) (lN s) := by
  unfold wpY_fits
  dsimp only
  refine cy_rule (fun _ => br_t rfl ?_) (fun g => absurd ⟨r, hr, rfl⟩ g)
  refine br_f (fun z => absurd ((pk_lLT (b := 0) (by omega) (by decide)).mp z) (by omega)) (br_t ((pk_lLE (b := 210379679) (by omega) (by decide)).mpr (by omega)) ?_)
  refine ⟨by decide, nm_r (cl_div (by omega)) (cy_split (by omega) ?_)⟩
  dsimp only
  rw [cl_rem (by omega)]
  refine cy_df hR hr (by omega) (cy_stOf (by omega)) ?_
  cases hD : cd_df w b r (s / 1440)
  · rw [hD, Bool.false_and] at h
    exact br_t rfl (h _ _ _)
  · rw [hD, Bool.true_and] at h
    exact br_f (by decide) ⟨by decide, cy_tf hR hr (by omega) (cd_fin (post := fun x => post x (nI (2000 + cc_mo (s / 1440) / 12), nI (cc_mo (s / 1440) % 12 + 1), nI (s / 1440 - cc_MF (cc_mo (s / 1440)) + 1), o, b)) (h _ _ _))⟩
/-! dueOn -/
theorem cd_cnt (hR : cr_R w b o) (hr : r < 4) : cc_cnt (cd_tf w r) 1440 = cc_cnt (cb_b (w (5 * r + 1))) 64 * cc_cnt (cb_b (w (5 * r + 0))) 64 := by
  have h1 := (cr_at hR hr (show 1 < 5 by decide)).2.1
  have h0 := (cr_at hR hr (show 0 < 5 by decide)).2.1
  have e1 : cc_cnt (cb_b (w (5 * r + 1))) 64 = cc_cnt (cb_b (w (5 * r + 1))) 24 := cc_cnt_0 (fun i a c => by
    cases z : cb_b (w (5 * r + 1)) i
    · rfl
    · have h2 : i ≤ 23 := (h1 i c z).2
      omega) (by omega)
  have e0 : cc_cnt (cb_b (w (5 * r + 0))) 64 = cc_cnt (cb_b (w (5 * r + 0))) 60 := cc_cnt_0 (fun i a c => by
    cases z : cb_b (w (5 * r + 0)) i
    · rfl
    · have h2 : i ≤ 59 := (h0 i c z).2
      omega) (by omega)
  rw [e1, e0]
  exact cc_cnt_m (f := cb_b (w (5 * r + 1))) (g := cb_b (w (5 * r + 0))) 24
theorem cx_dueOnG {post : Int32 → Prop} {d : Nat} (hR : cr_R w b o) (hr : r < 4) (hd : d < 146097) (h : post (if cd_df w b r d then nI (cc_cnt (cd_tf w r) 1440) else 0)) : wpX_dueOn post (w, b) (nI r) (nI d) := by
  have b2 := (cr_at hR hr (show 2 < 5 by decide)).1
  have b4 := (cr_at hR hr (show 4 < 5 by decide)).1
  unfold wpX_dueOn
  dsimp only
  refine cx_rule (fun _ => br_f (by decide) ?_) (fun g => absurd ⟨r, hr, rfl⟩ g)
  refine cx_day (fun _ => br_f (by decide) ?_) (fun g => absurd ⟨d, hd, rfl⟩ g)
  refine cx_df hr hd b2 b4 (cb_z (fun z => ?_) (fun z => ?_))
  · rw [if_neg (by rw [z]; decide)] at h
    exact h
  · rw [if_pos z, cd_cnt hR hr, ← pk_mul] at h
    exact cx_count (f := 1) hr (by decide) (cr_at hR hr (show 1 < 5 by decide)).2.1 (cx_count (f := 0) hr (by decide) (cr_at hR hr (show 0 < 5 by decide)).2.1 h)
theorem cy_do56 {post : Int32 → SY → Prop} {y m k : Int32} (hR : cr_R w b o) (hr : r < 4) (h : post (nI (cc_cnt (cd_tf w r) 1440)) (y, m, k, o, b)) : ∀ n t, t ≤ 1440 → 1440 - t < n → wY_dueOn_56 post (nI r) y m k o b n (nI (cc_cnt (cd_tf w r) t)) (nI t) := by
  intro n
  induction n with
  | zero => intro t _ h2; omega
  | succ n ih =>
    intro t h1 h2
    refine pk_le 1440 t (fun z => ?_) (fun z => ?_)
    · rw [show t = 1440 by omega]
      exact h
    · have hi := ih (t + 1) (by omega) (by omega)
      refine cy_tf hR hr z (cb_z (fun q => ?_) (fun q => ?_))
      · rw [cc_cnt_f q] at hi
        exact nm_r (nI_1 t) hi
      · rw [cc_cnt_t q] at hi
        exact nm_r (nI_1 _) (nm_r (nI_1 t) hi)
theorem cy_dueOnG {post : Int32 → SY → Prop} {y m k : Int32} {d : Nat} (hR : cr_R w b o) (hr : r < 4) (hd : d < 146097) (h : ∀ y' m' k', post (if cd_df w b r d then nI (cc_cnt (cd_tf w r) 1440) else 0) (y', m', k', o, b)) : wpY_dueOn post (y, m, k, o, b) (nI r) (nI d) := by
  unfold wpY_dueOn
  dsimp only
  refine cy_rule (fun _ => br_t rfl ?_) (fun g => absurd ⟨r, hr, rfl⟩ g)
  refine cy_day (fun _ => br_t rfl (cy_split hd ?_)) (fun g => absurd ⟨d, hd, rfl⟩ g)
  dsimp only
  refine cy_df hR hr hd (cy_stOf hd) (cb_z (fun z => ?_) (fun z => ?_))
  · rw [if_neg (by rw [z]; decide)] at h
    exact h _ _ _
  · rw [if_pos z] at h
    exact ⟨_, cy_do56 hR hr (h _ _ _) 1441 0 (by omega) (by omega)⟩
/-! dueDays -/
theorem cx_dd48 {post : Int32 → Prop} {a c : Nat} (hR : cr_R w b o) (hr : r < 4) (ha : a + c ≤ 146097) (h : post (nI (cc_cnt (fun i => cd_df w b r (a + i)) c))) : ∀ n i, i ≤ c → c - i < n → wX_dueDays_48 post (nI r) (nI a) (nI c) w b n (nI (cc_cnt (fun i => cd_df w b r (a + i)) i)) (nI i) := by
  have b2 := (cr_at hR hr (show 2 < 5 by decide)).1
  have b4 := (cr_at hR hr (show 4 < 5 by decide)).1
  intro n
  induction n with
  | zero => intro i _ h2; omega
  | succ n ih =>
    intro i h1 h2
    unfold wX_dueDays_48
    rw [nI_add a i]
    refine pk_le c i (fun z => ?_) (fun z => ?_)
    · rw [show i = c by omega]
      exact h
    · have hi := ih (i + 1) (by omega) (by omega)
      refine cx_df hr (by omega) b2 b4 (cb_z (fun q => ?_) (fun q => ?_))
      · rw [cc_cnt_f (f := fun i => cd_df w b r (a + i)) q] at hi
        exact nm_r (nI_1 i) hi
      · rw [cc_cnt_t (f := fun i => cd_df w b r (a + i)) q] at hi
        exact nm_r (nI_1 _) (nm_r (nI_1 i) hi)
theorem cy_dd70 {post : Int32 → SY → Prop} {a c : Nat} (hR : cr_R w b o) (hr : r < 4) (ha : a + c ≤ 146097) (h : ∀ y' m' k', post (nI (cc_cnt (fun i => cd_df w b r (a + i)) c)) (y', m', k', o, b)) : ∀ n i y m k, i ≤ c → c - i < n → cy_St (a + i) y m k → wY_dueDays_70 post (nI r) (nI a) (nI c) n (nI (cc_cnt (fun i => cd_df w b r (a + i)) i)) (nI i) y m k o b := by
  intro n
  induction n with
  | zero => intro i y m k _ h2; omega
  | succ n ih =>
    intro i y m k h1 h2 hs
    unfold wY_dueDays_70
    rw [nI_add a i]
    refine pk_le c i (fun z => ?_) (fun z => ?_)
    · rw [show i = c by omega]
      exact h _ _ _
    · have hi := fun y' m' k' => ih (i + 1) y' m' k' (by omega) (by omega)
      refine cy_df hR hr (by omega) hs (cb_z (fun q => ?_) (fun q => ?_))
      · rw [cc_cnt_f (f := fun i => cd_df w b r (a + i)) q] at hi
        exact cy_up (by omega) hs (fun y' m' k' h' => nm_r (nI_1 i) (hi y' m' k' h'))
      · rw [cc_cnt_t (f := fun i => cd_df w b r (a + i)) q] at hi
        exact nm_r (nI_1 _) (cy_up (by omega) hs (fun y' m' k' h' => nm_r (nI_1 i) (hi y' m' k' h')))
theorem cy_dd27 {post : Int32 → SY → Prop} {y m k : Int32} {a c : Nat} (hR : cr_R w b o) (hr : r < 4) (hc : 0 < c) (ha : a + c ≤ 146097) (h : ∀ y' m' k', post (nI (cc_cnt (fun i => cd_df w b r (a + i)) c)) (y', m', k', o, b)) : ∀ n i, i ≤ c → c - i < n → wY_dueDays_27 post (nI r) (nI a) (nI c) y m k o b n (nI i) := by
  intro n
  induction n with
  | zero => intro i _ h2; omega
  | succ n ih =>
    intro i h1 h2
    unfold wY_dueDays_27
    rw [nI_add a i]
    refine pk_le c i (fun z => ?_) (fun z => ?_)
    · refine br_f (nI_ne0 hc (by omega)) (cy_split (by omega) ?_)
      exact ⟨_, cy_dd70 hR hr ha h (c + 1) 0 _ _ _ (by omega) (by omega) (cy_stOf (by omega))⟩
    · exact cy_day (fun _ => br_t rfl (nm_r (nI_1 i) (ih (i + 1) (by omega) (by omega)))) (fun g => absurd ⟨a + i, by omega, rfl⟩ g)
theorem cy_dd27b {post : Int32 → SY → Prop} {y m k x1 : Int32} {a c : Nat} (hc : 0 < c) (hc2 : c ≤ 1000) (ha : 146097 < a + c) (ha2 : a < 2 ^ 31) (h : post (-2) (y, m, k, o, b)) : ∀ n i, i < c → a + i ≤ 146097 ∨ i = 0 → c - i < n → wY_dueDays_27 post x1 (nI a) (nI c) y m k o b n (nI i) := by
  intro n
  induction n with
  | zero => intro i _ _ h2; omega
  | succ n ih =>
    intro i h1 h0 h2
    unfold wY_dueDays_27
    rw [nI_add a i]
    refine pk_le c i (fun z => absurd z (by omega)) (fun z => ?_)
    rcases Nat.lt_or_ge (a + i) 146097 with g | g
    · exact cy_day (fun _ => br_t rfl (nm_r (nI_1 i) (ih (i + 1) (by omega) (Or.inl (by omega)) (by omega)))) (fun q => absurd ⟨a + i, g, rfl⟩ q)
    · exact cy_day (fun q => absurd q (cf_big (by omega) (by decide) g)) (fun _ => br_f (by decide) h)
end
theorem i_vc_fits {k : Nat} {u : SX} {v : SY} (I : i_Rel k u v) (hk : k + 4 ≤ 2048) (v1 : Int32) (a1 : Int64) : wpX_fits (fun r => wpY_fits (fun r' v' => r' = r ∧ i_Rel (k + 4) u v') v v1 a1) u v1 a1 := by
  obtain ⟨w, b⟩ := u
  obtain ⟨y, m, q, o, b'⟩ := v
  obtain ⟨e, hR⟩ := I
  have e' : b = b' := e
  subst e'
  have hR' : cr_R w b o := hR
  by_cases c : cf_r 4 v1
  · obtain ⟨r, hr, rfl⟩ := c
    by_cases z : a1 < 0
    · unfold wpX_fits wpY_fits
      dsimp only
      exact cx_rule (fun _ => br_f (by decide) (br_t z (cy_rule (fun _ => br_t rfl (br_t z ⟨rfl, rfl, hR⟩)) (fun g => absurd ⟨r, hr, rfl⟩ g)))) (fun g => absurd ⟨r, hr, rfl⟩ g)
    · by_cases z1 : a1 ≤ 210379679
      · obtain ⟨s, hs, rfl⟩ := pk_lOf (x := a1) z
        have hs2 : s ≤ 210379679 := (pk_lLE hs (by decide)).mp z1
        exact cx_fitsG hR' hr (by omega) (cy_fitsG hR' hr (by omega) (fun _ _ _ => ⟨rfl, rfl, hR⟩))
      · unfold wpX_fits wpY_fits
        dsimp only
        exact cx_rule (fun _ => br_f (by decide) (br_f z (br_f z1 (cy_rule (fun _ => br_t rfl (br_f z (br_f z1 ⟨rfl, rfl, hR⟩))) (fun g => absurd ⟨r, hr, rfl⟩ g))))) (fun g => absurd ⟨r, hr, rfl⟩ g)
  · unfold wpX_fits wpY_fits
    dsimp only
    exact cx_rule (fun g => absurd g c) (fun _ => br_t rfl (cy_rule (fun g => absurd g c) (fun _ => br_f (by decide) ⟨rfl, rfl, hR⟩)))
theorem i_vc_dueOn {k : Nat} {u : SX} {v : SY} (I : i_Rel k u v) (hk : k + 4 ≤ 2048) (v1 : Int32) (v2 : Int32) : wpX_dueOn (fun r => wpY_dueOn (fun r' v' => r' = r ∧ i_Rel (k + 4) u v') v v1 v2) u v1 v2 := by
  obtain ⟨w, b⟩ := u
  obtain ⟨y, m, q, o, b'⟩ := v
  obtain ⟨e, hR⟩ := I
  have e' : b = b' := e
  subst e'
  have hR' : cr_R w b o := hR
  by_cases c : cf_r 4 v1
  · by_cases c2 : cf_r 146097 v2
    · obtain ⟨r, hr, rfl⟩ := c
      obtain ⟨d, hd, rfl⟩ := c2
      exact cx_dueOnG hR' hr hd (cy_dueOnG hR' hr hd (fun _ _ _ => ⟨rfl, rfl, hR⟩))
    · unfold wpX_dueOn wpY_dueOn
      dsimp only
      exact cx_rule (fun _ => br_f (by decide) (cx_day (fun g => absurd g c2) (fun _ => br_t rfl (cy_rule (fun _ => br_t rfl (cy_day (fun g => absurd g c2) (fun _ => br_f (by decide) ⟨rfl, rfl, hR⟩))) (fun g => absurd c g))))) (fun g => absurd c g)
  · unfold wpX_dueOn wpY_dueOn
    dsimp only
    exact cx_rule (fun g => absurd g c) (fun _ => br_t rfl (cy_rule (fun g => absurd g c) (fun _ => br_f (by decide) ⟨rfl, rfl, hR⟩)))
theorem i_vc_dueDays {k : Nat} {u : SX} {v : SY} (I : i_Rel k u v) (hk : k + 4 ≤ 2048) (v1 : Int32) (v2 : Int32) (v3 : Int32) : wpX_dueDays (fun r => wpY_dueDays (fun r' v' => r' = r ∧ i_Rel (k + 4) u v') v v1 v2 v3) u v1 v2 v3 := by
  obtain ⟨w, b⟩ := u
  obtain ⟨y, m, q, o, b'⟩ := v
  obtain ⟨e, hR⟩ := I
  have e' : b = b' := e
  subst e'
  have hR' : cr_R w b o := hR
  unfold wpX_dueDays wpY_dueDays
  dsimp only
  refine cx_rule (fun c => br_f (by decide) ?_) (fun c => br_t rfl (cy_rule (fun g => absurd g c) (fun _ => br_f (by decide) ⟨rfl, rfl, hR⟩)))
  obtain ⟨r, hr, rfl⟩ := c
  by_cases z : v3 < 0
  · exact br_t z (cy_rule (fun _ => br_t rfl (br_t z ⟨rfl, rfl, hR⟩)) (fun g => absurd ⟨r, hr, rfl⟩ g))
  · refine br_f z ?_
    obtain ⟨c, hc, rfl⟩ := nI_of z
    by_cases z1 : nI c ≤ 1000
    · refine br_t z1 ?_
      have hc2 : c ≤ 1000 := (nI_leI hc (by decide)).mp z1
      refine pk_le c 0 (fun c0 => ?_) (fun c0 => ?_)
      · have ec : c = 0 := by omega
        subst ec
        refine ⟨1, br_t (by decide) (cy_rule (fun _ => br_t rfl (br_f z (br_t z1 ⟨1, br_t (by decide) (br_t (by decide) ⟨rfl, rfl, hR⟩)⟩))) (fun g => absurd ⟨r, hr, rfl⟩ g))⟩
      · by_cases z2 : v2 < 0
        · refine br_t z2 (cy_rule (fun _ => br_t rfl (br_f z (br_t z1 ⟨1, br_f (nI_nle c0 (by omega)) ?_⟩))) (fun g => absurd ⟨r, hr, rfl⟩ g))
          rw [Int32.add_zero]
          exact cy_day (fun g => absurd g (cf_neg (by decide) z2)) (fun _ => br_f (by decide) ⟨rfl, rfl, hR⟩)
        · obtain ⟨a, ha, rfl⟩ := nI_of z2
          refine br_f z2 ?_
          rw [show (146097 : Int32) - nI c = nI (146097 - c) by rw [show (146097 : Int32) = nI 146097 from rfl, pk_sub (by omega)]]
          refine pk_le a (146097 - c) (fun g => ?_) (fun g => ?_)
          · refine ⟨_, cx_dd48 hR' hr (show a + c ≤ 146097 by omega) ?_ (c + 1) 0 (by omega) (by omega)⟩
            refine cy_rule (fun _ => br_t rfl (br_f z (br_t z1 ⟨_, cy_dd27 hR' hr c0 (by omega) (fun _ _ _ => ⟨rfl, rfl, hR⟩) (c + 1) 0 (by omega) (by omega)⟩))) (fun g => absurd ⟨r, hr, rfl⟩ g)
          · refine cy_rule (fun _ => br_t rfl (br_f z (br_t z1 ⟨_, cy_dd27b c0 hc2 (by omega) ha ⟨rfl, rfl, hR⟩ (c + 1) 0 c0 (Or.inr rfl) (by omega)⟩))) (fun g => absurd ⟨r, hr, rfl⟩ g)
    · exact br_f z1 (cy_rule (fun _ => br_t rfl (br_f z (br_f z1 ⟨rfl, rfl, hR⟩))) (fun g => absurd ⟨r, hr, rfl⟩ g))
