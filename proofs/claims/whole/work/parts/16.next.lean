/-! next and previous -/
section
variable {w : Nat → Int64} {b o : Nat → Int32} {r : Nat}
theorem cx_n96 {post : Int64 → Prop} {d t : Nat} (hd : d < 146097) (ht : t < 1440) (h : post (lN (1440 * d + t))) : wX_next_96 post (nI d) (nI t) w b := by
  refine br_f (cl_ne (by omega)) ?_
  show post (1440 * (nI d).toInt64 + (nI t).toInt64)
  rw [cl_min (by omega) (by omega)]
  exact h
theorem cx_p100 {post : Int64 → Prop} {d t : Nat} (hd : d < 146097) (ht : t < 1440) (h : post (lN (1440 * d + t))) : wX_previous_100 post (nI d) (nI t) w b := by
  refine br_f (cl_ne (by omega)) ?_
  show post (1440 * (nI d).toInt64 + (nI t).toInt64)
  rw [cl_min (by omega) (by omega)]
  exact h
theorem cx_n77 {post : Int64 → Prop} {d t0 : Nat} (hR : cr_R w b o) (hr : r < 4) (hd : d < 146097) (h0 : t0 < 1440) (hb : cd_df w b r d = false ∨ ∀ i, t0 ≤ i → i < 1440 → cd_tf w r i = false) (h : ∀ x, cs_N (cs_A (cd_df w b r) (cd_tf w r)) (1440 * d + t0) x → post x) : wX_next_77 post (nI r) (nI d) w b := by
  unfold wX_next_77
  rw [nI_1]
  refine cx_ffd hR hr (by omega) (fun x hx => cx_fft (t0 := 0) hr (by decide) (fun x2 hx2 => ?_))
  rcases hx with ⟨d', d1, d2, d3, d4, rfl⟩ | ⟨d1, rfl⟩
  · rcases hx2 with ⟨t, t1, t2, t3, t4, rfl⟩ | ⟨t1, _⟩
    · exact cx_n96 d2 t2 (h _ (cs_N2 hb h0 d1 d2 d3 d4 t2 t3 (fun i a => t4 i (Nat.zero_le _) a)))
    · obtain ⟨t, q1, q2⟩ := cd_ne hR hr
      rw [t1 t (Nat.zero_le _) q1] at q2
      exact absurd q2 (by decide)
  · exact br_t rfl (h _ (cs_N3 hb d1))
theorem cx_n36 {post : Int64 → Prop} {S : Nat} (hR : cr_R w b o) (hr : r < 4) (hS : S < 210379680) (h : ∀ x, cs_N (cs_A (cd_df w b r) (cd_tf w r)) S x → post x) : wX_next_36 post (nI r) (lN S) w b := by
  have b2 := (cr_at hR hr (show 2 < 5 by decide)).1
  have b4 := (cr_at hR hr (show 4 < 5 by decide)).1
  have e : S = 1440 * (S / 1440) + S % 1440 := by omega
  rw [e] at h
  refine ⟨by decide, nm_r (cl_div (by omega)) ⟨by decide, ?_⟩⟩
  rw [cl_rem (by omega)]
  have hd : S / 1440 < 146097 := by omega
  have ht : S % 1440 < 1440 := by omega
  generalize S / 1440 = d at h hd ⊢
  generalize S % 1440 = t0 at h ht ⊢
  refine cx_fft hr ht (fun x hx => ?_)
  rcases hx with ⟨t, t1, t2, t3, t4, rfl⟩ | ⟨t1, rfl⟩
  · refine br_f (cl_ne (by omega)) (cx_df hr hd b2 b4 (cb_z (fun q => ?_) (fun q => ?_)))
    · exact cx_n77 hR hr hd ht (Or.inl q) h
    · exact cx_n96 hd t2 (h _ (cs_N1 hd t1 t2 t4 q t3))
  · exact br_t rfl (cx_n77 hR hr hd ht (Or.inr t1) h)
theorem cx_p79 {post : Int64 → Prop} {d t0 : Nat} (hR : cr_R w b o) (hr : r < 4) (hd : d < 146097) (h0 : t0 < 1440) (hb : cd_df w b r d = false ∨ ∀ i, i < t0 + 1 → cd_tf w r i = false) (h : ∀ x, cs_P (cs_A (cd_df w b r) (cd_tf w r)) (1440 * d + t0 + 1) x → post x) : wX_previous_79 post (nI r) (nI d) w b := by
  unfold wX_previous_79
  refine cx_lfd hR hr (by omega) (fun x hx => cx_lft (t0 := 1439) hr (by decide) (fun x2 hx2 => ?_))
  rcases hx with ⟨d', d1, d2, d3, d4, rfl⟩ | ⟨d1, rfl⟩
  · rcases hx2 with ⟨t, t1, t2, t3, t4, rfl⟩ | ⟨t1, _⟩
    · exact cx_p100 (by omega) t2 (h _ (cs_P2 hb h0 d2 d3 d4 t2 t3 t4))
    · obtain ⟨t, q1, q2⟩ := cd_ne hR hr
      rw [t1 t (Nat.zero_le _) q1] at q2
      exact absurd q2 (by decide)
  · exact br_t rfl (h _ (cs_P3 hb h0 (fun i a => d1 i (Nat.zero_le _) a)))
theorem cx_p38 {post : Int64 → Prop} {S : Nat} (hR : cr_R w b o) (hr : r < 4) (hS : S < 210379680) (h : ∀ x, cs_P (cs_A (cd_df w b r) (cd_tf w r)) (S + 1) x → post x) : wX_previous_38 post (nI r) (lN S) w b := by
  have b2 := (cr_at hR hr (show 2 < 5 by decide)).1
  have b4 := (cr_at hR hr (show 4 < 5 by decide)).1
  have e : S = 1440 * (S / 1440) + S % 1440 := by omega
  rw [e] at h
  refine ⟨by decide, nm_r (cl_div (by omega)) ⟨by decide, ?_⟩⟩
  rw [cl_rem (by omega)]
  have hd : S / 1440 < 146097 := by omega
  have ht : S % 1440 < 1440 := by omega
  generalize S / 1440 = d at h hd ⊢
  generalize S % 1440 = t0 at h ht ⊢
  refine cx_lft hr ht (fun x hx => ?_)
  rcases hx with ⟨t, t1, t2, t3, t4, rfl⟩ | ⟨t1, rfl⟩
  · refine br_f (cl_ne (by omega)) (cx_df hr hd b2 b4 (cb_z (fun q => ?_) (fun q => ?_)))
    · exact cx_p79 hR hr hd ht (Or.inl q) h
    · exact cx_p100 hd (by omega) (h _ (cs_P1 (by omega) ht t4 q t3))
  · exact br_t rfl (cx_p79 hR hr hd ht (Or.inr (fun i a => t1 i (Nat.zero_le _) a)) h)
/-! the reference's search, up -/
theorem cy_u103 {post : Int64 → SY → Prop} {J : Int32 → Int32 → Int32 → Int32 → Int32 → (Nat → Int32) → (Nat → Int32) → Prop} {d : Nat} {y m k x1 : Int32} (hd : d < 146097) (hs : cy_St d y m k) (h : ∀ y' m' k', cy_St (d + 1) y' m' k' → J (nI (d + 1)) 0 y' m' k' o b) : wY_search_103 post J x1 1 (nI d) y m k o b :=
  nm_r (nI_1 d) (br_f (by decide) (cy_up hd hs (fun y' m' k' h' => h y' m' k' h')))
theorem cy_u58 {post : Int64 → SY → Prop} {J : Int32 → Int32 → Int32 → Int32 → Int32 → (Nat → Int32) → (Nat → Int32) → Prop} {S d : Nat} {y m k : Int32} (hR : cr_R w b o) (hr : r < 4) (hd : d < 146097) (hD : cd_df w b r d = true) (hs : cy_St d y m k) (h : ∀ x y' m' k', cs_N (cs_A (cd_df w b r) (cd_tf w r)) S x → post x (y', m', k', o, b)) (hJ : (∀ i, S ≤ i → i < 1440 * (d + 1) + 0 → cs_A (cd_df w b r) (cd_tf w r) i = false) → ∀ y' m' k', cy_St (d + 1) y' m' k' → J (nI (d + 1)) 0 y' m' k' o b) : ∀ n t, t ≤ 1440 → 1440 - t < n → S ≤ 1440 * d + t → (∀ i, S ≤ i → i < 1440 * d + t → cs_A (cd_df w b r) (cd_tf w r) i = false) → wY_search_58 post J (nI r) 1 (nI d) y m k o b n (nI t) := by
  intro n
  induction n with
  | zero => intro t _ h2; omega
  | succ n ih =>
    intro t h1 h2 h3 h4
    refine br_f (nI_pos (by omega)) (pk_le 1440 t (fun z => ?_) (fun z => ?_))
    · exact cy_u103 hd hs (hJ (fun i a c => h4 i a (by omega)))
    · refine cy_tf hR hr z (cb_z (fun q => ?_) (fun q => ?_))
      · exact nm_r (nI_1 t) (ih (t + 1) (by omega) (by omega) (by omega) (cs_Nt z h4 q))
      · rw [cl_min (by omega) (by omega)]
        exact h _ _ _ _ (cs_Nhit h3 hd z h4 hD q)
theorem cy_u22 {post : Int64 → SY → Prop} {S : Nat} (hR : cr_R w b o) (hr : r < 4) (h : ∀ x y' m' k', cs_N (cs_A (cd_df w b r) (cd_tf w r)) S x → post x (y', m', k', o, b)) : ∀ n d t y m k, d ≤ 146097 → 146097 - d < n → t < 1440 → cy_St d y m k → S ≤ 1440 * d + t → (∀ i, S ≤ i → i < 1440 * d + t → cs_A (cd_df w b r) (cd_tf w r) i = false) → wY_search_22 post (nI r) 1 n (nI d) (nI t) y m k o b := by
  intro n
  induction n with
  | zero => intro d t y m k _ h2; omega
  | succ n ih =>
    intro d t y m k h1 h2 ht hs h3 h4
    refine br_f (nI_pos (by omega)) (pk_lt 146096 d (fun z => ?_) (fun z => ?_))
    · refine h _ _ _ _ (cs_Nend (fun i a c => h4 i a ?_))
      have : d = 146097 := by omega
      omega
    · have hd : d < 146097 := by omega
      have nxt : (∀ i, S ≤ i → i < 1440 * (d + 1) + 0 → cs_A (cd_df w b r) (cd_tf w r) i = false) → ∀ y' m' k', cy_St (d + 1) y' m' k' → wY_search_22 post (nI r) 1 n (nI (d + 1)) 0 y' m' k' o b := fun g y' m' k' h' => ih (d + 1) 0 y' m' k' (by omega) (by omega) (by decide) h' (by omega) g
      refine cy_df hR hr hd hs (cb_z (fun q => ?_) (fun q => ?_))
      · exact cy_u103 hd hs (nxt (cs_Nd h4 q))
      · exact ⟨_, cy_u58 hR hr hd q hs h nxt 1441 t (by omega) (by omega) h3 h4⟩
theorem cy_sup {post : Int64 → SY → Prop} {S : Nat} {y m k : Int32} (hR : cr_R w b o) (hr : r < 4) (hS : S < 210379680) (h : ∀ x y' m' k', cs_N (cs_A (cd_df w b r) (cd_tf w r)) S x → post x (y', m', k', o, b)) : wpY_search post (y, m, k, o, b) (nI r) (lN S) 1 := by
  refine ⟨by decide, nm_r (cl_div (by omega)) ⟨by decide, nm_r (cl_rem (by omega)) (cy_split (by omega) ?_)⟩⟩
  exact ⟨_, cy_u22 hR hr h 146098 (S / 1440) (S % 1440) _ _ _ (by omega) (by omega) (by omega) (cy_stOf (by omega)) (by omega) (fun i a c => absurd a (by omega))⟩
/-! down -/
theorem cy_d103 {post : Int64 → SY → Prop} {J : Int32 → Int32 → Int32 → Int32 → Int32 → (Nat → Int32) → (Nat → Int32) → Prop} {d : Nat} {y m k x1 : Int32} (hd : d < 146097) (hs : cy_St d y m k) (h : ∀ y' m' k', (∀ c, d = c + 1 → cy_St c y' m' k') → J (nI d + (-1)) 1439 y' m' k' o b) : wY_search_103 post J x1 (-1) (nI d) y m k o b := by
  refine nm_e (br_t (by decide) ?_)
  cases d with
  | zero => exact cy_dn0 hs (fun y' m' k' => h y' m' k' (fun c e => absurd e (by omega)))
  | succ c => exact cy_dn hd hs (fun y' m' k' h' => h y' m' k' (fun c' e => by rw [show c' = c by omega]; exact h'))
theorem cy_d58 {post : Int64 → SY → Prop} {J : Int32 → Int32 → Int32 → Int32 → Int32 → (Nat → Int32) → (Nat → Int32) → Prop} {S d : Nat} {y m k : Int32} (hR : cr_R w b o) (hr : r < 4) (hd : d < 146097) (hD : cd_df w b r d = true) (hs : cy_St d y m k) (h : ∀ x y' m' k', cs_P (cs_A (cd_df w b r) (cd_tf w r)) S x → post x (y', m', k', o, b)) (hJ : (∀ i, 1440 * d ≤ i → i < S → cs_A (cd_df w b r) (cd_tf w r) i = false) → ∀ y' m' k', (∀ c, d = c + 1 → cy_St c y' m' k') → J (nI d + (-1)) 1439 y' m' k' o b) : ∀ n e, e ≤ 1440 → e < n → 1440 * d + e ≤ S → (∀ i, 1440 * d + e ≤ i → i < S → cs_A (cd_df w b r) (cd_tf w r) i = false) → wY_search_58 post J (nI r) (-1) (nI d) y m k o b n (nI e + (-1)) := by
  intro n
  induction n with
  | zero => intro e _ h2; omega
  | succ n ih =>
    intro e h1 h2 h3 h4
    cases e with
    | zero => exact br_t (by decide) (cy_d103 hd hs (hJ (fun i a c => h4 i (by omega) c)))
    | succ t =>
      rw [pk_m1]
      refine br_f (nI_pos (by omega)) (pk_le 1440 t (fun z => absurd z (by omega)) (fun z => ?_))
      refine cy_tf hR hr z (cb_z (fun q => ?_) (fun q => ?_))
      · exact nm_e (ih t (by omega) (by omega) (by omega) (cs_Pt z h4 q))
      · rw [cl_min (by omega) (by omega)]
        exact h _ _ _ _ (cs_Phit (by omega) z (fun i a c => h4 i (by omega) c) hD q)
theorem cy_d22 {post : Int64 → SY → Prop} {S : Nat} (hR : cr_R w b o) (hr : r < 4) (h : ∀ x y' m' k', cs_P (cs_A (cd_df w b r) (cd_tf w r)) S x → post x (y', m', k', o, b)) : ∀ n c t y m k, c ≤ 146097 → c < n → t < 1440 → (∀ d, c = d + 1 → cy_St d y m k ∧ 1440 * d + t < S ∧ (∀ i, 1440 * d + (t + 1) ≤ i → i < S → cs_A (cd_df w b r) (cd_tf w r) i = false)) → (c = 0 → ∀ i, i < S → cs_A (cd_df w b r) (cd_tf w r) i = false) → wY_search_22 post (nI r) (-1) n (nI c + (-1)) (nI t) y m k o b := by
  intro n
  induction n with
  | zero => intro c t y m k _ h2; omega
  | succ n ih =>
    intro c t y m k h1 h2 ht hc h0
    cases c with
    | zero => exact br_t (by decide) (h _ _ _ _ (cs_Pend (h0 rfl)))
    | succ d =>
      obtain ⟨hs, hS, h4⟩ := hc d rfl
      rw [pk_m1]
      have hd : d < 146097 := by omega
      refine br_f (nI_pos (by omega)) (pk_lt 146096 d (fun z => absurd z (by omega)) (fun z => ?_))
      have nxt : (∀ i, 1440 * d ≤ i → i < S → cs_A (cd_df w b r) (cd_tf w r) i = false) → ∀ y' m' k', (∀ c, d = c + 1 → cy_St c y' m' k') → wY_search_22 post (nI r) (-1) n (nI d + (-1)) 1439 y' m' k' o b := fun g y' m' k' h' => ih d 1439 y' m' k' (by omega) (by omega) (by decide) (fun c e => ⟨h' c e, by omega, fun i a q => g i (by omega) q⟩) (fun e i a => g i (by omega) a)
      refine cy_df hR hr hd hs (cb_z (fun q => ?_) (fun q => ?_))
      · exact cy_d103 hd hs (nxt (cs_Pd (by omega) h4 q))
      · have hx := cy_d58 hR hr hd q hs h nxt 1442 (t + 1) (by omega) (by omega) (by omega) h4
        rw [pk_m1] at hx
        exact ⟨_, hx⟩
theorem cy_sdn {post : Int64 → SY → Prop} {S : Nat} {y m k : Int32} (hR : cr_R w b o) (hr : r < 4) (hS : S < 210379680) (h : ∀ x y' m' k', cs_P (cs_A (cd_df w b r) (cd_tf w r)) (S + 1) x → post x (y', m', k', o, b)) : wpY_search post (y, m, k, o, b) (nI r) (lN S) (-1) := by
  refine ⟨by decide, nm_r (cl_div (by omega)) ⟨by decide, nm_r (cl_rem (by omega)) (cy_split (by omega) ?_)⟩⟩
  have hx := cy_d22 hR hr h 146099 (S / 1440 + 1) (S % 1440) _ _ _ (by omega) (by omega) (by omega) (fun d e => ⟨by rw [show d = S / 1440 by omega]; exact cy_stOf (d := S / 1440) (by omega), by omega, fun i a c => absurd a (by omega)⟩) (fun e => absurd e (by omega))
  rw [pk_m1] at hx
  exact ⟨_, hx⟩
end
theorem i_vc_next {k : Nat} {u : SX} {v : SY} (I : i_Rel k u v) (hk : k + 4 ≤ 2048) (v1 : Int32) (a1 : Int64) : wpX_next (fun r => wpY_next (fun r' v' => r' = r ∧ i_Rel (k + 4) u v') v v1 a1) u v1 a1 := by
  obtain ⟨w, b⟩ := u
  obtain ⟨y, m, q, o, b'⟩ := v
  obtain ⟨e, hR⟩ := I
  have e' : b = b' := e
  subst e'
  have hR' : cr_R w b o := hR
  unfold wpX_next wpY_next
  dsimp only
  refine cx_rule (fun c => br_f (by decide) ?_) (fun c => br_t rfl (cy_rule (fun g => absurd g c) (fun _ => br_f (by decide) ⟨rfl, rfl, hR⟩)))
  obtain ⟨r, hr, rfl⟩ := c
  by_cases z : a1 < 210379679
  · refine br_t z ?_
    by_cases z0 : 0 ≤ a1
    · obtain ⟨s, hs, rfl⟩ := pk_lOf (x := a1) (Int64.not_lt.mpr z0)
      have hs2 : s < 210379679 := (pk_lLT hs (by decide)).mp z
      refine br_t z0 ?_
      rw [lN_1]
      refine cx_n36 hR' hr (by omega) (fun x hx => cy_rule (fun _ => br_t rfl (br_t z (br_t z0 ?_))) (fun g => absurd ⟨r, hr, rfl⟩ g))
      exact cy_sup hR' hr (by omega) (fun x' y' m' k' hx' => ⟨cs_N_u hx hx', rfl, hR⟩)
    · refine br_f z0 (cx_n36 (S := 0) hR' hr (by omega) (fun x hx => cy_rule (fun _ => br_t rfl (br_t z (br_f z0 ?_))) (fun g => absurd ⟨r, hr, rfl⟩ g)))
      exact cy_sup (S := 0) hR' hr (by omega) (fun x' y' m' k' hx' => ⟨cs_N_u hx hx', rfl, hR⟩)
  · exact br_f z (cy_rule (fun _ => br_t rfl (br_f z ⟨rfl, rfl, hR⟩)) (fun g => absurd ⟨r, hr, rfl⟩ g))
theorem i_vc_previous {k : Nat} {u : SX} {v : SY} (I : i_Rel k u v) (hk : k + 4 ≤ 2048) (v1 : Int32) (a1 : Int64) : wpX_previous (fun r => wpY_previous (fun r' v' => r' = r ∧ i_Rel (k + 4) u v') v v1 a1) u v1 a1 := by
  obtain ⟨w, b⟩ := u
  obtain ⟨y, m, q, o, b'⟩ := v
  obtain ⟨e, hR⟩ := I
  have e' : b = b' := e
  subst e'
  have hR' : cr_R w b o := hR
  unfold wpX_previous wpY_previous
  dsimp only
  refine cx_rule (fun c => br_f (by decide) ?_) (fun c => br_t rfl (cy_rule (fun g => absurd g c) (fun _ => br_f (by decide) ⟨rfl, rfl, hR⟩)))
  obtain ⟨r, hr, rfl⟩ := c
  by_cases z : 0 < a1
  · refine br_t z ?_
    by_cases z1 : a1 ≤ 210379679
    · obtain ⟨s, hs, rfl⟩ := pk_lOf (x := a1) (fun h => Int64.lt_irrefl (Int64.lt_trans z h))
      have hs2 : s ≤ 210379679 := (pk_lLE hs (by decide)).mp z1
      have hs0 : 0 < s := (pk_lLT (a := 0) (by decide) hs).mp z
      refine br_t z1 ?_
      rw [show (1 : Int64) = lN 1 from rfl, lN_sub (by omega)]
      refine cx_p38 hR' hr (by omega) (fun x hx => cy_rule (fun _ => br_t rfl (br_t z (br_t z1 ?_))) (fun g => absurd ⟨r, hr, rfl⟩ g))
      exact cy_sdn hR' hr (by omega) (fun x' y' m' k' hx' => ⟨cs_P_u hx hx', rfl, hR⟩)
    · refine br_f z1 (cx_p38 (S := 210379679) hR' hr (by omega) (fun x hx => cy_rule (fun _ => br_t rfl (br_t z (br_f z1 ?_))) (fun g => absurd ⟨r, hr, rfl⟩ g)))
      exact cy_sdn (S := 210379679) hR' hr (by omega) (fun x' y' m' k' hx' => ⟨cs_P_u hx hx', rfl, hR⟩)
  · exact br_f z (cy_rule (fun _ => br_t rfl (br_f z ⟨rfl, rfl, hR⟩)) (fun g => absurd ⟨r, hr, rfl⟩ g))
