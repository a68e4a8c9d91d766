/-! the component's searches -/
theorem cl_div {S : Nat} (hS : S < 2 ^ 62) : (lN S / 1440).toInt32 = nI (S / 1440) := by rw [show (1440 : Int64) = lN 1440 from rfl, pk_lDiv (by omega) (by decide) (by decide), lN_i]
theorem cl_rem {S : Nat} (hS : S < 2 ^ 62) : (lN S - lN S / 1440 * 1440).toInt32 = nI (S % 1440) := by rw [show (1440 : Int64) = lN 1440 from rfl, pk_lRem (by omega) (by decide) (by decide), lN_i]
theorem cl_min {d t : Nat} (hd : d < 2 ^ 30) (ht : t < 2 ^ 30) : 1440 * (nI d).toInt64 + (nI t).toInt64 = lN (1440 * d + t) := by rw [nI_l (by omega), nI_l (by omega), show (1440 : Int64) = lN 1440 from rfl, lN_mul, lN_add]
theorem cl_ne {d : Nat} (hd : d < 2 ^ 31) : ¬ nI d = -1 := fun e => nI_pos hd (by rw [e]; decide)
theorem cd_ne {w : Nat → Int64} {b o : Nat → Int32} {r : Nat} (hR : cr_R w b o) (hr : r < 4) : ∃ t, t < 1440 ∧ cd_tf w r t = true := by
  obtain ⟨_, a2, _, _, h, h1, h2⟩ := cr_at hR hr (show 1 < 5 by decide)
  obtain ⟨_, b2, _, _, m, m1, m2⟩ := cr_at hR hr (show 0 < 5 by decide)
  have ah : h ≤ 23 := (a2 h h1 h2).2
  have am : m ≤ 59 := (b2 m m1 m2).2
  refine ⟨60 * h + m, by omega, ?_⟩
  unfold cd_tf
  rw [show (60 * h + m) / 60 = h by omega, show (60 * h + m) % 60 = m by omega, h2, m2]
  rfl
theorem cd_in {w : Nat → Int64} {b : Nat → Int32} {r n d : Nat} (h1 : cc_MF n ≤ d) (h2 : d < cc_MF (n + 1)) (hn : n < 4800) : cd_df w b r d = (cd_mf w r n && cd_dm w b r (d - cc_MF n + 1) d) := by
  unfold cd_df
  rw [cc_at_u (d := d) (n := n) ⟨h1, h2, hn⟩]
section
variable {w : Nat → Int64} {b : Nat → Int32} {r : Nat}
theorem cx_fft_l {post : Int32 → Prop} {t0 : Nat} (hr : r < 4) (h : ∀ x, cs_U (cd_tf w r) t0 1440 x → post x) : ∀ n t, t0 ≤ t → t ≤ 1440 → 1440 - t < n → (∀ i, t0 ≤ i → i < t → cd_tf w r i = false) → wX_firstFittingTime_2 post (nI r) w b n (nI t) := by
  intro n
  induction n with
  | zero => intro t _ _ h2; omega
  | succ n ih =>
    intro t h0 h1 h2 h3
    refine pk_le 1440 t (fun z => ?_) (fun z => ?_)
    · exact h _ (Or.inr ⟨fun i a c => h3 i a (by omega), rfl⟩)
    · refine cx_tf hr z (cb_z (fun q => ?_) (fun q => ?_))
      · refine nm_r (nI_1 t) (ih (t + 1) (by omega) (by omega) (by omega) (fun i a c => ?_))
        by_cases e : i = t
        · rw [e]; exact q
        · exact h3 i a (by omega)
      · exact h _ (Or.inl ⟨t, h0, z, q, h3, rfl⟩)
theorem cx_fft {post : Int32 → Prop} {t0 : Nat} (hr : r < 4) (ht : t0 < 1440) (h : ∀ x, cs_U (cd_tf w r) t0 1440 x → post x) : wpX_firstFittingTime post (w, b) (nI r) (nI t0) :=
  ⟨_, cx_fft_l hr h 1441 t0 (by omega) (by omega) (by omega) (fun i a c => absurd a (by omega))⟩
theorem cx_lft_l {post : Int32 → Prop} {t0 : Nat} (hr : r < 4) (ht : t0 < 1440) (h : ∀ x, cs_V (cd_tf w r) 0 (t0 + 1) x → post x) : ∀ n c, c ≤ t0 + 1 → c < n → (∀ i, c ≤ i → i < t0 + 1 → cd_tf w r i = false) → wX_lastFittingTime_2 post (nI r) w b n (nI c + (-1)) := by
  intro n
  induction n with
  | zero => intro c _ h2; omega
  | succ n ih =>
    intro c h1 h2 h3
    cases c with
    | zero => exact br_t (by decide) (h _ (Or.inr ⟨fun i a e => h3 i a e, rfl⟩))
    | succ t =>
      rw [pk_m1]
      refine br_f (nI_pos (by omega)) (cx_tf hr (by omega) (cb_z (fun q => ?_) (fun q => ?_)))
      · refine nm_e (ih t (by omega) (by omega) (fun i a c => ?_))
        by_cases e : i = t
        · rw [e]; exact q
        · exact h3 i (by omega) c
      · exact h _ (Or.inl ⟨t, Nat.zero_le _, by omega, q, fun i a c => h3 i a c, rfl⟩)
theorem cx_lft {post : Int32 → Prop} {t0 : Nat} (hr : r < 4) (ht : t0 < 1440) (h : ∀ x, cs_V (cd_tf w r) 0 (t0 + 1) x → post x) : wpX_lastFittingTime post (w, b) (nI r) (nI t0) := by
  have hx := cx_lft_l (b := b) hr ht h (t0 + 2) (t0 + 1) (by omega) (by omega) (fun i a c => absurd a (by omega))
  rw [pk_m1] at hx
  exact ⟨_, hx⟩
variable {o : Nat → Int32}
theorem cx_fdm_l {post : Int32 → Prop} {n s : Nat} (hR : cr_R w b o) (hr : r < 4) (hn : n < 4800) (hm : cd_mf w r n = true) (hs : cc_MF n ≤ s) (h : ∀ x, cs_U (cd_df w b r) s (cc_MF (n + 1)) x → post x) : ∀ e d, s ≤ d → d ≤ cc_MF (n + 1) → cc_MF (n + 1) - d < e → (∀ i, s ≤ i → i < d → cd_df w b r i = false) → wX_firstFittingDayOfMonth_28 post (nI r) (nI (cc_MF n)) (nI (cc_MF (n + 1))) w b e (nI d) := by
  have hM := cc_MF_le (n := n + 1) (by omega)
  have hS := (cc_MF_s n).2
  have b2 := (cr_at hR hr (show 2 < 5 by decide)).1
  have b4 := (cr_at hR hr (show 4 < 5 by decide)).1
  intro e
  induction e with
  | zero => intro d _ _ h2; omega
  | succ e ih =>
    intro d h0 h1 h2 h3
    refine pk_le (cc_MF (n + 1)) d (fun z => ?_) (fun z => ?_)
    · exact h _ (Or.inr ⟨fun i a c => h3 i a (by omega), rfl⟩)
    · have ed : cd_df w b r d = cd_dm w b r (d - cc_MF n + 1) d := by rw [cd_in (n := n) (by omega) z hn, hm, Bool.true_and]
      have e1 : nI d - nI (cc_MF n) + 1 = nI (d - cc_MF n + 1) := by rw [pk_sub (by omega), nI_1]
      rw [e1]
      refine cx_dom hr (by omega) (by omega) b2 b4 (cb_z (fun q => ?_) (fun q => ?_))
      · refine nm_r (nI_1 d) (ih (d + 1) (by omega) (by omega) (by omega) (fun i a c => ?_))
        by_cases g : i = d
        · rw [g, ed]; exact q
        · exact h3 i a (by omega)
      · exact h _ (Or.inl ⟨d, h0, z, by rw [ed]; exact q, h3, rfl⟩)
/-- the later of two -/
def cs_mx (a c : Nat) : Nat := if a ≤ c then c else a
theorem cx_fdm {post : Int32 → Prop} {n s : Nat} (hR : cr_R w b o) (hr : r < 4) (hn : n < 4800) (hm : cd_mf w r n = true) (hs : s < cc_MF (n + 1)) (h : ∀ x, cs_U (cd_df w b r) (cs_mx s (cc_MF n)) (cc_MF (n + 1)) x → post x) : wpX_firstFittingDayOfMonth post (w, b) (nI r) (nI n) (nI s) := by
  have hM := cc_MF_le (n := n + 1) (by omega)
  have hS := (cc_MF_s n).1
  unfold wpX_firstFittingDayOfMonth
  dsimp only
  refine cx_first (by omega) ?_
  rw [nI_1]
  refine cx_first (by omega) ?_
  refine pk_le s (cc_MF n) (fun z => ?_) (fun z => ?_)
  · rw [cs_mx, if_pos z] at h
    exact ⟨_, cx_fdm_l hR hr hn hm (Nat.le_refl _) h (cc_MF (n + 1) + 1) (cc_MF n) (by omega) (by omega) (by omega) (fun i a c => absurd a (by omega))⟩
  · rw [cs_mx, if_neg (by omega)] at h
    exact ⟨_, cx_fdm_l hR hr hn hm (by omega) h (cc_MF (n + 1) + 1) s (by omega) (by omega) (by omega) (fun i a c => absurd a (by omega))⟩
theorem cd_noM {n d : Nat} (h1 : cc_MF n ≤ d) (h2 : d < cc_MF (n + 1)) (hn : n < 4800) (hm : cd_mf w r n = false) : cd_df w b r d = false := by rw [cd_in h1 h2 hn, hm, Bool.false_and]
theorem cx_ffd_l {post : Int32 → Prop} {s : Nat} (hR : cr_R w b o) (hr : r < 4) (hs : s < 146097) (h : ∀ x, cs_U (cd_df w b r) s 146097 x → post x) : ∀ e n, n ≤ 4800 → s < cc_MF (n + 1) → 4800 - n < e → (∀ i, s ≤ i → i < cc_MF n → cd_df w b r i = false) → wX_firstFittingDay_14 post (nI r) (nI s) w b e (nI n) := by
  intro e
  induction e with
  | zero => intro n _ _ h2; omega
  | succ e ih =>
    intro n h1 h0 h2 h3
    refine pk_le 4800 n (fun z => ?_) (fun z => ?_)
    · have en : n = 4800 := by omega
      rw [en, cc_end] at h3
      exact h _ (Or.inr ⟨h3, rfl⟩)
    · have hS := (cc_MF_s (n + 1)).1
      have hM := cc_MF_le (n := n + 1) (by omega)
      have step : (∀ i, s ≤ i → i < cc_MF (n + 1) → cd_df w b r i = false) → wX_firstFittingDay_14 post (nI r) (nI s) w b e (nI (n + 1)) := fun g => ih (n + 1) (by omega) (by omega) (by omega) g
      refine cx_mfit hr z (cb_z (fun q => ?_) (fun q => ?_))
      · refine nm_r (nI_1 n) (step (fun i a c => ?_))
        rcases Nat.lt_or_ge i (cc_MF n) with g | g
        · exact h3 i a g
        · exact cd_noM g c z q
      · refine cx_fdm hR hr z q h0 (fun x hx => ?_)
        have low : ∀ i, s ≤ i → i < cs_mx s (cc_MF n) → cd_df w b r i = false := by
          intro i a c
          unfold cs_mx at c
          split at c
          · exact h3 i a c
          · omega
        have mx : s ≤ cs_mx s (cc_MF n) := by
          unfold cs_mx
          split <;> omega
        rcases hx with ⟨d, d1, d2, d3, d4, rfl⟩ | ⟨d1, rfl⟩
        · refine br_f (cl_ne (by omega)) (h _ (Or.inl ⟨d, by omega, by omega, d3, fun i a c => ?_, rfl⟩))
          rcases Nat.lt_or_ge i (cs_mx s (cc_MF n)) with g | g
          · exact low i a g
          · exact d4 i g c
        · refine br_t rfl (nm_r (nI_1 n) (step (fun i a c => ?_)))
          rcases Nat.lt_or_ge i (cs_mx s (cc_MF n)) with g | g
          · exact low i a g
          · exact d1 i g c
theorem cx_ffd {post : Int32 → Prop} {s : Nat} (hR : cr_R w b o) (hr : r < 4) (hs : s ≤ 146097) (h : ∀ x, cs_U (cd_df w b r) s 146097 x → post x) : wpX_firstFittingDay post (w, b) (nI r) (nI s) := by
  unfold wpX_firstFittingDay
  dsimp only
  refine cx_day (fun c => br_f (by decide) ?_) (fun c => br_t rfl (h _ (Or.inr ⟨fun i a e => absurd ⟨s, by omega, rfl⟩ c, rfl⟩)))
  have hs2 : s < 146097 := by
    obtain ⟨d, hd, e⟩ := c
    have := (nI_eq (by omega) (by omega)).mp e
    omega
  have ha := cc_at hs2
  refine cx_mno hs2 ⟨_, cx_ffd_l hR hr hs2 h 4801 (cc_mo s) (by have := ha.2.2; omega) ha.2.1 (by omega) (fun i a c => ?_)⟩
  have := ha.1
  omega
/-! down -/
theorem cx_ldm_l {post : Int32 → Prop} {n c0 : Nat} (hR : cr_R w b o) (hr : r < 4) (hn : n < 4800) (hm : cd_mf w r n = true) (hc : c0 ≤ cc_MF (n + 1)) (h : ∀ x, cs_V (cd_df w b r) (cc_MF n) c0 x → post x) : ∀ e c, cc_MF n ≤ c → c ≤ c0 → c - cc_MF n < e → (∀ i, c ≤ i → i < c0 → cd_df w b r i = false) → wX_lastFittingDayOfMonth_30 post (nI r) (nI (cc_MF n)) w b e (nI c + (-1)) := by
  have hM := cc_MF_le (n := n + 1) (by omega)
  have hS := (cc_MF_s n).2
  have b2 := (cr_at hR hr (show 2 < 5 by decide)).1
  have b4 := (cr_at hR hr (show 4 < 5 by decide)).1
  intro e
  induction e with
  | zero => intro c _ _ h2; omega
  | succ e ih =>
    intro c h0 h1 h2 h3
    by_cases g : c = cc_MF n
    · have lt : nI c + (-1) < nI (cc_MF n) := by
        rw [← g]
        cases c with
        | zero => decide
        | succ d =>
          rw [pk_m1]
          exact nI_lt (by omega) (by omega)
      exact br_t lt (h _ (Or.inr ⟨fun i a q => h3 i (by omega) q, rfl⟩))
    · obtain ⟨d, rfl⟩ : ∃ d, c = d + 1 := ⟨c - 1, by omega⟩
      rw [pk_m1]
      have ed : cd_df w b r d = cd_dm w b r (d - cc_MF n + 1) d := by rw [cd_in (n := n) (by omega) (by omega) hn, hm, Bool.true_and]
      have e1 : nI d - nI (cc_MF n) + 1 = nI (d - cc_MF n + 1) := by rw [pk_sub (by omega), nI_1]
      unfold wX_lastFittingDayOfMonth_30
      rw [e1]
      refine br_f (nI_nlt (by omega) (by omega)) (cx_dom hr (by omega) (by omega) b2 b4 (cb_z (fun q => ?_) (fun q => ?_)))
      · refine nm_e (ih d (by omega) (by omega) (by omega) (fun i a k => ?_))
        by_cases z : i = d
        · rw [z, ed]; exact q
        · exact h3 i (by omega) k
      · exact h _ (Or.inl ⟨d, by omega, by omega, by rw [ed]; exact q, fun i a k => h3 i a k, rfl⟩)
/-- the earlier of two -/
def cs_mn (a c : Nat) : Nat := if c ≤ a then c else a
theorem cx_ldm {post : Int32 → Prop} {n s : Nat} (hR : cr_R w b o) (hr : r < 4) (hn : n < 4800) (hm : cd_mf w r n = true) (hs : cc_MF n ≤ s) (hs2 : s < 146097) (h : ∀ x, cs_V (cd_df w b r) (cc_MF n) (cs_mn (s + 1) (cc_MF (n + 1))) x → post x) : wpX_lastFittingDayOfMonth post (w, b) (nI r) (nI n) (nI s) := by
  have hM := cc_MF_le (n := n + 1) (by omega)
  have hS := (cc_MF_s n).1
  unfold wpX_lastFittingDayOfMonth
  dsimp only
  refine cx_first (by omega) ?_
  rw [nI_1]
  refine cx_first (by omega) (nm_r (e' := nI (cc_MF (n + 1) - 1)) (by rw [show (1 : Int32) = nI 1 from rfl, pk_sub (by omega)]) ?_)
  refine pk_le (cc_MF (n + 1) - 1) s (fun z => ?_) (fun z => ?_)
  · rw [cs_mn, if_pos (by omega)] at h
    have hx := cx_ldm_l hR hr hn hm (Nat.le_refl _) h (cc_MF (n + 1) + 1) (cc_MF (n + 1)) (by omega) (by omega) (by omega) (fun i a c => absurd a (by omega))
    rw [show cc_MF (n + 1) = cc_MF (n + 1) - 1 + 1 by omega, pk_m1] at hx
    exact ⟨_, hx⟩
  · rw [cs_mn, if_neg (by omega)] at h
    have hx := cx_ldm_l hR hr hn hm (by omega) h (s + 2) (s + 1) (by omega) (by omega) (by omega) (fun i a c => absurd a (by omega))
    rw [pk_m1] at hx
    exact ⟨_, hx⟩
theorem cx_lfd_l {post : Int32 → Prop} {s : Nat} (hR : cr_R w b o) (hr : r < 4) (hs : s < 146097) (h : ∀ x, cs_V (cd_df w b r) 0 (s + 1) x → post x) : ∀ e c, c ≤ cc_mo s + 1 → c < e → (∀ i, cc_MF c ≤ i → i < s + 1 → cd_df w b r i = false) → wX_lastFittingDay_14 post (nI r) (nI s) w b e (nI c + (-1)) := by
  have ha := cc_at hs
  have ha2 := ha.2.2
  have ha1 := ha.1
  intro e
  induction e with
  | zero => intro c _ h2; omega
  | succ e ih =>
    intro c h1 h2 h3
    cases c with
    | zero => exact br_t (by decide) (h _ (Or.inr ⟨fun i a q => h3 i a q, rfl⟩))
    | succ n =>
      rw [pk_m1]
      have hM := cc_MF_mono (show n ≤ cc_mo s by omega)
      have step : (∀ i, cc_MF n ≤ i → i < s + 1 → cd_df w b r i = false) → wX_lastFittingDay_14 post (nI r) (nI s) w b e (nI n + (-1)) := fun g => ih n (by omega) (by omega) g
      refine br_f (nI_pos (by omega)) (cx_mfit hr (by omega) (cb_z (fun q => ?_) (fun q => ?_)))
      · refine nm_e (step (fun i a c => ?_))
        rcases Nat.lt_or_ge i (cc_MF (n + 1)) with g | g
        · exact cd_noM a g (by omega) q
        · exact h3 i g c
      · refine cx_ldm hR hr (by omega) q (by omega) hs (fun x hx => ?_)
        have high : ∀ i, cs_mn (s + 1) (cc_MF (n + 1)) ≤ i → i < s + 1 → cd_df w b r i = false := by
          intro i a c
          unfold cs_mn at a
          split at a
          · exact h3 i a c
          · omega
        have mn : cs_mn (s + 1) (cc_MF (n + 1)) ≤ s + 1 := by
          unfold cs_mn
          split <;> omega
        rcases hx with ⟨d, d1, d2, d3, d4, rfl⟩ | ⟨d1, rfl⟩
        · refine br_f (cl_ne (by omega)) (h _ (Or.inl ⟨d, Nat.zero_le _, by omega, d3, fun i a c => ?_, rfl⟩))
          rcases Nat.lt_or_ge i (cs_mn (s + 1) (cc_MF (n + 1))) with g | g
          · exact d4 i a g
          · exact high i g c
        · refine br_t rfl (nm_e (step (fun i a c => ?_)))
          rcases Nat.lt_or_ge i (cs_mn (s + 1) (cc_MF (n + 1))) with g | g
          · exact d1 i a g
          · exact high i g c
theorem cx_lfd {post : Int32 → Prop} {d : Nat} (hR : cr_R w b o) (hr : r < 4) (hd : d ≤ 146097) (h : ∀ x, cs_V (cd_df w b r) 0 d x → post x) : wpX_lastFittingDay post (w, b) (nI r) (nI d - 1) := by
  unfold wpX_lastFittingDay
  dsimp only
  cases d with
  | zero => exact cx_day (fun c => absurd c (cf_neg (by decide) (by decide))) (fun c => br_t rfl (h _ (Or.inr ⟨fun i a e => absurd e (by omega), rfl⟩)))
  | succ s =>
    rw [nI_pred]
    have ha := cc_at (show s < 146097 by omega)
    refine cx_day (fun c => br_f (by decide) ?_) (fun c => absurd ⟨s, by omega, rfl⟩ c)
    have hx := cx_lfd_l hR hr (show s < 146097 by omega) h (cc_mo s + 2) (cc_mo s + 1) (by omega) (by omega) (fun i a c => by have := ha.2.1; omega)
    rw [pk_m1] at hx
    exact cx_mno (by omega) ⟨_, hx⟩
end
