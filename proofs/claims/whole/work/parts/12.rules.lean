/-! the constructors, fill, allowed -/
theorem cr_full {b : Int32} {W : Int64} {o : Nat → Int32} {f : Nat} (hb : b = 1) (h : ∀ i, i < 64 → cb_b W i = decide (cc_lo f ≤ i ∧ i ≤ cc_hi f)) : cr_P b W o f := by
  have hh := cc_hi_b f
  have hl := cc_lo_b f
  refine ⟨Or.inr hb, fun v hv e => ?_, fun _ v h1 h2 => ?_, fun z => ?_, 6, by decide, ?_⟩
  · rw [h v hv] at e
    exact of_decide_eq_true e
  · rw [h v (by omega)]
    exact decide_eq_true ⟨h1, h2⟩
  · rw [hb] at z
    exact absurd z (by decide)
  · rw [h 6 (by decide)]
    exact decide_eq_true ⟨by omega, by omega⟩
def cr_I (c : Nat) (w : Nat → Int64) (b : Nat → Int32) : Prop := (∀ p, p < c → ∀ i, i < 64 → cb_b (w p) i = decide (cc_lo (p % 5) ≤ i ∧ i ≤ cc_hi (p % 5))) ∧ (∀ j, b j = if j < c then 1 else 0)
theorem cr_Ib {c : Nat} {b : Nat → Int32} (h : ∀ j, b j = if j < c then 1 else 0) : ∀ j, upd b c 1 j = if j < c + 1 then 1 else 0 := by
  intro j
  by_cases z : j = c
  · subst z
    rw [pk_us, if_pos (by omega)]
  · rw [pk_un z, h j]
    by_cases q : j < c
    · rw [if_pos q, if_pos (by omega)]
    · rw [if_neg q, if_neg (by omega)]
theorem cr_Is {r f : Nat} {w : Nat → Int64} {b : Nat → Int32} {m : Int64} (hf : f < 5) (h : cr_I (5 * r + f) w b) (hm : ∀ i, i < 64 → cb_b m i = decide (cc_lo f ≤ i ∧ i ≤ cc_hi f)) : cr_I (5 * r + f + 1) (vp_updL w (5 * r + f) m) (upd b (5 * r + f) 1) := by
  refine ⟨fun p hp i hi => ?_, cr_Ib h.2⟩
  by_cases z : p = 5 * r + f
  · subst z
    rw [pk_uLs, hm i hi, show (5 * r + f) % 5 = f by omega]
  · rw [pk_uLn z]
    exact h.1 p (by omega) i hi
theorem cx_i29 {post : SX → Prop} {J : Int32 → (Nat → Int64) → (Nat → Int32) → Prop} {r : Nat} (hr : r < 4) (hJ : ∀ w b, cr_I (5 * (r + 1)) w b → J (nI (r + 1)) w b) : ∀ n f w b, f ≤ 5 → 5 - f < n → cr_I (5 * r + f) w b → wX_init_29 post J (nI r) n (nI f) w b := by
  intro n
  induction n with
  | zero => intro f _ _ _ h2; omega
  | succ n ih =>
    intro f w b h1 h2 h3
    refine pk_le 5 f (fun z => ?_) (fun z => ?_)
    · refine nm_r (nI_1 r) (hJ w b ?_)
      rw [show 5 * (r + 1) = 5 * r + f by omega]
      exact h3
    · refine cx_makeFull hr z (fun m hm => ?_)
      exact nm_r (nI_1 f) (ih (f + 1) _ _ (by omega) (by omega) (cr_Is z h3 hm))
theorem cx_i22 {post : SX → Prop} (h : ∀ w b, cr_I 20 w b → post (w, b)) : ∀ n r w b, r ≤ 4 → 4 - r < n → cr_I (5 * r) w b → wX_init_22 post n (nI r) w b := by
  intro n
  induction n with
  | zero => intro r _ _ _ h2; omega
  | succ n ih =>
    intro r w b h1 h2 h3
    refine pk_le 4 r (fun z => ?_) (fun z => ?_)
    · rw [show r = 4 by omega] at h3
      exact h w b h3
    · exact ⟨_, cx_i29 z (fun w' b' h' => ih (r + 1) w' b' (by omega) (by omega) h') 6 0 w b (by omega) (by omega) h3⟩
theorem cy_i23 {post : SY → Prop} {y m k : Int32} {o : Nat → Int32} (h : ∀ b, (∀ j, b j = if j < 20 then 1 else 0) → post (y, m, k, o, b)) : ∀ n c b, c ≤ 20 → 20 - c < n → (∀ j, b j = if j < c then 1 else 0) → wY_init_23 post y m k n (nI c) o b := by
  intro n
  induction n with
  | zero => intro c _ _ h2; omega
  | succ n ih =>
    intro c b h1 h2 h3
    refine pk_le 20 c (fun z => ?_) (fun z => ?_)
    · rw [show c = 20 by omega] at h3
      exact h b h3
    · refine ⟨vp_in_nI z (by decide), nm_e (nm_r (nI_1 c) ?_)⟩
      rw [nI_clamp (by omega)]
      exact ih (c + 1) _ (by omega) (by omega) (cr_Ib h3)
theorem i_vc0 : wpX_init (fun u => wpY_init (fun v => i_Rel 0 u v)) := by
  refine ⟨_, cx_i22 (fun w b h => ?_) 5 0 _ _ (by omega) (by omega) ⟨fun p hp => absurd hp (by omega), fun j => (if_neg (by omega)).symm⟩⟩
  refine ⟨_, cy_i23 (fun b' h' => ?_) 21 0 _ (by omega) (by omega) (fun j => (if_neg (by omega)).symm)⟩
  refine ⟨funext (fun j => (h.2 j).trans (h' j).symm), fun p hp => ?_⟩
  exact cr_full ((h.2 p).trans (if_pos hp)) (fun i hi => h.1 p hp i hi)
theorem cr_set {w : Nat → Int64} {b o o' : Nat → Int32} {p : Nat} {W : Int64} {x : Int32} (h : cr_R w b o) (hp : cr_P x W (fun v => o' (64 * p + v)) (p % 5)) (ho : ∀ j, (j < 64 * p ∨ 64 * p + 64 ≤ j) → o' j = o j) : cr_R (vp_updL w p W) (upd b p x) o' := by
  intro q hq
  by_cases z : q = p
  · subst z
    rw [pk_us, pk_uLs]
    exact hp
  · rw [pk_un z, pk_uLn z]
    obtain ⟨a1, a2, a3, a4, a5⟩ := h q hq
    refine ⟨a1, a2, a3, fun e v hv => ?_, a5⟩
    dsimp only
    rw [show o' (64 * q + v) = o (64 * q + v) from ho _ (by omega)]
    exact a4 e v hv
theorem cr_e5 (r f : Nat) : nI r * 5 + nI f = nI (5 * r + f) := by rw [show (5 : Int32) = nI 5 from rfl, pk_mul, nI_add, Nat.mul_comm]
theorem i_vc_fill {k : Nat} {u : SX} {v : SY} (I : i_Rel k u v) (hk : k + 4 ≤ 2048) (v1 : Int32) (v2 : Int32) : wpX_fill (fun r u' => wpY_fill (fun r' v' => r' = r ∧ i_Rel (k + 4) u' v') v v1 v2) u v1 v2 := by
  obtain ⟨w, b⟩ := u
  obtain ⟨y, m, q, o, b'⟩ := v
  obtain ⟨e, hR⟩ := I
  have e' : b = b' := e
  subst e'
  have hR' : cr_R w b o := hR
  unfold wpX_fill wpY_fill
  dsimp only
  refine cx_rule (fun c => br_f (by decide) ?_) (fun c => br_t rfl (cy_rule (fun g => absurd g c) (fun _ => br_f (by decide) ⟨rfl, rfl, hR⟩)))
  refine cx_field (fun c2 => br_f (by decide) ?_) (fun c2 => br_t rfl (cy_rule (fun _ => br_t rfl (cy_field (fun g => absurd g c2) (fun _ => br_f (by decide) ⟨rfl, rfl, hR⟩))) (fun g => absurd c g)))
  obtain ⟨r, hr, rfl⟩ := c
  obtain ⟨f, hf, rfl⟩ := c2
  have hb := (cr_at hR' hr hf).1
  refine cx_isFull hr hf hb (cx_makeFull hr hf (fun M hM => ?_))
  have hN : cr_R (vp_updL w (5 * r + f) M) (upd b (5 * r + f) 1) o := cr_set hR' (by rw [show (5 * r + f) % 5 = f by omega]; exact cr_full rfl hM) (fun j _ => rfl)
  dsimp only
  rw [cr_e5, nI_clamp (by omega)]
  unfold wY_fill_39
  rw [cr_e5, nI_clamp (by omega)]
  rcases hb with z | z
  · refine br_t z (cy_rule (fun _ => br_t rfl (cy_field (fun _ => br_t rfl ?_) (fun g => absurd ⟨f, hf, rfl⟩ g))) (fun g => absurd ⟨r, hr, rfl⟩ g))
    exact ⟨vp_in_nI (by omega) (by decide), br_t z ⟨vp_in_nI (by omega) (by decide), nm_e ⟨rfl, rfl, hN⟩⟩⟩
  · have z' : ¬ b (5 * r + f) = 0 := by rw [z]; decide
    refine br_f z' (cy_rule (fun _ => br_t rfl (cy_field (fun _ => br_t rfl ?_) (fun g => absurd ⟨f, hf, rfl⟩ g))) (fun g => absurd ⟨r, hr, rfl⟩ g))
    exact ⟨vp_in_nI (by omega) (by decide), br_f z' ⟨vp_in_nI (by omega) (by decide), nm_e ⟨rfl, rfl, hN⟩⟩⟩
theorem i_vc_allowed {k : Nat} {u : SX} {v : SY} (I : i_Rel k u v) (hk : k + 4 ≤ 2048) (v1 : Int32) (v2 : Int32) (v3 : Int32) : wpX_allowed (fun r => wpY_allowed (fun r' => r' = r ∧ i_Rel (k + 4) u v) v v1 v2 v3) u v1 v2 v3 := by
  obtain ⟨w, b⟩ := u
  obtain ⟨y, m, q, o, b'⟩ := v
  obtain ⟨e, hR⟩ := I
  have e' : b = b' := e
  subst e'
  have hR' : cr_R w b o := hR
  unfold wpX_allowed wpY_allowed
  dsimp only
  refine cx_rule (fun c => br_f (by decide) ?_) (fun c => br_t rfl (cy_rule (fun g => absurd g c) (fun _ => br_f (by decide) ⟨rfl, rfl, hR⟩)))
  refine cx_field (fun c2 => br_f (by decide) ?_) (fun c2 => br_t rfl (cy_rule (fun _ => br_t rfl (cy_field (fun g => absurd g c2) (fun _ => br_f (by decide) ⟨rfl, rfl, hR⟩))) (fun g => absurd c g)))
  obtain ⟨r, hr, rfl⟩ := c
  obtain ⟨f, hf, rfl⟩ := c2
  have hh := cc_hi_b f
  have go : ∀ R : Int32, wpY_inField (fun r_15 => (r_15 = 0 → (0 : Int32) = R ∧ i_Rel (k + 4) (w, b) (y, m, q, o, b)) ∧ (¬ r_15 = 0 → wpY_may (fun r_22 => (r_22 = 0 → (0 : Int32) = R ∧ i_Rel (k + 4) (w, b) (y, m, q, o, b)) ∧ (¬ r_22 = 0 → (1 : Int32) = R ∧ i_Rel (k + 4) (w, b) (y, m, q, o, b))) (y, m, q, o, b) (nI r) (nI f) v3)) (y, m, q, o, b) (nI f) v3 → wpY_badRule (fun r_1 => (r_1 = 0 → wpY_badField (fun r_8 => (r_8 = 0 → wpY_inField (fun r_15 => (r_15 = 0 → (0 : Int32) = R ∧ i_Rel (k + 4) (w, b) (y, m, q, o, b)) ∧ (¬ r_15 = 0 → wpY_may (fun r_22 => (r_22 = 0 → (0 : Int32) = R ∧ i_Rel (k + 4) (w, b) (y, m, q, o, b)) ∧ (¬ r_22 = 0 → (1 : Int32) = R ∧ i_Rel (k + 4) (w, b) (y, m, q, o, b))) (y, m, q, o, b) (nI r) (nI f) v3)) (y, m, q, o, b) (nI f) v3) ∧ (¬ r_8 = 0 → (-2 : Int32) = R ∧ i_Rel (k + 4) (w, b) (y, m, q, o, b))) (y, m, q, o, b) (nI f)) ∧ (¬ r_1 = 0 → (-1 : Int32) = R ∧ i_Rel (k + 4) (w, b) (y, m, q, o, b))) (y, m, q, o, b) (nI r) := by
    intro R h
    exact cy_rule (fun _ => br_t rfl (cy_field (fun _ => br_t rfl h) (fun g => absurd ⟨f, hf, rfl⟩ g))) (fun g => absurd ⟨r, hr, rfl⟩ g)
  refine cx_isv hf (fun c3 => br_f (by decide) ?_) (fun c3 => br_t rfl (go _ (cy_isv hf (fun g => absurd g c3) (fun _ => br_t rfl ⟨rfl, rfl, hR⟩))))
  have c4 := c3
  obtain ⟨x, x1, x2, rfl⟩ := c3
  refine cx_has hr hf (by omega) (cb_z (fun z => go _ (cy_isv hf (fun _ => br_f (by decide) (cy_may hR' hr hf x1 x2 ?_)) (fun g => absurd c4 g))) (fun z => go _ (cy_isv hf (fun _ => br_f (by decide) (cy_may hR' hr hf x1 x2 ?_)) (fun g => absurd c4 g))))
  · rw [z]
    exact br_t rfl ⟨rfl, rfl, hR⟩
  · rw [z]
    exact br_f (by decide) ⟨rfl, rfl, hR⟩
