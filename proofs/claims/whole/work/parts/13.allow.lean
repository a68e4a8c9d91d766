/-! allow -/
theorem cm_gap {x y s : Nat} (hx : x % s = 0) (hy : y % s = 0) (h : x < y) : x + s ≤ y := by
  have e : (y - x) % s = 0 := Nat.sub_mod_eq_zero_of_mod_eq (by rw [hx, hy])
  have d : s ∣ y - x := Nat.dvd_of_mod_eq_zero e
  have := Nat.le_of_dvd (by omega) d
  omega
def cm_M (B : Nat → Bool) (A T s v : Nat) : Bool := B v || decide (A ≤ v ∧ v ≤ T ∧ (v - A) % s = 0)
theorem cx_124 {post : Int32 → SX → Prop} {w : Nat → Int64} {b : Nat → Int32} {B : Nat → Bool} {r f A T s : Nat} (hr : r < 4) (hf : f < 5) (hA : cc_lo f ≤ A) (hT : T ≤ cc_hi f) (hs : 1 ≤ s) (hs2 : s ≤ 59) (hB : ∀ v, v < 64 → B v = true → cc_lo f ≤ v ∧ v ≤ cc_hi f) (h : ∀ m, (∀ v, v < 64 → cb_b m v = cm_M B A T s v) → post (nI (cc_cnt (cm_M B A T s) 64)) (vp_updL w (5 * r + f) m, upd b (5 * r + f) 0)) : ∀ n c (m : Int64), A ≤ c → c ≤ T + s → T + 1 - c < n → (c - A) % s = 0 → (∀ v, v < 64 → cb_b m v = (B v || decide (A ≤ v ∧ v < c ∧ (v - A) % s = 0))) → wX_allow_124 post (nI s) (nI r) (nI f) (nI T) (nI (5 * r + f)) w b n m (nI c) := by
  have hh := cc_hi_b f
  intro n
  induction n with
  | zero => intro c m _ _ h2; omega
  | succ n ih =>
    intro c m h1 h2 h3 h4 hm
    refine pk_lt T c (fun z => ?_) (fun z => ?_)
    · have hM : ∀ v, v < 64 → cb_b m v = cm_M B A T s v := by
        intro v hv
        rw [hm v hv]
        unfold cm_M
        refine congrArg _ (decide_eq_decide.mpr ⟨fun q => ⟨q.1, ?_, q.2.2⟩, fun q => ⟨q.1, by omega, q.2.2⟩⟩)
        have := cm_gap q.2.2 h4 (by omega)
        omega
      refine ⟨vp_in_nI (by omega) (by decide), nm_e ⟨vp_in_nI (by omega) (by decide), nm_e ?_⟩⟩
      rw [nI_clamp (by omega)]
      refine cx_count hr hf ?_ ?_
      · intro v hv e
        rw [pk_uLs, hM v hv] at e
        unfold cm_M at e
        rw [Bool.or_eq_true] at e
        rcases e with e | e
        · exact hB v hv e
        · have := of_decide_eq_true e
          omega
      · rw [pk_uLs, cc_cnt_e hM]
        exact h m hM
    · refine nm_e (nm_r (nI_add c s) (ih (c + s) _ (by omega) (by omega) (by omega) ?_ (fun v hv => ?_)))
      · rw [show c + s - A = c - A + s by omega, Nat.add_mod_right]
        exact h4
      · rw [cb_or _ v (by omega), hm v hv, Bool.or_assoc]
        refine congrArg _ ?_
        by_cases q : c = v
        · subst q
          rw [decide_eq_true rfl, Bool.or_true]
          exact (decide_eq_true ⟨h1, by omega, h4⟩).symm
        · rw [decide_eq_false q, Bool.or_false]
          refine decide_eq_decide.mpr ⟨fun t => ⟨t.1, by omega, t.2.2⟩, fun t => ⟨t.1, ?_, t.2.2⟩⟩
          rcases Nat.lt_or_ge v c with g | g
          · exact g
          · have := cm_gap h4 t.2.2 (by omega)
            omega
def cm_B (w : Nat → Int64) (b : Nat → Int32) (p v : Nat) : Bool := decide (b p = 0) && cb_b (w p) v
theorem cm_e8 {a : Nat} (ha : a < 2 ^ 31) : nI a >>> ((3 : Int32) &&& 31) = nI (a / 8) := pk_shrN ha _ 3 (by decide)
theorem cm_e64 {a : Nat} (ha : a < 2 ^ 31) : nI a >>> ((6 : Int32) &&& 31) = nI (a / 64) := pk_shrN ha _ 6 (by decide)
theorem cm_a7 {a : Nat} (ha : a < 2 ^ 31) : nI a &&& 7 = nI (a % 8) := pk_andN (by omega) 3 (by decide)
theorem cm_a63 {a : Nat} (ha : a < 2 ^ 31) : nI a &&& 63 = nI (a % 64) := pk_andN (by omega) 6 (by decide)
theorem cx_allowG {post : Int32 → SX → Prop} {w : Nat → Int64} {b o : Nat → Int32} {r f a t s : Nat} (hR : cr_R w b o) (ha : a < 2 ^ 31) (ht : t < 2 ^ 31) (er : a / 8 = r) (ef : a % 8 = f) (hr : r < 4) (hf : f < 5) (h1 : cc_lo f ≤ t / 64) (h2 : t % 64 ≤ cc_hi f) (h3 : t / 64 ≤ t % 64) (hs : 1 ≤ s) (hs2 : s ≤ 59) (h : ∀ m, (∀ v, v < 64 → cb_b m v = cm_M (cm_B w b (5 * r + f)) (t / 64) (t % 64) s v) → post (nI (cc_cnt (cm_M (cm_B w b (5 * r + f)) (t / 64) (t % 64) s) 64)) (vp_updL w (5 * r + f) m, upd b (5 * r + f) 0)) : wpX_allow post (w, b) (nI a) (nI t) (nI s) := by
  have hh := cc_hi_b f
  obtain ⟨p1, p2, p3, p4, p5⟩ := cr_at hR hr hf
  have hB : ∀ v, v < 64 → cm_B w b (5 * r + f) v = true → cc_lo f ≤ v ∧ v ≤ cc_hi f := by
    intro v hv e
    unfold cm_B at e
    rw [Bool.and_eq_true] at e
    exact p2 v hv e.2
  have main : ∀ m : Int64, (∀ v, v < 64 → cb_b m v = cm_B w b (5 * r + f) v) → ∃ n, wX_allow_124 post (nI s) (nI r) (nI f) (nI (t % 64)) (nI (5 * r + f)) w b n m (nI (t / 64)) := by
    intro m hm
    refine ⟨_, cx_124 hr hf h1 h2 hs hs2 hB h (t % 64 + 2) (t / 64) m (by omega) (by omega) (by omega) (by rw [Nat.sub_self, Nat.zero_mod]) (fun v hv => ?_)⟩
    rw [hm v hv, decide_eq_false (by omega), Bool.or_false]
  unfold wpX_allow
  dsimp only
  refine nm_r (cm_e8 ha) (nm_r (cm_a7 ha) ?_)
  rw [er, ef]
  refine cx_rule (fun _ => br_f (by decide) ?_) (fun g => absurd ⟨r, hr, rfl⟩ g)
  refine cx_field (fun _ => br_f (by decide) ?_) (fun g => absurd ⟨f, hf, rfl⟩ g)
  refine nm_r (cm_e64 ht) (nm_r (cm_a63 ht) ?_)
  refine cx_isv hf (fun _ => br_f (by decide) ?_) (fun g => absurd ⟨t / 64, h1, by omega, rfl⟩ g)
  refine cx_isv hf (fun _ => br_f (by decide) ?_) (fun g => absurd ⟨t % 64, by omega, h2, rfl⟩ g)
  refine pk_le (t / 64) (t % 64) (fun _ => ?_) (fun z => absurd z (by omega))
  refine pk_lt s 1 (fun z => absurd z (by omega)) (fun _ => pk_le s 59 (fun _ => ?_) (fun z => absurd z (by omega)))
  refine cx_place ⟨vp_in_nI (by omega) (by decide), ?_⟩
  rw [nI_clamp (by omega)]
  rcases p1 with z | z
  · refine br_t z ⟨vp_in_nI (by omega) (by decide), nm_e (main _ (fun v hv => ?_))⟩
    unfold cm_B
    rw [decide_eq_true z, Bool.true_and]
  · have z' : ¬ b (5 * r + f) = 0 := by rw [z]; decide
    refine br_f z' (main _ (fun v hv => ?_))
    unfold cm_B
    rw [cb_0, decide_eq_false z', Bool.false_and]
section
variable {y m k : Int32}
theorem cm_i64 (p v : Nat) : nI p * 64 + nI v = nI (64 * p + v) := by rw [show (64 : Int32) = nI 64 from rfl, pk_mul, nI_add, Nat.mul_comm]
theorem cy_159 {post : Int32 → SY → Prop} {o b : Nat → Int32} {B : Nat → Bool} {p A T s : Nat} (hp : p < 20) (hA : A < 64) (hT : T < 64) (hs : 1 ≤ s) (hs2 : s ≤ 59) (h : ∀ o', (∀ v, v < 64 → (o' (64 * p + v) = 0 ↔ cm_M B A T s v = false)) → (∀ j, (j < 64 * p ∨ 64 * p + 64 ≤ j) → o' j = o j) → post (nI (cc_cnt (cm_M B A T s) 64)) (y, m, k, o', b)) : ∀ n c (ov : Nat → Int32), c ≤ 64 → 64 - c < n → (∀ v, v < 64 → (ov (64 * p + v) = 0 ↔ (if v < c then cm_M B A T s v else B v) = false)) → (∀ j, (j < 64 * p ∨ 64 * p + 64 ≤ j) → ov j = o j) → wY_allow_159 post (nI s) (nI A) (nI T) (nI p) y m k n (nI (cc_cnt (cm_M B A T s) c)) (nI c) ov b := by
  intro n
  induction n with
  | zero => intro c _ _ h2; omega
  | succ n ih =>
    intro c ov h1 h2 h3 h4
    have fin : ∀ o2 : Nat → Int32, (∀ v, v < 64 → (o2 (64 * p + v) = 0 ↔ (if v < c + 1 then cm_M B A T s v else B v) = false)) → (∀ j, (j < 64 * p ∨ 64 * p + 64 ≤ j) → o2 j = o j) → c < 64 → wY_allow_204 post (wY_allow_159 post (nI s) (nI A) (nI T) (nI p) y m k n) (nI s) (nI A) (nI T) (nI p) (nI (cc_cnt (cm_M B A T s) c)) (nI c) y m k o2 b := by
      intro o2 g1 g2 hc
      have hi := ih (c + 1) o2 (by omega) (by omega) g1 g2
      have g3 := g1 c hc
      rw [if_pos (by omega)] at g3
      unfold wY_allow_204
      rw [cm_i64, nI_clamp (by omega)]
      refine ⟨vp_in_nI (by omega) (by decide), ?_⟩
      cases hM : cm_M B A T s c
      · rw [cc_cnt_f hM] at hi
        exact br_t (g3.mpr hM) (nm_r (nI_1 c) hi)
      · rw [cc_cnt_t hM] at hi
        exact br_f (fun z => by rw [g3.mp z] at hM; exact absurd hM (by decide)) (nm_r (nI_1 _) (nm_r (nI_1 c) hi))
    have keep : c < 64 → cm_M B A T s c = B c → ∀ v, v < 64 → (ov (64 * p + v) = 0 ↔ (if v < c + 1 then cm_M B A T s v else B v) = false) := by
      intro hc e v hv
      rw [h3 v hv]
      by_cases q : v = c
      · subst q
        rw [if_neg (by omega), if_pos (by omega), e]
      · by_cases q2 : v < c
        · rw [if_pos q2, if_pos (by omega)]
        · rw [if_neg q2, if_neg (by omega)]
    refine pk_le 64 c (fun z => ?_) (fun z => ?_)
    · have ec : c = 64 := by omega
      subst ec
      refine h ov (fun v hv => ?_) h4
      have := h3 v hv
      rw [if_pos hv] at this
      exact this
    · refine pk_lt c A (fun q => ?_) (fun q => pk_lt T c (fun q2 => ?_) (fun q2 => ?_))
      · exact fin ov (keep z (by unfold cm_M; rw [decide_eq_false (by omega), Bool.or_false])) h4 z
      · exact fin ov (keep z (by unfold cm_M; rw [decide_eq_false (by omega), Bool.or_false])) h4 z
      · refine ⟨nI_ne0 (by omega) (by omega), ?_⟩
        rw [pk_sub q, pk_rem (by omega) (by omega) (by omega)]
        have hmod : (c - A) % s < s := Nat.mod_lt _ (by omega)
        refine pk_eq ((c - A) % s) 0 (fun g => ?_) (fun g => ?_)
        · rw [cm_i64, nI_clamp (by omega)]
          refine ⟨vp_in_nI (by omega) (by decide), nm_e (fin _ (fun v hv => ?_) (fun j hj => ?_) z)⟩
          · by_cases e : v = c
            · subst e
              rw [pk_us, if_pos (by omega)]
              have hM : cm_M B A T s v = true := by
                unfold cm_M
                rw [decide_eq_true ⟨q, q2, g⟩, Bool.or_true]
              rw [hM]
              exact ⟨fun x => absurd x (by decide), fun x => absurd x (by decide)⟩
            · rw [pk_un (by omega), h3 v hv]
              by_cases e2 : v < c
              · rw [if_pos e2, if_pos (by omega)]
              · rw [if_neg e2, if_neg (by omega)]
          · rw [pk_un (by omega)]
            exact h4 j hj
        · exact fin ov (keep z (by unfold cm_M; rw [decide_eq_false (fun x => g x.2.2), Bool.or_false])) h4 z
theorem cy_108a {post : Int32 → SY → Prop} {o b : Nat → Int32} {p : Nat} {x3 x5 x6 : Int32} (hp : p < 20) (hb : b p = 0) (h : ∃ n, wY_allow_159 post x3 x5 x6 (nI p) y m k n 0 0 o (upd b p 0)) : ∀ n c, c ≤ 64 → 64 - c < n → wY_allow_108 post x3 x5 x6 (nI p) y m k n (nI c) o b := by
  intro n
  induction n with
  | zero => intro c _ h2; omega
  | succ n ih =>
    intro c h1 h2
    unfold wY_allow_108
    rw [nI_clamp (by omega)]
    refine pk_le 64 c (fun z => ⟨vp_in_nI hp (by decide), nm_e h⟩) (fun z => ?_)
    exact ⟨vp_in_nI hp (by decide), br_t hb (nm_r (nI_1 c) (ih (c + 1) (by omega) (by omega)))⟩
theorem cy_108b {post : Int32 → SY → Prop} {o b : Nat → Int32} {p : Nat} {x3 x5 x6 : Int32} (hp : p < 20) (hb : ¬ b p = 0) (h : ∀ o', (∀ v, v < 64 → o' (64 * p + v) = 0) → (∀ j, (j < 64 * p ∨ 64 * p + 64 ≤ j) → o' j = o j) → ∃ n, wY_allow_159 post x3 x5 x6 (nI p) y m k n 0 0 o' (upd b p 0)) : ∀ n c (ov : Nat → Int32), c ≤ 64 → 64 - c < n → (∀ v, v < c → ov (64 * p + v) = 0) → (∀ j, (j < 64 * p ∨ 64 * p + 64 ≤ j) → ov j = o j) → wY_allow_108 post x3 x5 x6 (nI p) y m k n (nI c) ov b := by
  intro n
  induction n with
  | zero => intro c _ _ h2; omega
  | succ n ih =>
    intro c ov h1 h2 h3 h4
    unfold wY_allow_108
    rw [nI_clamp (by omega)]
    refine pk_le 64 c (fun z => ?_) (fun z => ?_)
    · refine ⟨vp_in_nI hp (by decide), nm_e (h ov (fun v hv => h3 v (by omega)) h4)⟩
    · refine ⟨vp_in_nI hp (by decide), br_f hb ?_⟩
      rw [cm_i64, nI_clamp (by omega)]
      refine ⟨vp_in_nI (by omega) (by decide), nm_e (nm_r (nI_1 c) (ih (c + 1) _ (by omega) (by omega) (fun v hv => ?_) (fun j hj => ?_)))⟩
      · by_cases e : v = c
        · subst e
          exact pk_us
        · rw [pk_un (by omega)]
          exact h3 v (by omega)
      · rw [pk_un (by omega)]
        exact h4 j hj
theorem cy_allowG {post : Int32 → SY → Prop} {w : Nat → Int64} {b o : Nat → Int32} {r f a t s : Nat} (hR : cr_R w b o) (ha : a < 2 ^ 31) (ht : t < 2 ^ 31) (er : a / 8 = r) (ef : a % 8 = f) (hr : r < 4) (hf : f < 5) (h1 : cc_lo f ≤ t / 64) (h2 : t % 64 ≤ cc_hi f) (h3 : t / 64 ≤ t % 64) (hs : 1 ≤ s) (hs2 : s ≤ 59) (h : ∀ o', (∀ v, v < 64 → (o' (64 * (5 * r + f) + v) = 0 ↔ cm_M (cm_B w b (5 * r + f)) (t / 64) (t % 64) s v = false)) → (∀ j, (j < 64 * (5 * r + f) ∨ 64 * (5 * r + f) + 64 ≤ j) → o' j = o j) → post (nI (cc_cnt (cm_M (cm_B w b (5 * r + f)) (t / 64) (t % 64) s) 64)) (y, m, k, o', upd b (5 * r + f) 0)) : wpY_allow post (y, m, k, o, b) (nI a) (nI t) (nI s) := by
  have hh := cc_hi_b f
  obtain ⟨p1, p2, p3, p4, p5⟩ := cr_at hR hr hf
  have q1 : nI a / 8 = nI r := by rw [show (8 : Int32) = nI 8 from rfl, pk_div ha (by decide) (by decide), er]
  have q2 : nI a - nI a / 8 * 8 = nI f := by rw [show (8 : Int32) = nI 8 from rfl, pk_rem ha (by decide) (by decide), ef]
  have q3 : nI t / 64 = nI (t / 64) := by rw [show (64 : Int32) = nI 64 from rfl, pk_div ht (by decide) (by decide)]
  have q4 : nI t - nI t / 64 * 64 = nI (t % 64) := by rw [show (64 : Int32) = nI 64 from rfl, pk_rem ht (by decide) (by decide)]
  have q5 : nI a / 8 * 5 + nI f = nI (5 * r + f) := by rw [q1, cr_e5]
  unfold wpY_allow
  dsimp only
  refine br_f (nI_pos ha) ⟨by decide, br_t (by rw [q1]; exact nI_le (b := 3) (by omega) (by decide)) ⟨by decide, nm_r q2 ?_⟩⟩
  refine pk_le f 4 (fun _ => br_t (nI_pos' ht) ?_) (fun z => absurd z (by omega))
  refine ⟨by decide, nm_r q3 ⟨by decide, nm_r q4 ?_⟩⟩
  refine cy_isv hf (fun _ => br_f (by decide) ?_) (fun g => absurd ⟨t / 64, h1, by omega, rfl⟩ g)
  refine cy_isv hf (fun _ => br_f (by decide) ?_) (fun g => absurd ⟨t % 64, by omega, h2, rfl⟩ g)
  refine pk_le (t / 64) (t % 64) (fun _ => ?_) (fun z => absurd z (by omega))
  refine pk_lt s 1 (fun z => absurd z (by omega)) (fun _ => pk_le s 59 (fun _ => ⟨by decide, nm_r q5 ?_⟩) (fun z => absurd z (by omega)))
  have start : ∀ o1 : Nat → Int32, (∀ v, v < 64 → (o1 (64 * (5 * r + f) + v) = 0 ↔ cm_B w b (5 * r + f) v = false)) → (∀ j, (j < 64 * (5 * r + f) ∨ 64 * (5 * r + f) + 64 ≤ j) → o1 j = o j) → ∃ n, wY_allow_159 post (nI s) (nI (t / 64)) (nI (t % 64)) (nI (5 * r + f)) y m k n 0 0 o1 (upd b (5 * r + f) 0) := by
    intro o1 g1 g2
    exact ⟨_, cy_159 (by omega) (by omega) (by omega) hs hs2 h 65 0 o1 (by omega) (by omega) (fun v hv => by rw [if_neg (by omega)]; exact g1 v hv) g2⟩
  rcases p1 with z | z
  · refine ⟨_, cy_108a (by omega) z (start o (fun v hv => ?_) (fun j _ => rfl)) 65 0 (by omega) (by omega)⟩
    have hq := p4 z v hv
    dsimp only at hq
    rw [hq]
    unfold cm_B
    rw [decide_eq_true z, Bool.true_and]
  · have z' : ¬ b (5 * r + f) = 0 := by rw [z]; decide
    refine ⟨_, cy_108b (by omega) z' (fun o1 g1 g2 => start o1 (fun v hv => ?_) g2) 65 0 o (by omega) (by omega) (fun v hv => absurd hv (by omega)) (fun j _ => rfl)⟩
    unfold cm_B
    rw [decide_eq_false z', Bool.false_and]
    exact ⟨fun _ => rfl, fun _ => g1 v hv⟩
end
