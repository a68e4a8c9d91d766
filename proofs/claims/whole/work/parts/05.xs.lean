/-! the component's small methods, each with a general post -/
def cf_r (n : Nat) (x : Int32) : Prop := ∃ r, r < n ∧ x = nI r
def cf_y (x : Int32) : Prop := ∃ j, j < 400 ∧ x = nI (2000 + j)
def cf_in (f : Nat) (x : Int32) : Prop := ∃ v, cc_lo f ≤ v ∧ v ≤ cc_hi f ∧ x = nI v
theorem cf_neg {x : Int32} {n : Nat} (hn : n ≤ 2 ^ 31) (h : x < 0) : ¬ cf_r n x := by
  intro ⟨r, hr, e⟩
  rw [e] at h
  exact nI_pos (by omega) h
theorem cf_big {n m : Nat} (hm : m < 2 ^ 31) (hn : n ≤ 2 ^ 31) (h : n ≤ m) : ¬ cf_r n (nI m) := by
  intro ⟨r, hr, e⟩
  have := (nI_eq hm (by omega)).mp e
  omega
theorem cf_yneg {x : Int32} (h : x < 0) : ¬ cf_y x := by
  intro ⟨r, hr, e⟩
  rw [e] at h
  exact nI_pos (by omega) h
theorem cf_ybig {m : Nat} (hm : m < 2 ^ 31) (h : m < 2000 ∨ 2399 < m) : ¬ cf_y (nI m) := by
  intro ⟨r, hr, e⟩
  have := (nI_eq hm (by omega)).mp e
  omega
theorem cf_inneg {x : Int32} {f : Nat} (h : x < 0) : ¬ cf_in f x := by
  intro ⟨v, _, hv, e⟩
  have := cc_hi_b f
  rw [e] at h
  exact nI_pos (by omega) h
theorem cf_inbig {m f : Nat} (hm : m < 2 ^ 31) (h : m < cc_lo f ∨ cc_hi f < m) : ¬ cf_in f (nI m) := by
  intro ⟨v, h1, h2, e⟩
  have := cc_hi_b f
  have := (nI_eq hm (by omega)).mp e
  omega
theorem cx_rule {post : Int32 → Prop} {x : Int32} (h1 : cf_r 4 x → post 1) (h0 : ¬ cf_r 4 x → post 0) : wpX_goodRule post x := by
  by_cases z : x < 0
  · exact br_t z (h0 (cf_neg (by decide) z))
  · obtain ⟨n, hn, rfl⟩ := nI_of z
    exact br_f z (pk_le 4 n (fun a => h0 (cf_big hn (by decide) a)) (fun a => h1 ⟨n, a, rfl⟩))
theorem cx_field {post : Int32 → Prop} {x : Int32} (h1 : cf_r 5 x → post 1) (h0 : ¬ cf_r 5 x → post 0) : wpX_goodField post x := by
  by_cases z : x < 0
  · exact br_t z (h0 (cf_neg (by decide) z))
  · obtain ⟨n, hn, rfl⟩ := nI_of z
    exact br_f z (pk_le 5 n (fun a => h0 (cf_big hn (by decide) a)) (fun a => h1 ⟨n, a, rfl⟩))
theorem cx_day {post : Int32 → Prop} {x : Int32} (h1 : cf_r 146097 x → post 1) (h0 : ¬ cf_r 146097 x → post 0) : wpX_goodDay post x := by
  by_cases z : x < 0
  · exact br_t z (h0 (cf_neg (by decide) z))
  · obtain ⟨n, hn, rfl⟩ := nI_of z
    exact br_f z (pk_lt 146096 n (fun a => h0 (cf_big hn (by decide) a)) (fun a => h1 ⟨n, by omega, rfl⟩))
theorem cx_year {post : Int32 → Prop} {x : Int32} (h1 : cf_y x → post 1) (h0 : ¬ cf_y x → post 0) : wpX_goodYear post x := by
  by_cases z : x < 0
  · exact br_t (Int32.lt_trans z (by decide)) (h0 (cf_yneg z))
  · obtain ⟨n, hn, rfl⟩ := nI_of z
    exact pk_lt n 2000 (fun a => h0 (cf_ybig hn (Or.inl a))) (fun a => pk_lt 2399 n (fun b => h0 (cf_ybig hn (Or.inr b))) (fun b => h1 ⟨n - 2000, by omega, by rw [show 2000 + (n - 2000) = n by omega]⟩))
theorem cx_place {post : Int32 → Prop} {r f : Nat} (h : post (nI (5 * r + f))) : wpX_place post (nI r) (nI f) := by
  have e : 5 * nI r + nI f = nI (5 * r + f) := by rw [show (5 : Int32) = nI 5 from rfl, pk_mul, nI_add]
  show post (5 * nI r + nI f)
  rw [e]
  exact h
theorem cx_5 {f : Nat} {P : Nat → Prop} (hf : f < 5) (h0 : P 0) (h1 : P 1) (h2 : P 2) (h3 : P 3) (h4 : P 4) : P f := by
  have e : f = 0 ∨ f = 1 ∨ f = 2 ∨ f = 3 ∨ f = 4 := by omega
  rcases e with rfl | rfl | rfl | rfl | rfl <;> assumption
theorem cx_hi {post : Int32 → Prop} {f : Nat} (hf : f < 5) (h : post (nI (cc_hi f))) : wpX_greatestValue post (nI f) := by
  revert h
  refine cx_5 (P := fun f => post (nI (cc_hi f)) → wpX_greatestValue post (nI f)) hf ?_ ?_ ?_ ?_ ?_
  · exact fun h => br_f (by decide) (br_f (by decide) (br_t (by decide) h))
  · exact fun h => br_f (by decide) (br_f (by decide) (br_f (by decide) (br_t (by decide) h)))
  · exact fun h => br_f (by decide) (br_f (by decide) (br_f (by decide) (br_f (by decide) (br_t (by decide) h))))
  · exact fun h => br_f (by decide) (br_f (by decide) (br_f (by decide) (br_f (by decide) (br_f (by decide) (br_t (by decide) h)))))
  · exact fun h => br_f (by decide) (br_t (by decide) h)
theorem cx_lo {post : Int32 → Prop} {f : Nat} (hf : f < 5) (h : post (nI (cc_lo f))) : wpX_leastValue post (nI f) := by
  revert h
  refine cx_5 (P := fun f => post (nI (cc_lo f)) → wpX_leastValue post (nI f)) hf ?_ ?_ ?_ ?_ ?_
  · exact fun h => br_f (by decide) (br_f (by decide) h)
  · exact fun h => br_f (by decide) (br_f (by decide) h)
  · exact fun h => br_t (by decide) h
  · exact fun h => br_f (by decide) (br_t (by decide) h)
  · exact fun h => br_f (by decide) (br_f (by decide) h)
theorem cx_isv {post : Int32 → Prop} {f : Nat} {x : Int32} (hf : f < 5) (h1 : cf_in f x → post 1) (h0 : ¬ cf_in f x → post 0) : wpX_isValue post (nI f) x := by
  have hb := cc_hi_b f
  have hl := cc_lo_b f
  refine cx_lo (post := fun r_1 => (x < r_1 → post 0) ∧ (¬ x < r_1 → wpX_greatestValue (fun r_3 => (r_3 < x → post 0) ∧ (¬ r_3 < x → post 1)) (nI f))) hf ?_
  by_cases z : x < 0
  · exact br_t (by rw [ci_lt, nI_toInt (by omega)]; rw [ci_neg] at z; omega) (h0 (cf_inneg z))
  · obtain ⟨n, hn, rfl⟩ := nI_of z
    exact pk_lt n (cc_lo f) (fun a => h0 (cf_inbig hn (Or.inl a))) (fun a => cx_hi hf (pk_lt (cc_hi f) n (fun b => h0 (cf_inbig hn (Or.inr b))) (fun b => h1 ⟨n, a, b, rfl⟩)))
theorem cx_has {post : Int32 → Prop} {w : Nat → Int64} {b : Nat → Int32} {r f v : Nat} (hr : r < 4) (hf : f < 5) (hv : v < 64) (h : post (cb_i (cb_b (w (5 * r + f)) v))) : wpX_has post (w, b) (nI r) (nI f) (nI v) := by
  unfold wpX_has
  dsimp only
  refine cx_place ?_
  refine ⟨vp_in_nI (by omega) (by decide), ?_⟩
  rw [nI_clamp (by omega), cb_has _ hv]
  cases hb : cb_b (w (5 * r + f)) v
  · rw [hb] at h
    exact br_f (by decide) h
  · rw [hb] at h
    exact br_t (by decide) h
theorem cx_isFull {post : Int32 → Prop} {w : Nat → Int64} {b : Nat → Int32} {r f : Nat} (hr : r < 4) (hf : f < 5) (hb : b (5 * r + f) = 0 ∨ b (5 * r + f) = 1) (h : post (b (5 * r + f))) : wpX_isFull post (w, b) (nI r) (nI f) := by
  unfold wpX_isFull
  dsimp only
  refine cx_place ?_
  refine ⟨vp_in_nI (by omega) (by decide), ?_⟩
  rw [nI_clamp (by omega)]
  refine ⟨?_, h⟩
  rcases hb with e | e <;> rw [e] <;> rfl
theorem cx_cnt {post : Int32 → Prop} {w : Nat → Int64} {b : Nat → Int32} {r f : Nat} (hr : r < 4) (hf : f < 5) (h : post (nI (cc_cnt (cb_b (w (5 * r + f))) (cc_hi f + 1)))) : ∀ n v, v ≤ cc_hi f + 1 → cc_hi f + 1 - v < n → wX_countValues_14 post (nI r) (nI f) (nI (cc_hi f)) w b n (nI (cc_cnt (cb_b (w (5 * r + f))) v)) (nI v) := by
  have hh := cc_hi_b f
  intro n
  induction n with
  | zero => intro v _ h2; omega
  | succ n ih =>
    intro v h1 h2
    refine pk_lt (cc_hi f) v (fun a => ?_) (fun a => ?_)
    · rw [show v = cc_hi f + 1 by omega]
      exact h
    · refine cx_has hr hf (by omega) ?_
      have hi := ih (v + 1) (by omega) (by omega)
      refine cb_z (fun z => ?_) (fun z => ?_)
      · rw [cc_cnt_f z] at hi
        exact nm_r (nI_1 v) hi
      · rw [cc_cnt_t z] at hi
        exact nm_r (nI_1 _) (nm_r (nI_1 v) hi)
theorem cx_count {post : Int32 → Prop} {w : Nat → Int64} {b : Nat → Int32} {r f : Nat} (hr : r < 4) (hf : f < 5) (hz : ∀ v, v < 64 → cb_b (w (5 * r + f)) v = true → cc_lo f ≤ v ∧ v ≤ cc_hi f) (h : post (nI (cc_cnt (cb_b (w (5 * r + f))) 64))) : wpX_countValues post (w, b) (nI r) (nI f) := by
  have hh := cc_hi_b f
  have hl := cc_lo_b f
  have e1 : cc_cnt (cb_b (w (5 * r + f))) 64 = cc_cnt (cb_b (w (5 * r + f))) (cc_hi f + 1) := cc_cnt_0 (fun i a c => by
    cases z : cb_b (w (5 * r + f)) i
    · rfl
    · have := hz i c z; omega) (by omega)
  have e2 : cc_cnt (cb_b (w (5 * r + f))) (cc_lo f) = cc_cnt (cb_b (w (5 * r + f))) 0 := cc_cnt_0 (fun i a c => by
    cases z : cb_b (w (5 * r + f)) i
    · rfl
    · have := hz i (by omega) z; omega) (by omega)
  rw [e1] at h
  have hc := cx_cnt (b := b) hr hf h (cc_hi f + 2) (cc_lo f) (by omega) (by omega)
  rw [e2] at hc
  unfold wpX_countValues
  dsimp only
  exact cx_hi hf (cx_lo hf ⟨_, hc⟩)
