/-! nth -/
def cn_off (F v : Nat) : Nat := (v + 7 - (F + 6) % 7) % 7
/-- what nth answers: F the first day, l the month's length, v the weekday, n which of them -/
def cn_v (F l v n : Nat) : Int32 := if cn_off F v + 7 * (n - 1) < l then nI (F + (cn_off F v + 7 * (n - 1))) else -4
theorem cn_hit {F k v : Nat} (hv : v ≤ 6) : (F + k + 6) % 7 = v ↔ k % 7 = cn_off F v := by
  unfold cn_off
  omega
theorem cn_lt (F v : Nat) : cn_off F v < 7 := by
  unfold cn_off
  omega
theorem cx_nthG {post : Int32 → Prop} {w : Nat → Int64} {b : Nat → Int32} {j c v : Nat} (hj : j < 400) (hc : c < 2 ^ 31) (h1 : 1 ≤ c / 100) (h2 : c / 100 ≤ 5) (h3 : 1 ≤ c % 100) (h4 : c % 100 ≤ 12) (hv : v ≤ 6) (h : post (cn_v (cc_MF (12 * j + (c % 100 - 1))) (cc_ln (cc_L (2000 + j)) (c % 100)) v (c / 100))) : wpX_nth post (w, b) (nI (2000 + j)) (nI c) (nI v) := by
  have e1 : nI c / 100 = nI (c / 100) := by rw [show (100 : Int32) = nI 100 from rfl, pk_div hc (by decide) (by decide)]
  have en : 12 * j + c % 100 - 1 = 12 * j + (c % 100 - 1) := by omega
  have eM : cc_MF (12 * j + (c % 100 - 1) + 1) = cc_MF (12 * j + (c % 100 - 1)) + cc_ln (cc_L (2000 + j)) (c % 100) := by
    show _ + cc_ln (cc_L (2000 + (12 * j + (c % 100 - 1)) / 12)) ((12 * j + (c % 100 - 1)) % 12 + 1) = _
    rw [show (12 * j + (c % 100 - 1)) / 12 = j by omega, show (12 * j + (c % 100 - 1)) % 12 + 1 = c % 100 by omega]
  have hM := cc_MF_le (n := 12 * j + (c % 100 - 1) + 1) (by omega)
  have hb := cc_ln_b (cc_L2 (2000 + j)) (c % 100)
  unfold wpX_nth
  dsimp only
  refine ⟨by decide, nm_r e1 ⟨by decide, nm_r (cq_e3 hc) ?_⟩⟩
  refine cx_year (fun _ => br_f (by decide) ?_) (fun g => absurd ⟨j, hj, rfl⟩ g)
  refine pk_lt (c / 100) 1 (fun z => absurd z (by omega)) (fun _ => pk_lt 5 (c / 100) (fun z => absurd z (by omega)) (fun _ => ?_))
  refine cx_isv (f := 3) (by decide) (fun _ => br_f (by decide) ?_) (fun g => absurd ⟨c % 100, h3, h4, rfl⟩ g)
  refine cx_isv (f := 4) (by decide) (fun _ => br_f (by decide) ?_) (fun g => absurd ⟨v, Nat.zero_le _, hv, rfl⟩ g)
  refine cx_mnum (by omega) h3 ?_
  rw [en]
  refine cx_first (by omega) (cx_wd (by omega) ⟨by decide, ?_⟩)
  generalize cc_MF (12 * j + (c % 100 - 1)) = F at h eM hM ⊢
  have e2 : nI v - nI ((F + 6) % 7) + 7 = nI (v + 7 - (F + 6) % 7) := by
    rw [← pk_sub (by omega), ← nI_add, show (7 : Int32) = nI 7 from rfl]
    grind
  have e3 : nI v - nI ((F + 6) % 7) + 7 - (nI v - nI ((F + 6) % 7) + 7) / 7 * 7 = nI (cn_off F v) := by
    rw [e2, show (7 : Int32) = nI 7 from rfl, pk_rem (by omega) (by decide) (by decide)]
    rfl
  have e4 : nI F + nI (cn_off F v) + 7 * (nI (c / 100) - 1) = nI (F + (cn_off F v + 7 * (c / 100 - 1))) := by
    rw [show (7 : Int32) = nI 7 from rfl, show (1 : Int32) = nI 1 from rfl, pk_sub h1, pk_mul, nI_add, nI_add, Nat.add_assoc]
  have ho := cn_lt F v
  refine nm_r e3 (nm_r e4 ?_)
  rw [nI_1]
  refine cx_first (by omega) ?_
  rw [eM]
  unfold cn_v at h
  refine pk_le (F + cc_ln (cc_L (2000 + j)) (c % 100)) (F + (cn_off F v + 7 * (c / 100 - 1))) (fun z => ?_) (fun z => ?_)
  · rw [if_neg (by omega)] at h
    exact h
  · rw [if_pos (by omega)] at h
    exact h
theorem cy_n89 {post : Int32 → Prop} {y m k : Int32} {o b : Nat → Int32} {j q v F n : Nat} (hj : j < 400) (hq1 : 1 ≤ q) (hq : q ≤ 12) (hF : F < 146097) (hv : v ≤ 6) (hn1 : 1 ≤ n) (hn : n ≤ 5) (h : post (cn_v F (cc_ln (cc_L (2000 + j)) q) v n)) : ∀ e i, i ≤ cc_ln (cc_L (2000 + j)) q → cc_ln (cc_L (2000 + j)) q - i < e → i ≤ cn_off F v + 7 * (n - 1) → wY_nth_89 post (nI (2000 + j)) (nI v) (nI n) (nI q) (nI F) y m k o b e (nI ((i + 6 - cn_off F v) / 7)) (nI i) := by
  have hb := cc_ln_b (cc_L2 (2000 + j)) q
  have ho := cn_lt F v
  intro e
  induction e with
  | zero => intro i _ h2; omega
  | succ e ih =>
    intro i h1 h2 h3
    have e7 : nI F + nI i + 6 - (nI F + nI i + 6) / 7 * 7 = nI ((F + i + 6) % 7) := by
      rw [nI_add, show (6 : Int32) = nI 6 from rfl, cw_e7 (by omega) 6 (by decide)]
    have hh := cn_hit (F := F) (k := i) hv
    unfold wY_nth_89
    refine cy_len (by omega) hq1 hq ?_
    refine pk_le (cc_ln (cc_L (2000 + j)) q) i (fun z => ?_) (fun z => ?_)
    · unfold cn_v at h
      rw [if_neg (by omega)] at h
      exact h
    · unfold wY_nth_119
      rw [e7]
      refine ⟨by decide, pk_eq ((F + i + 6) % 7) v (fun a => ?_) (fun a => ?_)⟩
      · have hi7 := hh.mp a
        refine nm_r (nI_1 _) ⟨by decide, br_t (by rw [a]) ?_⟩
        refine pk_eq ((i + 6 - cn_off F v) / 7 + 1) n (fun c => ?_) (fun c => ?_)
        · unfold cn_v at h
          rw [if_pos (by omega), show cn_off F v + 7 * (n - 1) = i by omega] at h
          rw [nI_add]
          exact h
        · have hi := ih (i + 1) (by omega) (by omega) (by omega)
          rw [show (i + 1 + 6 - cn_off F v) / 7 = (i + 6 - cn_off F v) / 7 + 1 by omega] at hi
          exact nm_r (nI_1 i) hi
      · have hi7 : ¬ i % 7 = cn_off F v := fun c => a (hh.mpr c)
        have hi := ih (i + 1) (by omega) (by omega) (by omega)
        rw [show (i + 1 + 6 - cn_off F v) / 7 = (i + 6 - cn_off F v) / 7 by omega] at hi
        refine ⟨by decide, br_f (fun c => a ((nI_eq (by omega) (by omega)).mp c)) (nm_r (nI_1 i) hi)⟩
theorem cy_nthG {post : Int32 → Prop} {y m k : Int32} {o b : Nat → Int32} {j c v : Nat} (hj : j < 400) (hc : c < 2 ^ 31) (h1 : 1 ≤ c / 100) (h2 : c / 100 ≤ 5) (h3 : 1 ≤ c % 100) (h4 : c % 100 ≤ 12) (hv : v ≤ 6) (h : post (cn_v (cc_MF (12 * j + (c % 100 - 1))) (cc_ln (cc_L (2000 + j)) (c % 100)) v (c / 100))) : wpY_nth post (y, m, k, o, b) (nI (2000 + j)) (nI c) (nI v) := by
  have e1 : nI c / 100 = nI (c / 100) := by rw [show (100 : Int32) = nI 100 from rfl, pk_div hc (by decide) (by decide)]
  have hM := cc_MF_le (n := 12 * j + (c % 100 - 1) + 1) (by omega)
  have hS := (cc_MF_s (12 * j + (c % 100 - 1))).1
  have ho := cn_lt (cc_MF (12 * j + (c % 100 - 1))) v
  unfold wpY_nth
  dsimp only
  refine pk_lt (2000 + j) 2000 (fun z => absurd z (by omega)) (fun _ => pk_le (2000 + j) 2399 (fun _ => ?_) (fun z => absurd z (by omega)))
  refine ⟨by decide, nm_r e1 ⟨by decide, nm_r (cq_e3 hc) ?_⟩⟩
  refine br_f (nI_pos hc) (pk_lt (c / 100) 1 (fun z => absurd z (by omega)) (fun _ => pk_lt 5 (c / 100) (fun z => absurd z (by omega)) (fun _ => ?_)))
  refine pk_lt (c % 100) 1 (fun z => absurd z (by omega)) (fun _ => pk_le (c % 100) 12 (fun _ => ?_) (fun z => absurd z (by omega)))
  refine br_f (nI_pos (by omega)) (pk_le v 6 (fun _ => ?_) (fun z => absurd z (by omega)))
  have hx := cy_n89 (post := post) (y := y) (m := m) (k := k) (o := o) (b := b) (j := j) (q := c % 100) (v := v) (F := cc_MF (12 * j + (c % 100 - 1))) (n := c / 100) hj h3 h4 (by omega) hv h1 h2 h 33 0 (by omega) (by have := cc_ln_b (cc_L2 (2000 + j)) (c % 100); omega) (by omega)
  rw [show (0 + 6 - cn_off (cc_MF (12 * j + (c % 100 - 1))) v) / 7 = 0 by omega] at hx
  have hj := cy_join (post := fun r_14 => ∃ n89 : Nat, wY_nth_89 post (nI (2000 + j)) (nI v) (nI (c / 100)) (nI (c % 100)) r_14 y m k o b n89 0 0) (y := y) (m := m) (k := k) (o := o) (b := b) (j := j) (q := c % 100 - 1) (c := 0) hj (by omega) (by omega) ⟨_, hx⟩
  rw [show c % 100 - 1 + 1 = c % 100 by omega] at hj
  exact hj
theorem i_vc_nth {k : Nat} {u : SX} {v : SY} (I : i_Rel k u v) (hk : k + 4 ≤ 2048) (v1 : Int32) (v2 : Int32) (v3 : Int32) : wpX_nth (fun r => wpY_nth (fun r' => r' = r ∧ i_Rel (k + 4) u v) v v1 v2 v3) u v1 v2 v3 := by
  obtain ⟨w, b⟩ := u
  obtain ⟨y, m, q, o, b'⟩ := v
  by_cases cy : cf_y v1
  · obtain ⟨j, hj, rfl⟩ := cy
    have y1 : ¬ nI (2000 + j) < 2000 := nI_nlt (b := 2000) (by omega) (by omega)
    have y2 : nI (2000 + j) ≤ 2399 := nI_le (b := 2399) (by omega) (by decide)
    by_cases zc : v2 < 0
    · have hd : (v2 / 100).toInt ≤ 0 := ci_div0 100 zc (by decide) (by decide)
      unfold wpX_nth wpY_nth
      dsimp only
      refine ⟨by decide, nm_e ⟨by decide, nm_e ?_⟩⟩
      refine cx_year (fun _ => br_f (by decide) ?_) (fun g => absurd ⟨j, hj, rfl⟩ g)
      refine br_t (by rw [ci_lt, show (1 : Int32).toInt = 1 by decide]; omega) ?_
      exact br_f y1 (br_t y2 ⟨by decide, nm_e ⟨by decide, nm_e (br_t zc ⟨rfl, I⟩)⟩⟩)
    · obtain ⟨c, hc, rfl⟩ := nI_of zc
      by_cases g : 1 ≤ c / 100 ∧ c / 100 ≤ 5 ∧ 1 ≤ c % 100 ∧ c % 100 ≤ 12
      · obtain ⟨g1, g2, g3, g4⟩ := g
        by_cases cv : cf_r 7 v3
        · obtain ⟨x, hx, rfl⟩ := cv
          exact cx_nthG hj hc g1 g2 g3 g4 (by omega) (cy_nthG hj hc g1 g2 g3 g4 (by omega) ⟨rfl, I⟩)
        · have e1 : nI c / 100 = nI (c / 100) := by rw [show (100 : Int32) = nI 100 from rfl, pk_div hc (by decide) (by decide)]
          unfold wpX_nth wpY_nth
          dsimp only
          refine ⟨by decide, nm_r e1 ⟨by decide, nm_r (cq_e3 hc) ?_⟩⟩
          refine cx_year (fun _ => br_f (by decide) ?_) (fun g => absurd ⟨j, hj, rfl⟩ g)
          refine pk_lt (c / 100) 1 (fun z => absurd z (by omega)) (fun _ => pk_lt 5 (c / 100) (fun z => absurd z (by omega)) (fun _ => ?_))
          refine cx_isv (f := 3) (by decide) (fun _ => br_f (by decide) ?_) (fun g => absurd ⟨c % 100, g3, g4, rfl⟩ g)
          refine cx_isv (f := 4) (by decide) (fun g => absurd (by obtain ⟨x, _, hx, e⟩ := g; have hx' : x ≤ 6 := hx; exact ⟨x, by omega, e⟩) cv) (fun _ => br_t rfl ?_)
          refine br_f y1 (br_t y2 ⟨by decide, nm_r e1 ⟨by decide, nm_r (cq_e3 hc) ?_⟩⟩)
          refine br_f zc (pk_lt (c / 100) 1 (fun z => absurd z (by omega)) (fun _ => pk_lt 5 (c / 100) (fun z => absurd z (by omega)) (fun _ => ?_)))
          refine pk_lt (c % 100) 1 (fun z => absurd z (by omega)) (fun _ => pk_le (c % 100) 12 (fun _ => ?_) (fun z => absurd z (by omega)))
          by_cases zv : v3 < 0
          · exact br_t zv ⟨rfl, I⟩
          · obtain ⟨x, hx, rfl⟩ := nI_of zv
            exact br_f zv (pk_le x 6 (fun z => absurd ⟨x, by omega, rfl⟩ cv) (fun _ => ⟨rfl, I⟩))
      · have e1 : nI c / 100 = nI (c / 100) := by rw [show (100 : Int32) = nI 100 from rfl, pk_div hc (by decide) (by decide)]
        have hY : wpY_nth (fun r' => r' = (-2 : Int32) ∧ i_Rel (k + 4) (w, b) (y, m, q, o, b')) (y, m, q, o, b') (nI (2000 + j)) (nI c) v3 := by
          unfold wpY_nth
          dsimp only
          refine br_f y1 (br_t y2 ⟨by decide, nm_r e1 ⟨by decide, nm_r (cq_e3 hc) ?_⟩⟩)
          refine br_f zc (pk_lt (c / 100) 1 (fun z => ⟨rfl, I⟩) (fun _ => pk_lt 5 (c / 100) (fun z => ⟨rfl, I⟩) (fun _ => ?_)))
          exact pk_lt (c % 100) 1 (fun z => ⟨rfl, I⟩) (fun _ => pk_le (c % 100) 12 (fun _ => absurd (by omega) g) (fun z => ⟨rfl, I⟩))
        unfold wpX_nth
        dsimp only
        refine ⟨by decide, nm_r e1 ⟨by decide, nm_r (cq_e3 hc) ?_⟩⟩
        refine cx_year (fun _ => br_f (by decide) ?_) (fun g => absurd ⟨j, hj, rfl⟩ g)
        refine pk_lt (c / 100) 1 (fun z => hY) (fun _ => pk_lt 5 (c / 100) (fun z => hY) (fun _ => ?_))
        refine cx_isv (f := 3) (by decide) (fun p => absurd ?_ g) (fun _ => br_t rfl hY)
        obtain ⟨x, x1, x2, e⟩ := p
        have x1' : 1 ≤ x := x1
        have x2' : x ≤ 12 := x2
        have ex := (nI_eq (by omega) (by omega)).mp e
        omega
  · have hY : ∀ c1 c2, wpY_nth (fun r' => r' = (-1 : Int32) ∧ i_Rel (k + 4) (w, b) (y, m, q, o, b')) (y, m, q, o, b') v1 c1 c2 := by
      intro c1 c2
      unfold wpY_nth
      dsimp only
      by_cases z : v1 < 0
      · exact br_t (Int32.lt_trans z (by decide)) ⟨rfl, I⟩
      · obtain ⟨n, hn, rfl⟩ := nI_of z
        exact pk_lt n 2000 (fun _ => ⟨rfl, I⟩) (fun _ => pk_le n 2399 (fun _ => absurd ⟨n - 2000, by omega, congrArg nI (by omega)⟩ cy) (fun _ => ⟨rfl, I⟩))
    unfold wpX_nth
    dsimp only
    exact ⟨by decide, nm_e ⟨by decide, nm_e (cx_year (fun g => absurd g cy) (fun _ => br_t rfl (hY _ _)))⟩⟩
