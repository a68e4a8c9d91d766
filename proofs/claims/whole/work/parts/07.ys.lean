/-! the reference's small methods and its calendar, each with a general post -/
section
variable {y m k : Int32} {o b : Nat → Int32}
theorem cy_rule {post : Int32 → Prop} {x : Int32} (h1 : cf_r 4 x → post 0) (h0 : ¬ cf_r 4 x → post 1) : wpY_badRule post (y, m, k, o, b) x := by
  by_cases z : x < 0
  · exact br_t z (h0 (cf_neg (by decide) z))
  · obtain ⟨n, hn, rfl⟩ := nI_of z
    exact br_f z (pk_le n 3 (fun a => h1 ⟨n, by omega, rfl⟩) (fun a => h0 (cf_big hn (by decide) (by omega))))
theorem cy_field {post : Int32 → Prop} {x : Int32} (h1 : cf_r 5 x → post 0) (h0 : ¬ cf_r 5 x → post 1) : wpY_badField post (y, m, k, o, b) x := by
  by_cases z : x < 0
  · exact br_t z (h0 (cf_neg (by decide) z))
  · obtain ⟨n, hn, rfl⟩ := nI_of z
    exact br_f z (pk_le n 4 (fun a => h1 ⟨n, by omega, rfl⟩) (fun a => h0 (cf_big hn (by decide) (by omega))))
theorem cy_day {post : Int32 → Prop} {x : Int32} (h1 : cf_r 146097 x → post 0) (h0 : ¬ cf_r 146097 x → post 1) : wpY_badDay post (y, m, k, o, b) x := by
  by_cases z : x < 0
  · exact br_t z (h0 (cf_neg (by decide) z))
  · obtain ⟨n, hn, rfl⟩ := nI_of z
    exact br_f z (pk_le n 146096 (fun a => h1 ⟨n, by omega, rfl⟩) (fun a => h0 (cf_big hn (by decide) (by omega))))
theorem cy_lo {post : Int32 → Prop} {f : Nat} (hf : f < 5) (h : post (nI (cc_lo f))) : wpY_low post (y, m, k, o, b) (nI f) := by
  revert h
  refine cx_5 (P := fun f => post (nI (cc_lo f)) → wpY_low post (y, m, k, o, b) (nI f)) hf ?_ ?_ ?_ ?_ ?_
  · exact fun h => br_f (by decide) (br_f (by decide) h)
  · exact fun h => br_f (by decide) (br_f (by decide) h)
  · exact fun h => br_t (by decide) h
  · exact fun h => br_f (by decide) (br_t (by decide) h)
  · exact fun h => br_f (by decide) (br_f (by decide) h)
theorem cy_hi {post : Int32 → Prop} {f : Nat} (hf : f < 5) (h : post (nI (cc_hi f))) : wpY_high post (y, m, k, o, b) (nI f) := by
  revert h
  refine cx_5 (P := fun f => post (nI (cc_hi f)) → wpY_high post (y, m, k, o, b) (nI f)) hf ?_ ?_ ?_ ?_ ?_
  · exact fun h => br_t (by decide) h
  · exact fun h => br_f (by decide) (br_t (by decide) h)
  · exact fun h => br_f (by decide) (br_f (by decide) (br_t (by decide) h))
  · exact fun h => br_f (by decide) (br_f (by decide) (br_f (by decide) (br_t (by decide) h)))
  · exact fun h => br_f (by decide) (br_f (by decide) (br_f (by decide) (br_f (by decide) h)))
theorem cy_isv {post : Int32 → Prop} {f : Nat} {x : Int32} (hf : f < 5) (h1 : cf_in f x → post 1) (h0 : ¬ cf_in f x → post 0) : wpY_inField post (y, m, k, o, b) (nI f) x := by
  have hb := cc_hi_b f
  have hl := cc_lo_b f
  unfold wpY_inField
  dsimp only
  refine cy_lo hf ?_
  by_cases z : x < 0
  · exact br_t (by rw [ci_lt, nI_toInt (by omega)]; rw [ci_neg] at z; omega) (h0 (cf_inneg z))
  · obtain ⟨n, hn, rfl⟩ := nI_of z
    exact pk_lt n (cc_lo f) (fun a => h0 (cf_inbig hn (Or.inl a))) (fun a => cy_hi hf (pk_lt (cc_hi f) n (fun b => h0 (cf_inbig hn (Or.inr b))) (fun b => h1 ⟨n, a, b, rfl⟩)))
theorem cy_leap {post : Int32 → Prop} {j : Nat} (hj : j < 2 ^ 31) (h : post (nI (cc_L j))) : wpY_leap post (y, m, k, o, b) (nI j) := by
  have e4 : nI j - nI j / 4 * 4 = nI (j % 4) := pk_rem (d := 4) hj (by decide) (by decide)
  have e1 : nI j - nI j / 100 * 100 = nI (j % 100) := pk_rem (d := 100) hj (by decide) (by decide)
  have e0 : nI j - nI j / 400 * 400 = nI (j % 400) := pk_rem (d := 400) hj (by decide) (by decide)
  unfold wpY_leap wY_leap_13
  dsimp only
  rw [e4, e1, e0]
  have h0 : ¬ (j % 4 = 0 ∧ (j % 100 ≠ 0 ∨ j % 400 = 0)) → post 0 := fun z => by
    rw [cc_L, if_neg z] at h; exact h
  have h1 : (j % 4 = 0 ∧ (j % 100 ≠ 0 ∨ j % 400 = 0)) → post 1 := fun z => by
    rw [cc_L, if_pos z] at h; exact h
  exact ⟨by decide, pk_eq (j % 4) 0 (fun a => ⟨by decide, pk_eq (j % 100) 0 (fun b => ⟨by decide, pk_eq (j % 400) 0 (fun c => h1 ⟨a, Or.inr c⟩) (fun c => h0 (by omega))⟩) (fun b => h1 ⟨a, Or.inl b⟩)⟩) (fun a => ⟨by decide, pk_eq (j % 400) 0 (fun c => absurd c (by omega)) (fun c => h0 (by omega))⟩)⟩
theorem cy_len {post : Int32 → Prop} {j q : Nat} (hj : j < 2 ^ 31) (h1 : 1 ≤ q) (h2 : q ≤ 12) (h : post (nI (cc_ln (cc_L j) q))) : wpY_length post (y, m, k, o, b) (nI j) (nI q) := by
  revert h
  refine cx_12 (P := fun q => post (nI (cc_ln (cc_L j) q)) → wpY_length post (y, m, k, o, b) (nI j) (nI q)) h1 h2 ?_ ?_ ?_ ?_ ?_ ?_ ?_ ?_ ?_ ?_ ?_ ?_
  · exact fun h => br_f (by decide) (br_f (by decide) (br_f (by decide) (br_f (by decide) (br_f (by decide) h))))
  · exact fun h => br_t (by decide) (cy_leap hj (cx_leap2 (cc_L2 j) h))
  · exact fun h => br_f (by decide) (br_f (by decide) (br_f (by decide) (br_f (by decide) (br_f (by decide) h))))
  · exact fun h => br_f (by decide) (br_t (by decide) h)
  · exact fun h => br_f (by decide) (br_f (by decide) (br_f (by decide) (br_f (by decide) (br_f (by decide) h))))
  · exact fun h => br_f (by decide) (br_f (by decide) (br_t (by decide) h))
  · exact fun h => br_f (by decide) (br_f (by decide) (br_f (by decide) (br_f (by decide) (br_f (by decide) h))))
  · exact fun h => br_f (by decide) (br_f (by decide) (br_f (by decide) (br_f (by decide) (br_f (by decide) h))))
  · exact fun h => br_f (by decide) (br_f (by decide) (br_f (by decide) (br_t (by decide) h)))
  · exact fun h => br_f (by decide) (br_f (by decide) (br_f (by decide) (br_f (by decide) (br_f (by decide) h))))
  · exact fun h => br_f (by decide) (br_f (by decide) (br_f (by decide) (br_f (by decide) (br_t (by decide) h))))
  · exact fun h => br_f (by decide) (br_f (by decide) (br_f (by decide) (br_f (by decide) (br_f (by decide) h))))
/-! split -/
theorem cy_s84 {post : SY → Prop} {d j : Nat} (hj : j < 400) (hd : d < cc_MF (12 * j + 12)) (h : post (nI (2000 + cc_mo d / 12), nI (cc_mo d % 12 + 1), nI (d - cc_MF (cc_mo d) + 1), o, b)) : ∀ n q, q ≤ 11 → 11 - q < n → cc_MF (12 * j + q) ≤ d → wY_split_84 post (nI (2000 + j)) k o b n (nI (d - cc_MF (12 * j + q))) (nI (q + 1)) := by
  have hM := cc_MF_le (n := 12 * j + 12) (by omega)
  intro n
  induction n with
  | zero => intro q _ h2; omega
  | succ n ih =>
    intro q h1 h2 hq
    have eM : cc_MF (12 * j + (q + 1)) = cc_MF (12 * j + q) + cc_ln (cc_L (2000 + j)) (q + 1) := by
      show cc_MF (12 * j + q) + cc_ln (cc_L (2000 + (12 * j + q) / 12)) ((12 * j + q) % 12 + 1) = _
      rw [show (12 * j + q) / 12 = j by omega, show (12 * j + q) % 12 = q by omega]
    have hb := cc_ln_b (cc_L2 (2000 + j)) (q + 1)
    have fin : d < cc_MF (12 * j + (q + 1)) → post (nI (2000 + j), nI (q + 1), nI (d - cc_MF (12 * j + q) + 1), o, b) := by
      intro z
      rw [cc_at_u (d := d) (n := 12 * j + q) ⟨hq, z, by omega⟩, show (12 * j + q) / 12 = j by omega, show (12 * j + q) % 12 = q by omega] at h
      exact h
    refine pk_le 12 (q + 1) (fun a => ?_) (fun a => ?_)
    · exact nm_r (nI_1 _) (fin (by rw [show q + 1 = 12 by omega]; exact hd))
    · refine cy_len (by omega) (by omega) (by omega) ?_
      refine pk_lt (d - cc_MF (12 * j + q)) (cc_ln (cc_L (2000 + j)) (q + 1)) (fun z => ?_) (fun z => ?_)
      · exact nm_r (nI_1 _) (fin (by omega))
      · refine cy_len (by omega) (by omega) (by omega) ?_
        have hi := ih (q + 1) (by omega) (by omega) (by omega)
        refine nm_r ?_ (nm_r (nI_1 (q + 1)) hi)
        rw [pk_sub z, eM, Nat.sub_add_eq]
theorem cy_s9 {post : SY → Prop} {d : Nat} (hd : d < 146097) (h : post (nI (2000 + cc_mo d / 12), nI (cc_mo d % 12 + 1), nI (d - cc_MF (cc_mo d) + 1), o, b)) : ∀ n j, j ≤ 400 → 400 - j < n → cc_Y j ≤ d → wY_split_9 post m k o b n (nI (d - cc_Y j)) (nI (2000 + j)) := by
  intro n
  induction n with
  | zero => intro j _ h2; omega
  | succ n ih =>
    intro j h1 h2 hq
    have e4 := cc_Y400
    have j4 : j < 400 := by
      rcases Nat.lt_or_ge j 400 with z | z
      · exact z
      · rw [show j = 400 by omega] at hq; omega
    have eY := cc_Y_s j
    have hl := cc_L2 (2000 + j)
    have hY := cc_Y_mono (show j + 1 ≤ 400 by omega)
    have fin : d < cc_Y j + 365 + cc_L (2000 + j) → ∃ n84, wY_split_84 post (nI (2000 + j)) k o b n84 (nI (d - cc_Y j)) 1 := by
      intro z
      have hc := cy_s84 (k := k) j4 (by rw [show 12 * j + 12 = 12 * (j + 1) by omega, cc_MFY]; omega) h 12 0 (by omega) (by omega) (by rw [show 12 * j + 0 = 12 * j from rfl, cc_MFY]; exact hq)
      rw [show 12 * j + 0 = 12 * j from rfl, cc_MFY] at hc
      exact ⟨_, hc⟩
    have go : cc_Y j + 365 + cc_L (2000 + j) ≤ d → wY_split_9 post m k o b n (nI (d - cc_Y j - (365 + cc_L (2000 + j)))) (nI (2000 + j + 1)) := by
      intro z
      have hi := ih (j + 1) (by omega) (by omega) (by omega)
      rw [show d - cc_Y j - (365 + cc_L (2000 + j)) = d - cc_Y (j + 1) by omega]
      exact hi
    refine pk_le 2400 (2000 + j) (fun a => absurd a (by omega)) (fun a => ?_)
    refine cy_leap (by omega) ?_
    have el : cc_L (2000 + j) = 0 ∨ cc_L (2000 + j) = 1 := by omega
    rcases el with el | el
    · refine br_t (by rw [el]; rfl) ?_
      refine pk_lt (d - cc_Y j) 365 (fun z => fin (by omega)) (fun z => ?_)
      refine cy_leap (by omega) (br_t (by rw [el]; rfl) ?_)
      refine nm_r ?_ (nm_r (nI_1 _) (go (by omega)))
      rw [show (365 : Int32) = nI 365 from rfl, pk_sub z, el]
    · refine br_f (by rw [el]; decide) ?_
      refine pk_lt (d - cc_Y j) 366 (fun z => fin (by omega)) (fun z => ?_)
      refine cy_leap (by omega) (br_f (by rw [el]; decide) ?_)
      refine nm_r ?_ (nm_r (nI_1 _) (go (by omega)))
      rw [show (366 : Int32) = nI 366 from rfl, pk_sub z, el]
theorem cy_split {post : SY → Prop} {d : Nat} (hd : d < 146097) (h : post (nI (2000 + cc_mo d / 12), nI (cc_mo d % 12 + 1), nI (d - cc_MF (cc_mo d) + 1), o, b)) : wpY_split post (y, m, k, o, b) (nI d) := by
  have hc := cy_s9 (m := m) (k := k) hd h 401 0 (by omega) (by omega) (Nat.zero_le _)
  exact ⟨_, hc⟩
/-! join -/
theorem cy_j56 {post : Int32 → Prop} {j q c : Nat} (hj : j < 400) (hq : q ≤ 11) (hc : c ≤ 100) (h : post (nI (cc_MF (12 * j + q) + c))) : ∀ n i, i ≤ q → q - i < n → wY_join_56 post (nI (2000 + j)) (nI (q + 1)) y m k o b n (nI (cc_MF (12 * j + i) + c)) (nI (i + 1)) := by
  intro n
  induction n with
  | zero => intro i _ h2; omega
  | succ n ih =>
    intro i h1 h2
    refine pk_le (q + 1) (i + 1) (fun a => ?_) (fun a => ?_)
    · rw [show i = q by omega]
      exact h
    · refine pk_le 12 (i + 1) (fun a => absurd a (by omega)) (fun a2 => ?_)
      refine cy_len (by omega) (by omega) (by omega) ?_
      have hi := ih (i + 1) (by omega) (by omega)
      refine nm_r ?_ (nm_r (nI_1 (i + 1)) hi)
      rw [nI_add]
      refine congrArg nI ?_
      show _ = cc_MF (12 * j + i) + cc_ln (cc_L (2000 + (12 * j + i) / 12)) ((12 * j + i) % 12 + 1) + c
      rw [show (12 * j + i) / 12 = j by omega, show (12 * j + i) % 12 = i by omega]
      omega
theorem cy_j10 {post : Int32 → Prop} {j q c : Nat} (hj : j < 400) (hq : q ≤ 11) (hc : c ≤ 100) (h : post (nI (cc_MF (12 * j + q) + c))) : ∀ n i, i ≤ j → j - i < n → wY_join_10 post (nI (2000 + j)) (nI (q + 1)) y m k o b n (nI (cc_Y i + c)) (nI (2000 + i)) := by
  intro n
  induction n with
  | zero => intro i _ h2; omega
  | succ n ih =>
    intro i h1 h2
    refine pk_le (2000 + j) (2000 + i) (fun a => ?_) (fun a => ?_)
    · have e : i = j := by omega
      subst e
      have hx := cy_j56 (y := y) (m := m) (k := k) (o := o) (b := b) hj hq hc h 12 0 (by omega) (by omega)
      rw [show 12 * i + 0 = 12 * i from rfl, cc_MFY] at hx
      exact ⟨_, hx⟩
    · refine pk_le 2400 (2000 + i) (fun a => absurd a (by omega)) (fun a2 => ?_)
      refine cy_leap (by omega) ?_
      have hi := ih (i + 1) (by omega) (by omega)
      have hl := cc_L2 (2000 + i)
      rw [cc_Y_s] at hi
      have el : cc_L (2000 + i) = 0 ∨ cc_L (2000 + i) = 1 := by omega
      rcases el with el | el
      · refine br_t (by rw [el]; rfl) (nm_r ?_ (nm_r (nI_1 _) hi))
        rw [show (365 : Int32) = nI 365 from rfl, nI_add, el]
        exact congrArg nI (by omega)
      · refine br_f (by rw [el]; decide) (nm_r ?_ (nm_r (nI_1 _) hi))
        rw [show (366 : Int32) = nI 366 from rfl, nI_add, el]
        exact congrArg nI (by omega)
theorem cy_join {post : Int32 → Prop} {j q c : Nat} (hj : j < 400) (hq : q ≤ 11) (hc : c ≤ 100) (h : post (nI (cc_MF (12 * j + q) + c))) : wpY_join post (y, m, k, o, b) (nI (2000 + j)) (nI (q + 1)) (nI (c + 1)) := by
  have hx := cy_j10 (y := y) (m := m) (k := k) (o := o) (b := b) hj hq hc h 401 0 (by omega) (by omega)
  rw [show cc_Y 0 + c = c from Nat.zero_add c] at hx
  exact nm_r (nI_pred c) ⟨_, hx⟩
/-! move -/
def cy_St (d : Nat) (y m k : Int32) : Prop := ∃ n, cc_MF n ≤ d ∧ d < cc_MF (n + 1) ∧ n ≤ 4800 ∧ y = nI (2000 + n / 12) ∧ m = nI (n % 12 + 1) ∧ k = nI (d - cc_MF n + 1)
theorem cy_stOf {d : Nat} (hd : d < 146097) : cy_St d (nI (2000 + cc_mo d / 12)) (nI (cc_mo d % 12 + 1)) (nI (d - cc_MF (cc_mo d) + 1)) := by
  have h := cc_at hd
  exact ⟨cc_mo d, h.1, h.2.1, by have := h.2.2; omega, rfl, rfl, rfl⟩
theorem cy_up {post : SY → Prop} {d : Nat} (hd : d < 146097) (hs : cy_St d y m k) (h : ∀ y' m' k', cy_St (d + 1) y' m' k' → post (y', m', k', o, b)) : wpY_move post (y, m, k, o, b) 1 := by
  obtain ⟨n, h1, h2, h3, rfl, rfl, rfl⟩ := hs
  have hn : n < 4800 := by
    rcases Nat.lt_or_ge n 4800 with z | z
    · exact z
    · have := cc_MF_mono z; rw [cc_end] at this; omega
  have eM : cc_MF (n + 1) = cc_MF n + cc_ln (cc_L (2000 + n / 12)) (n % 12 + 1) := rfl
  have hb := cc_ln_b (cc_L2 (2000 + n / 12)) (n % 12 + 1)
  have hb2 := (cc_MF_s (n + 1)).1
  unfold wpY_move
  dsimp only
  refine nm_r (nI_1 _) ?_
  refine pk_lt (d - cc_MF n + 1 + 1) 1 (fun z => absurd z (by omega)) (fun _ => ?_)
  refine cy_len (by omega) (by omega) (by omega) ?_
  refine pk_lt (cc_ln (cc_L (2000 + n / 12)) (n % 12 + 1)) (d - cc_MF n + 1 + 1) (fun z => ?_) (fun z => ?_)
  · unfold wY_move_38 wY_move_65 wY_move_90 wY_move_93
    have hk : (1 : Int32) = nI (d + 1 - cc_MF (n + 1) + 1) := by
      rw [show d + 1 - cc_MF (n + 1) + 1 = 1 by omega]
      rfl
    refine nm_r (nI_1 _) ?_
    refine pk_lt 12 (n % 12 + 1 + 1) (fun q => ?_) (fun q => ?_)
    · refine nm_r (nI_1 _) ?_
      refine pk_le 1 (n % 12 + 1 + 1) (fun _ => ?_) (fun q2 => absurd q2 (by omega))
      refine br_f (by decide) ?_
      refine h _ _ _ ⟨n + 1, by omega, by omega, by omega, ?_, ?_, hk⟩
      · exact congrArg nI (by omega)
      · rw [show (n + 1) % 12 + 1 = 1 by omega]
        rfl
    · refine pk_le 1 (n % 12 + 1 + 1) (fun _ => ?_) (fun q2 => absurd q2 (by omega))
      refine br_f (by decide) ?_
      refine h _ _ _ ⟨n + 1, by omega, by omega, by omega, ?_, ?_, hk⟩
      · exact congrArg nI (by omega)
      · exact congrArg nI (by omega)
  · exact h _ _ _ ⟨n, by omega, by omega, by omega, rfl, rfl, congrArg nI (by omega)⟩
theorem cy_dn {post : SY → Prop} {d : Nat} (hd : d + 1 < 146097) (hs : cy_St (d + 1) y m k) (h : ∀ y' m' k', cy_St d y' m' k' → post (y', m', k', o, b)) : wpY_move post (y, m, k, o, b) (-1) := by
  obtain ⟨n, h1, h2, h3, rfl, rfl, rfl⟩ := hs
  have hn : n < 4800 := by
    rcases Nat.lt_or_ge n 4800 with z | z
    · exact z
    · have := cc_MF_mono z; rw [cc_end] at this; omega
  have eM : cc_MF (n + 1) = cc_MF n + cc_ln (cc_L (2000 + n / 12)) (n % 12 + 1) := rfl
  have hb := cc_ln_b (cc_L2 (2000 + n / 12)) (n % 12 + 1)
  have e0 : cc_MF 0 = 0 := rfl
  unfold wpY_move
  dsimp only
  refine nm_r (pk_m1 _) ?_
  refine pk_lt (d + 1 - cc_MF n) 1 (fun z => ?_) (fun z => ?_)
  · have hp : 0 < n := by
      rcases Nat.eq_zero_or_pos n with q | q
      · rw [q, e0] at z; omega
      · exact q
    obtain ⟨p, rfl⟩ : ∃ p, n = p + 1 := ⟨n - 1, by omega⟩
    have eP : cc_MF (p + 1) = cc_MF p + cc_ln (cc_L (2000 + p / 12)) (p % 12 + 1) := rfl
    have hp2 := cc_ln_b (cc_L2 (2000 + p / 12)) (p % 12 + 1)
    have st : post (nI (2000 + p / 12), nI (p % 12 + 1), nI (cc_ln (cc_L (2000 + p / 12)) (p % 12 + 1)), o, b) := h _ _ _ ⟨p, by omega, by omega, by omega, rfl, rfl, congrArg nI (by omega)⟩
    unfold wY_move_38 wY_move_65 wY_move_90 wY_move_93
    refine nm_r (pk_m1 _) ?_
    refine pk_lt 12 ((p + 1) % 12) (fun q => absurd q (by omega)) (fun _ => ?_)
    refine pk_le 1 ((p + 1) % 12) (fun q => ?_) (fun q => ?_)
    · refine br_t (by decide) ?_
      rw [show (p + 1) / 12 = p / 12 by omega, show (p + 1) % 12 = p % 12 + 1 by omega]
      exact cy_len (by omega) (by omega) (by omega) st
    · refine nm_r (e' := nI (2000 + p / 12)) ?_ ?_
      · rw [show 2000 + (p + 1) / 12 = 2000 + p / 12 + 1 by omega, pk_m1]
      · refine pk_le 1 ((p + 1) % 12) (fun q2 => absurd q2 (by omega)) (fun _ => ?_)
        refine br_t (by decide) ?_
        rw [show p % 12 + 1 = 12 by omega] at st
        exact cy_len (q := 12) (by omega) (by omega) (by omega) st
  · refine cy_len (by omega) (by omega) (by omega) ?_
    refine pk_lt (cc_ln (cc_L (2000 + n / 12)) (n % 12 + 1)) (d + 1 - cc_MF n) (fun q => absurd q (by omega)) (fun q => ?_)
    exact h _ _ _ ⟨n, by omega, by omega, by omega, rfl, rfl, congrArg nI (by omega)⟩
theorem cy_dn0 {post : SY → Prop} (hs : cy_St 0 y m k) (h : ∀ y' m' k', post (y', m', k', o, b)) : wpY_move post (y, m, k, o, b) (-1) := by
  obtain ⟨n, h1, h2, h3, rfl, rfl, rfl⟩ := hs
  have hn : n = 0 := by
    have e0 : cc_MF 0 = 0 := rfl
    rcases Nat.eq_zero_or_pos n with q | q
    · exact q
    · have h5 := cc_MF_mono (show 0 + 1 ≤ n by omega); have h6 := (cc_MF_s 0).1; omega
  subst hn
  unfold wpY_move
  dsimp only
  refine nm_r (pk_m1 _) ?_
  refine pk_lt (0 - cc_MF 0) 1 (fun z => ?_) (fun z => absurd z (by omega))
  unfold wY_move_38 wY_move_65 wY_move_90 wY_move_93
  refine nm_r (e' := nI 0) (by decide) ?_
  refine br_f (by decide) (br_f (by decide) ?_)
  refine nm_r (e' := nI 1999) (by decide) ?_
  refine br_f (by decide) (br_t (by decide) ?_)
  exact cy_len (q := 12) (by omega) (by omega) (by omega) (h _ _ _)
end
