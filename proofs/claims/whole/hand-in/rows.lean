section
theorem pk_us {f : Nat → Int32} {k : Nat} {x : Int32} : upd f k x k = x := if_pos rfl
theorem pk_un {f : Nat → Int32} {k j : Nat} {x : Int32} (h : j ≠ k) : upd f k x j = f j := if_neg h
theorem pk_uLs {f : Nat → Int64} {k : Nat} {x : Int64} : vp_updL f k x k = x := if_pos rfl
theorem pk_uLn {f : Nat → Int64} {k j : Nat} {x : Int64} (h : j ≠ k) : vp_updL f k x j = f j := if_neg h
theorem pk_sub {a b : Nat} (h : b ≤ a) : nI a - nI b = nI (a - b) := by
  obtain ⟨c, rfl⟩ : ∃ c, a = c + b := ⟨a - b, by omega⟩
  rw [← nI_add, Int32.add_sub_cancel, Nat.add_sub_cancel]
theorem pk_m1 (n : Nat) : nI (n + 1) + (-1) = nI n := by
  rw [← nI_1, Int32.add_assoc, show (1 : Int32) + (-1) = 0 from rfl, Int32.add_zero]
theorem pk_mul (a b : Nat) : nI a * nI b = nI (a * b) := (Int32.ofNat_mul a b).symm
theorem pk_div {a d : Nat} (ha : a < 2 ^ 31) (h0 : 0 < d) (hd : d < 2 ^ 31) : nI a / nI d = nI (a / d) := by
  apply Int32.toInt_inj.mp
  rw [lg_idiv_nonneg (by rw [nI_toInt ha]; omega) (by rw [nI_toInt hd]; omega), nI_toInt ha, nI_toInt hd, nI_toInt (Nat.lt_of_le_of_lt (Nat.div_le_self a d) ha)]
  first | rfl | exact (Int.natCast_ediv _ _).symm
theorem pk_rem {a d : Nat} (ha : a < 2 ^ 31) (h0 : 0 < d) (hd : d < 2 ^ 31) : nI a - nI a / nI d * nI d = nI (a % d) := by
  rw [pk_div ha h0 hd, pk_mul, pk_sub (Nat.div_mul_le_self a d)]
  exact congrArg nI (by have := Nat.div_add_mod' a d; omega)
theorem pk_sub_toInt {a b : Nat} (ha : a < 2 ^ 30) (hb : b < 2 ^ 30) : (nI a - nI b).toInt = (a : Int) - b := by
  rw [Int32.toInt_sub, nI_toInt (by omega), nI_toInt (by omega)]
  exact Int.bmod_eq_of_le (by omega) (by omega)
theorem pk_sneg {a b : Nat} (hb : b < 2 ^ 30) (h : a < b) : nI a - nI b < 0 := by
  rw [Int32.lt_iff_toInt_lt, pk_sub_toInt (by omega) hb, show (0 : Int32).toInt = 0 from by decide]
  omega
theorem pk_ix (x : Int32) {n : Nat} (hn : n < 2 ^ 31) : x < 0 ∨ nI n ≤ x ∨ ∃ j : Nat, j < n ∧ x = nI j := by
  by_cases h : x < 0
  · exact Or.inl h
  · obtain ⟨j, hj, rfl⟩ := nI_of h
    by_cases h2 : j < n
    · exact Or.inr (Or.inr ⟨j, h2, rfl⟩)
    · exact Or.inr (Or.inl (nI_le (by omega) hj))
theorem pk_le {x y : Int32} {A B : Prop} (a b : Nat) (f : a ≤ b → A) (g : b < a → B) (hx : x = nI a := by rfl) (hy : y = nI b := by rfl) (ha : a < 2 ^ 31 := by omega) (hb : b < 2 ^ 31 := by omega) : (x ≤ y → A) ∧ (¬ x ≤ y → B) := by
  subst hx hy
  rw [nI_leI ha hb]
  exact ⟨f, fun z => g (by omega)⟩
theorem pk_lt {x y : Int32} {A B : Prop} (a b : Nat) (f : a < b → A) (g : b ≤ a → B) (hx : x = nI a := by rfl) (hy : y = nI b := by rfl) (ha : a < 2 ^ 31 := by omega) (hb : b < 2 ^ 31 := by omega) : (x < y → A) ∧ (¬ x < y → B) := by
  subst hx hy
  rw [nI_ltI ha hb]
  exact ⟨f, fun z => g (by omega)⟩
theorem pk_eq {x y : Int32} {A B : Prop} (a b : Nat) (f : a = b → A) (g : a ≠ b → B) (hx : x = nI a := by rfl) (hy : y = nI b := by rfl) (ha : a < 2 ^ 31 := by omega) (hb : b < 2 ^ 31 := by omega) : (x = y → A) ∧ (¬ x = y → B) := by
  subst hx hy
  rw [nI_eq ha hb]
  exact ⟨f, g⟩
theorem pk_in {x : Int32} (n N : Nat) (h : n < N) (hx : x = nI n := by rfl) (hN : N < 2 ^ 31 := by omega) : vp_in x N := by
  subst hx
  exact vp_in_nI h hN
theorem pk_cl {x : Int32} (n : Nat) (hx : x = nI n := by rfl) (h : n < 2 ^ 31 := by omega) : x.toNatClampNeg = n := by
  subst hx
  exact nI_clamp h
theorem pk_tn {n : Nat} (h : n < 2 ^ 32) : (nI n).toBitVec.toNat = n := Nat.mod_eq_of_lt h
theorem pk_and (x : Int32) {m : Int32} (k : Nat) (hm : m.toBitVec.toNat = 2 ^ k - 1) : x &&& m = nI (x.toBitVec.toNat % 2 ^ k) := by
  apply Int32.toBitVec_inj.mp
  apply BitVec.eq_of_toNat_eq
  rw [Int32.toBitVec_and, BitVec.toNat_and, hm, Nat.and_two_pow_sub_one_eq_mod]
  show _ = (BitVec.ofNat 32 _).toNat
  rw [BitVec.toNat_ofNat]
  exact (Nat.mod_eq_of_lt (Nat.lt_of_le_of_lt (Nat.mod_le _ _) x.toBitVec.isLt)).symm
theorem pk_andN {n : Nat} (h : n < 2 ^ 32) {m : Int32} (k : Nat) (hm : m.toBitVec.toNat = 2 ^ k - 1) : nI n &&& m = nI (n % 2 ^ k) := by
  rw [pk_and _ k hm, pk_tn h]
theorem pk_shr (a s : Int32) (k : Nat) (hs : (s.toBitVec.smod 32).toNat = k) : (a >>> s).toInt = a.toInt >>> k := by
  show (a.toBitVec.sshiftRight (s.toBitVec.smod 32).toNat).toInt = _
  rw [hs, BitVec.toInt_sshiftRight]
  rfl
theorem pk_shrN {n : Nat} (h : n < 2 ^ 31) (s : Int32) (k : Nat) (hs : (s.toBitVec.smod 32).toNat = k) : nI n >>> s = nI (n / 2 ^ k) := by
  apply Int32.toInt_inj.mp
  have h2 : n / 2 ^ k ≤ n := Nat.div_le_self _ _
  rw [pk_shr _ _ k hs, nI_toInt h, nI_toInt (by omega), Int.shiftRight_eq_div_pow]
  rfl
theorem pk_lT {n : Nat} (h : n < 2 ^ 63) : (lN n).toInt = (n : Int) := lg_ofNat_toInt h
theorem pk_lLT {a b : Nat} (ha : a < 2 ^ 63) (hb : b < 2 ^ 63) : lN a < lN b ↔ a < b := by
  rw [Int64.lt_iff_toInt_lt, pk_lT ha, pk_lT hb]; omega
theorem pk_lLE {a b : Nat} (ha : a < 2 ^ 63) (hb : b < 2 ^ 63) : lN a ≤ lN b ↔ a ≤ b := by
  rw [Int64.le_iff_toInt_le, pk_lT ha, pk_lT hb]; omega
theorem pk_lEQ {a b : Nat} (ha : a < 2 ^ 63) (hb : b < 2 ^ 63) : lN a = lN b ↔ a = b := by
  rw [← Int64.toInt_inj, pk_lT ha, pk_lT hb]; omega
theorem pk_lOf {x : Int64} (h : ¬ x < 0) : ∃ k : Nat, k < 2 ^ 63 ∧ x = lN k := by
  rw [Int64.lt_iff_toInt_lt] at h
  have h0 : (0 : Int64).toInt = 0 := by decide
  have hx := Int64.toInt_lt x
  refine ⟨x.toInt.toNat, by omega, Int64.toInt_inj.mp ?_⟩
  rw [pk_lT (by omega)]
  omega
theorem pk_lDiv {a b : Nat} (ha : a < 2 ^ 63) (h0 : 0 < b) (hb : b < 2 ^ 63) : lN a / lN b = lN (a / b) := by
  apply Int64.toInt_inj.mp
  rw [lg_ldiv_nonneg (by rw [pk_lT ha]; omega) (by rw [pk_lT hb]; omega), pk_lT ha, pk_lT hb, pk_lT (Nat.lt_of_le_of_lt (Nat.div_le_self a b) ha)]
  rfl
theorem pk_lRem {a b : Nat} (ha : a < 2 ^ 63) (h0 : 0 < b) (hb : b < 2 ^ 63) : lN a - lN a / lN b * lN b = lN (a % b) := by
  rw [pk_lDiv ha h0 hb, lN_mul, lN_sub (Nat.div_mul_le_self a b)]
  exact congrArg lN (by have := Nat.div_add_mod' a b; omega)
theorem pk_loop {σ : Type} (W : Nat → Nat → σ → Prop) (I : Nat → σ → Prop) (e i0 : Nat) (s : σ) (hi : i0 ≤ e) (h0 : I i0 s) (hx : ∀ n s, I e s → W (n + 1) e s)
    (hs : ∀ n i s, i < e → I i s → (∀ s', I (i + 1) s' → W n (i + 1) s') → W (n + 1) i s) : ∃ n, W n i0 s :=
  ⟨e + 1, loop_i W I e hx hs (e + 1) i0 s hi (by omega) h0⟩
theorem pk_loopD {σ : Type} (W : Nat → Nat → σ → Prop) (I : Nat → σ → Prop) (hx : ∀ n s, I 0 s → W (n + 1) 0 s)
    (hs : ∀ n i s, I (i + 1) s → (∀ s', I i s' → W n i s') → W (n + 1) (i + 1) s) : ∀ (e : Nat) (s : σ), I e s → W (e + 1) e s := by
  intro e
  induction e with
  | zero => exact fun s h => hx 0 s h
  | succ e ih => exact fun s h => hs (e + 1) e s h (fun s' h' => ih s' h')
theorem lp1 {A1 : Type} (W : Nat → A1 → Prop) (I : A1 → Prop) (μ : A1 → Nat) (hs : ∀ (n : Nat) (a1 : A1), I a1 → (∀ (b1 : A1), I b1 → μ b1 < μ a1 → W n b1) → W (n + 1) a1) (a1 : A1) (h : I a1) : ∃ n, W n a1 :=
  loop_m (σ := A1) (fun n s => W n s) (fun s => I s) (fun s => μ s) (fun n s hI hk => hs n s hI (fun b1 h9 hm => hk b1 h9 hm)) a1 h
theorem lp2 {A1 A2 : Type} (W : Nat → A1 → A2 → Prop) (I : A1 → A2 → Prop) (μ : A1 → A2 → Nat) (hs : ∀ (n : Nat) (a1 : A1) (a2 : A2), I a1 a2 → (∀ (b1 : A1) (b2 : A2), I b1 b2 → μ b1 b2 < μ a1 a2 → W n b1 b2) → W (n + 1) a1 a2) (a1 : A1) (a2 : A2) (h : I a1 a2) : ∃ n, W n a1 a2 :=
  loop_m (σ := A1 × A2) (fun n s => W n s.1 s.2) (fun s => I s.1 s.2) (fun s => μ s.1 s.2) (fun n s hI hk => hs n s.1 s.2 hI (fun b1 b2 h9 hm => hk (b1, b2) h9 hm)) (a1, a2) h
theorem lp3 {A1 A2 A3 : Type} (W : Nat → A1 → A2 → A3 → Prop) (I : A1 → A2 → A3 → Prop) (μ : A1 → A2 → A3 → Nat) (hs : ∀ (n : Nat) (a1 : A1) (a2 : A2) (a3 : A3), I a1 a2 a3 → (∀ (b1 : A1) (b2 : A2) (b3 : A3), I b1 b2 b3 → μ b1 b2 b3 < μ a1 a2 a3 → W n b1 b2 b3) → W (n + 1) a1 a2 a3) (a1 : A1) (a2 : A2) (a3 : A3) (h : I a1 a2 a3) : ∃ n, W n a1 a2 a3 :=
  loop_m (σ := A1 × A2 × A3) (fun n s => W n s.1 s.2.1 s.2.2) (fun s => I s.1 s.2.1 s.2.2) (fun s => μ s.1 s.2.1 s.2.2) (fun n s hI hk => hs n s.1 s.2.1 s.2.2 hI (fun b1 b2 b3 h9 hm => hk (b1, b2, b3) h9 hm)) (a1, a2, a3) h
theorem lp4 {A1 A2 A3 A4 : Type} (W : Nat → A1 → A2 → A3 → A4 → Prop) (I : A1 → A2 → A3 → A4 → Prop) (μ : A1 → A2 → A3 → A4 → Nat) (hs : ∀ (n : Nat) (a1 : A1) (a2 : A2) (a3 : A3) (a4 : A4), I a1 a2 a3 a4 → (∀ (b1 : A1) (b2 : A2) (b3 : A3) (b4 : A4), I b1 b2 b3 b4 → μ b1 b2 b3 b4 < μ a1 a2 a3 a4 → W n b1 b2 b3 b4) → W (n + 1) a1 a2 a3 a4) (a1 : A1) (a2 : A2) (a3 : A3) (a4 : A4) (h : I a1 a2 a3 a4) : ∃ n, W n a1 a2 a3 a4 :=
  loop_m (σ := A1 × A2 × A3 × A4) (fun n s => W n s.1 s.2.1 s.2.2.1 s.2.2.2) (fun s => I s.1 s.2.1 s.2.2.1 s.2.2.2) (fun s => μ s.1 s.2.1 s.2.2.1 s.2.2.2) (fun n s hI hk => hs n s.1 s.2.1 s.2.2.1 s.2.2.2 hI (fun b1 b2 b3 b4 h9 hm => hk (b1, b2, b3, b4) h9 hm)) (a1, a2, a3, a4) h
theorem pk_least (P : Nat → Prop) (h : ∃ k, P k) : ∃ k, P k ∧ ∀ j, j < k → ¬ P j := by
  obtain ⟨k, hk⟩ := h
  induction k using Nat.strongRecOn with
  | ind k ih =>
    by_cases e : ∃ j, j < k ∧ P j
    · obtain ⟨j, hj, pj⟩ := e
      exact ih j hj pj
    · exact ⟨k, hk, fun j hj pj => e ⟨j, hj, pj⟩⟩
theorem ts_nf {x : Bool} (h : ¬ x = false) : x = true := by cases x <;> first | rfl | exact absurd rfl h
theorem ts_nt {x : Bool} (h : ¬ x = true) : x = false := by cases x <;> first | rfl | exact absurd rfl h
theorem wb_tb (n : Nat) : (lN n).toBitVec = BitVec.ofNat 64 n := rfl
theorem wb_inj {a b : Int64} (h : a.toBitVec = b.toBitVec) : a = b := Int64.toBitVec_inj.mp h
theorem wb_tn {n : Nat} (h : n < 2 ^ 64) : (lN n).toBitVec.toNat = n := by rw [wb_tb, BitVec.toNat_ofNat, Nat.mod_eq_of_lt h]
theorem wb_of (x : Int64) : ∃ n, n < 2 ^ 64 ∧ x = lN n := ⟨x.toBitVec.toNat, x.toBitVec.isLt, wb_inj (by rw [wb_tb]; simp)⟩
theorem wb_of32 (x : Int32) : ∃ n, n < 2 ^ 32 ∧ x = nI n := ⟨x.toBitVec.toNat, x.toBitVec.isLt, Int32.toBitVec_inj.mp (by show _ = BitVec.ofNat 32 _; simp)⟩
theorem wb_c : ∀ k, k < 64 → ((nI k).toInt64 &&& 63) = lN k := by decide +kernel
theorem wb_sm : ∀ k, k < 64 → (BitVec.ofNat 64 k).smod 64 = BitVec.ofNat 64 k := by decide +kernel
end
section
/-! the calendar as numbers: cc_L the leap day, cc_ln a month's length, cc_MF the first day of a month number, cc_Y of a year -/
def cc_L (y : Nat) : Nat := if y % 4 = 0 ∧ (y % 100 ≠ 0 ∨ y % 400 = 0) then 1 else 0
theorem cc_L2 (y : Nat) : cc_L y < 2 := by unfold cc_L; split <;> omega
def cc_ln (l m : Nat) : Nat := if m = 2 then 28 + l else if m = 4 ∨ m = 6 ∨ m = 9 ∨ m = 11 then 30 else 31
theorem cc_ln_b {l : Nat} (hl : l < 2) (m : Nat) : 28 ≤ cc_ln l m ∧ cc_ln l m ≤ 31 := by
  unfold cc_ln
  split
  · omega
  · split <;> omega
def cc_C (l : Nat) : Nat → Nat
  | 0 => 0
  | m + 1 => cc_C l m + cc_ln l (m + 1)
def cc_MF : Nat → Nat
  | 0 => 0
  | n + 1 => cc_MF n + cc_ln (cc_L (2000 + n / 12)) (n % 12 + 1)
def cc_Y (j : Nat) : Nat := 365 * j + ((j + 3) / 4 - (j + 99) / 100 + (j + 399) / 400)
theorem cc_Y_s (j : Nat) : cc_Y (j + 1) = cc_Y j + 365 + cc_L (2000 + j) := by
  unfold cc_Y cc_L
  split <;> omega
theorem cc_Y_b {j : Nat} (h : j ≤ 401) : 365 * j ≤ cc_Y j ∧ cc_Y j ≤ 365 * j + 98 := by
  unfold cc_Y
  omega
theorem cc_Y_lt (j : Nat) : cc_Y j + 365 ≤ cc_Y (j + 1) := by rw [cc_Y_s]; omega
theorem cc_Y_mono {a b : Nat} (h : a ≤ b) : cc_Y a ≤ cc_Y b := by
  induction h with
  | refl => exact Nat.le_refl _
  | step _ ih => exact Nat.le_trans ih (Nat.le_trans (Nat.le_add_right _ 365) (cc_Y_lt _))
theorem cc_Y400 : cc_Y 400 = 146097 := by decide
theorem cc_C12 {l : Nat} (hl : l < 2) : cc_C l 12 = 365 + l := by
  have h : l = 0 ∨ l = 1 := by omega
  rcases h with rfl | rfl <;> rfl
theorem cc_C_b : ∀ l, l < 2 → ∀ m, m < 12 → cc_C l m ≤ 31 * m := by decide
theorem cc_C_c : ∀ l, l < 2 → ∀ m, m < 11 → 31 * (m + 1) ≤ cc_C l (m + 2) := by decide
theorem cc_MFm (j : Nat) : ∀ m, m ≤ 12 → cc_MF (12 * j + m) = cc_MF (12 * j) + cc_C (cc_L (2000 + j)) m := by
  intro m
  induction m with
  | zero => intro _; rfl
  | succ m ih =>
    intro h
    show cc_MF (12 * j + m) + cc_ln (cc_L (2000 + (12 * j + m) / 12)) ((12 * j + m) % 12 + 1) = cc_MF (12 * j) + (cc_C (cc_L (2000 + j)) m + cc_ln (cc_L (2000 + j)) (m + 1))
    rw [ih (by omega), show (12 * j + m) / 12 = j by omega, show (12 * j + m) % 12 = m by omega, Nat.add_assoc]
theorem cc_MFY (j : Nat) : cc_MF (12 * j) = cc_Y j := by
  induction j with
  | zero => rfl
  | succ j ih =>
    rw [show 12 * (j + 1) = 12 * j + 12 by omega, cc_MFm j 12 (by omega), cc_C12 (cc_L2 _), ih, cc_Y_s]
    omega
theorem cc_MFc (j m : Nat) (h : m ≤ 12) : cc_MF (12 * j + m) = cc_Y j + cc_C (cc_L (2000 + j)) m := by rw [cc_MFm j m h, cc_MFY]
theorem cc_end : cc_MF 4800 = 146097 := by
  have h := cc_MFY 400
  rw [cc_Y400] at h
  exact h
theorem cc_MF_s (n : Nat) : cc_MF n + 28 ≤ cc_MF (n + 1) ∧ cc_MF (n + 1) ≤ cc_MF n + 31 := by
  have h := cc_ln_b (cc_L2 (2000 + n / 12)) (n % 12 + 1)
  have e : cc_MF (n + 1) = cc_MF n + cc_ln (cc_L (2000 + n / 12)) (n % 12 + 1) := rfl
  omega
theorem cc_MF_mono {a b : Nat} (h : a ≤ b) : cc_MF a ≤ cc_MF b := by
  induction h with
  | refl => exact Nat.le_refl _
  | step _ ih => exact Nat.le_trans ih (Nat.le_trans (Nat.le_add_right _ 28) (cc_MF_s _).1)
theorem cc_uniq {d a b : Nat} (h1 : cc_MF a ≤ d) (h2 : d < cc_MF (a + 1)) (h3 : cc_MF b ≤ d) (h4 : d < cc_MF (b + 1)) : a = b := by
  rcases Nat.lt_trichotomy a b with h | h | h
  · have := cc_MF_mono (show a + 1 ≤ b by omega); omega
  · exact h
  · have := cc_MF_mono (show b + 1 ≤ a by omega); omega
def cc_yr (d : Nat) : Nat := if d < cc_Y (d / 365) then d / 365 - 1 else d / 365
theorem cc_yr_s {d : Nat} (h : d < 146097) : cc_Y (cc_yr d) ≤ d ∧ d < cc_Y (cc_yr d + 1) ∧ cc_yr d < 400 := by
  have h1 : 365 * (d / 365) ≤ d ∧ d < 365 * (d / 365) + 365 := by omega
  unfold cc_yr
  generalize d / 365 = q at h1 ⊢
  have hq : q ≤ 400 := by omega
  have b0 := cc_Y_b (show q ≤ 401 by omega)
  have b1 := cc_Y_b (show q + 1 ≤ 401 by omega)
  have e0 : cc_Y 0 = 0 := rfl
  have e4 := cc_Y400
  split
  · rename_i h2
    cases q with
    | zero => omega
    | succ p =>
      have b2 := cc_Y_b (show p ≤ 401 by omega)
      rw [Nat.add_sub_cancel]
      exact ⟨by omega, h2, by omega⟩
  · rename_i h2
    refine ⟨by omega, by omega, ?_⟩
    rcases Nat.lt_or_ge q 400 with h3 | h3
    · exact h3
    · have h4 : q = 400 := by omega
      subst h4
      omega
theorem cc_yr_u {d j : Nat} (h : d < 146097) (h1 : cc_Y j ≤ d) (h2 : d < cc_Y (j + 1)) : cc_yr d = j := by
  obtain ⟨a, b, _⟩ := cc_yr_s h
  generalize cc_yr d = i at a b ⊢
  rcases Nat.lt_trichotomy i j with h | h | h
  · have := cc_Y_mono (show i + 1 ≤ j by omega); omega
  · exact h
  · have := cc_Y_mono (show j + 1 ≤ i by omega); omega
/-- the guess of the month number -/
def cc_g (d : Nat) : Nat := 12 * cc_yr d + (d - cc_Y (cc_yr d)) / 31
def cc_mo (d : Nat) : Nat := if d < cc_MF (cc_g d + 1) then cc_g d else cc_g d + 1
theorem cc_mo_s {d : Nat} (h : d < 146097) : cc_MF (cc_mo d) ≤ d ∧ d < cc_MF (cc_mo d + 1) ∧ cc_mo d < 4800 ∧ cc_mo d / 12 = cc_yr d ∧ cc_g d < 4800 := by
  obtain ⟨a, b, c⟩ := cc_yr_s h
  unfold cc_mo cc_g
  generalize cc_yr d = j at a b c ⊢
  have hl := cc_L2 (2000 + j)
  have e := cc_Y_s j
  have c0 : ∀ m, m ≤ 12 → _ := fun m hm => cc_MFc j m hm
  have k12 := cc_C12 hl
  generalize cc_L (2000 + j) = l at hl e c0 k12
  have hp : 31 * ((d - cc_Y j) / 31) ≤ d - cc_Y j ∧ d - cc_Y j < 31 * ((d - cc_Y j) / 31) + 31 := by omega
  generalize (d - cc_Y j) / 31 = m at hp ⊢
  have hm : m ≤ 11 := by omega
  have a0 := c0 m (by omega)
  have a1 := c0 (m + 1) (by omega)
  have b0 := cc_C_b l hl m (by omega)
  rw [← Nat.add_assoc] at a1
  split
  · rename_i h2
    exact ⟨by omega, h2, by omega, by omega, by omega⟩
  · rename_i h2
    rcases Nat.lt_or_ge m 11 with h3 | h3
    · have a2 := c0 (m + 2) (by omega)
      have b2 := cc_C_c l hl m h3
      rw [← Nat.add_assoc] at a2
      exact ⟨by omega, by rw [show 12 * j + m + 1 + 1 = 12 * j + m + 2 by omega]; omega, by omega, by omega, by omega⟩
    · have h4 : m = 11 := by omega
      subst h4
      rw [show (11 + 1 : Nat) = 12 from rfl] at a1
      omega
/-- day d is the k-th of month number n -/
def cc_At (d n : Nat) : Prop := cc_MF n ≤ d ∧ d < cc_MF (n + 1) ∧ n < 4800
theorem cc_at {d : Nat} (h : d < 146097) : cc_At d (cc_mo d) := ⟨(cc_mo_s h).1, (cc_mo_s h).2.1, (cc_mo_s h).2.2.1⟩
theorem cc_at_d {d n : Nat} (h : cc_At d n) : d < 146097 := by
  have h1 := h.2.1
  have h2 := cc_MF_mono (show n + 1 ≤ 4800 from h.2.2)
  rw [cc_end] at h2
  omega
theorem cc_at_u {d n : Nat} (h : cc_At d n) : cc_mo d = n := by
  have h2 := cc_at (cc_at_d h)
  exact cc_uniq h2.1 h2.2.1 h.1 h.2.1
theorem cc_MF_le {n : Nat} (h : n ≤ 4800) : cc_MF n ≤ 146097 := by
  have h2 := cc_MF_mono h
  rw [cc_end] at h2
  exact h2
/-! counting -/
def cc_cnt (f : Nat → Bool) : Nat → Nat
  | 0 => 0
  | n + 1 => cc_cnt f n + (if f n then 1 else 0)
theorem cc_cnt_le (f : Nat → Bool) (n : Nat) : cc_cnt f n ≤ n := by
  induction n with
  | zero => exact Nat.le_refl _
  | succ n ih =>
    show cc_cnt f n + (if f n then 1 else 0) ≤ n + 1
    split <;> omega
theorem cc_cnt_t {f : Nat → Bool} {n : Nat} (h : f n = true) : cc_cnt f (n + 1) = cc_cnt f n + 1 := by
  show cc_cnt f n + (if f n then 1 else 0) = _
  rw [if_pos h]
theorem cc_cnt_f {f : Nat → Bool} {n : Nat} (h : f n = false) : cc_cnt f (n + 1) = cc_cnt f n := by
  show cc_cnt f n + (if f n then 1 else 0) = _
  rw [if_neg (by rw [h]; decide)]
  rfl
theorem cc_cnt_0 {f : Nat → Bool} {a n : Nat} (h : ∀ i, a ≤ i → i < n → f i = false) (ha : a ≤ n) : cc_cnt f n = cc_cnt f a := by
  induction ha with
  | refl => rfl
  | step hm ih =>
    rename_i m
    rw [cc_cnt_f (h m hm (Nat.lt_succ_self m))]
    exact ih (fun i h1 h2 => h i h1 (by omega))
theorem cc_cnt_e {f g : Nat → Bool} {n : Nat} (h : ∀ i, i < n → f i = g i) : cc_cnt f n = cc_cnt g n := by
  induction n with
  | zero => rfl
  | succ n ih =>
    show cc_cnt f n + (if f n then 1 else 0) = cc_cnt g n + (if g n then 1 else 0)
    rw [ih (fun i hi => h i (by omega)), h n (by omega)]
theorem cc_cnt_p {f g : Nat → Bool} (i k : Nat) (hk : k ≤ 60) : cc_cnt (fun t => f (t / 60) && g (t % 60)) (60 * i + k) = cc_cnt (fun t => f (t / 60) && g (t % 60)) (60 * i) + (if f i then cc_cnt g k else 0) := by
  induction k with
  | zero =>
    show _ = _ + (if f i then 0 else 0)
    split <;> rfl
  | succ k ih =>
    show cc_cnt _ (60 * i + k) + (if (f ((60 * i + k) / 60) && g ((60 * i + k) % 60)) then 1 else 0) = _ + (if f i then cc_cnt g k + (if g k then 1 else 0) else 0)
    rw [ih (by omega), show (60 * i + k) / 60 = i by omega, show (60 * i + k) % 60 = k by omega]
    cases f i <;> cases g k <;> simp [Nat.add_assoc]
theorem cc_cnt_m {f g : Nat → Bool} (i : Nat) : cc_cnt (fun t => f (t / 60) && g (t % 60)) (60 * i) = cc_cnt f i * cc_cnt g 60 := by
  induction i with
  | zero => rw [Nat.mul_zero]; show 0 = 0 * _; rw [Nat.zero_mul]
  | succ i ih =>
    rw [show 60 * (i + 1) = 60 * i + 60 by omega, cc_cnt_p i 60 (by omega), ih]
    show _ = (cc_cnt f i + (if f i then 1 else 0)) * _
    cases f i <;> simp [Nat.add_mul]
end
section
/-! bits of a long, answers of boolean methods, the fields' ranges -/
def cb_b (w : Int64) (v : Nat) : Bool := w.toBitVec.getLsbD v
theorem cb_0 (v : Nat) : cb_b 0 v = false := BitVec.getLsbD_zero
theorem cb_sh : ∀ k, k < 64 → (((nI k).toInt64 &&& 63).toBitVec.smod 64).toNat = k := by decide +kernel
theorem cb_one : ∀ i, i < 64 → (1 : Int64).toBitVec.getLsbD i = decide (i = 0) := by decide +kernel
theorem cb_tp : ∀ l, l < 64 → ((1 : Int64) <<< ((nI l).toInt64 &&& 63)).toBitVec = BitVec.twoPow 64 l := by decide +kernel
theorem cb_has (w : Int64) {v : Nat} (hv : v < 64) : ((w >>> ((nI v).toInt64 &&& 63)) &&& 1) = if cb_b w v then 1 else 0 := by
  have e : (w >>> ((nI v).toInt64 &&& 63)).toBitVec = w.toBitVec.sshiftRight v := by
    show w.toBitVec.sshiftRight (((nI v).toInt64 &&& 63).toBitVec.smod 64).toNat = _
    rw [cb_sh v hv]
  have hb' : cb_b w v = w.toBitVec.getLsbD v := rfl
  rw [hb']
  cases hb : w.toBitVec.getLsbD v
  · rw [if_neg (by decide)]
    apply Int64.toBitVec_inj.mp
    rw [Int64.toBitVec_and, e]
    apply BitVec.eq_of_getLsbD_eq
    intro i hi
    show _ = (0#64).getLsbD i
    rw [BitVec.getLsbD_zero, BitVec.getLsbD_and, cb_one i hi, BitVec.getLsbD_sshiftRight]
    by_cases z : i = 0
    · subst z; rw [Nat.add_zero, if_pos hv, hb]; rfl
    · rw [decide_eq_false z, Bool.and_false]
  · rw [if_pos rfl]
    apply Int64.toBitVec_inj.mp
    rw [Int64.toBitVec_and, e]
    apply BitVec.eq_of_getLsbD_eq
    intro i hi
    rw [BitVec.getLsbD_and, cb_one i hi, BitVec.getLsbD_sshiftRight]
    by_cases z : i = 0
    · subst z; rw [Nat.add_zero, if_pos hv, hb]; rfl
    · rw [decide_eq_false z, Bool.and_false]
theorem cb_or (w : Int64) {v : Nat} (i : Nat) (hv : v < 64) : cb_b (w ||| ((1 : Int64) <<< ((nI v).toInt64 &&& 63))) i = (cb_b w i || decide (v = i)) := by
  unfold cb_b
  rw [Int64.toBitVec_or, BitVec.getLsbD_or, cb_tp v hv, BitVec.getLsbD_twoPow, decide_eq_true hv, Bool.true_and]
def cb_i (b : Bool) : Int32 := if b then 1 else 0
theorem cb_z {b : Bool} {A B : Prop} (f : b = false → A) (t : b = true → B) : (cb_i b = 0 → A) ∧ (¬ cb_i b = 0 → B) := by
  cases b
  · exact ⟨fun _ => f rfl, fun h => absurd rfl h⟩
  · exact ⟨fun h => absurd h (by decide), fun _ => t rfl⟩
theorem cb_01 (b : Bool) : cb_i b = 0 ∨ cb_i b = 1 := by cases b <;> decide
theorem cb_inj {a b : Bool} (h : cb_i a = cb_i b) : a = b := by
  revert h
  cases a <;> cases b <;> decide
theorem cb_c {p : Prop} {A B : Prop} [Decidable p] (t : p → A) (f : ¬ p → B) : (cb_i (decide p) = 0 → B) ∧ (¬ cb_i (decide p) = 0 → A) :=
  cb_z (fun h => f (of_decide_eq_false h)) (fun h => t (of_decide_eq_true h))
def cc_lo (f : Nat) : Nat := if f = 2 ∨ f = 3 then 1 else 0
def cc_hi (f : Nat) : Nat := if f = 0 then 59 else if f = 1 then 23 else if f = 2 then 31 else if f = 3 then 12 else 6
theorem cc_lo_b (f : Nat) : cc_lo f ≤ 1 := by unfold cc_lo; split <;> omega
theorem cc_hi_b (f : Nat) : 6 ≤ cc_hi f ∧ cc_hi f ≤ 59 := by
  unfold cc_hi
  split
  · omega
  · split
    · omega
    · split
      · omega
      · split <;> omega
/-! Int32 by its toInt -/
theorem ci_le {x y : Int32} : x ≤ y ↔ x.toInt ≤ y.toInt := Int32.le_iff_toInt_le
theorem ci_lt {x y : Int32} : x < y ↔ x.toInt < y.toInt := Int32.lt_iff_toInt_lt
theorem ci_0 : (0 : Int32).toInt = 0 := by decide
theorem ci_m1 : (-1 : Int32).toInt = -1 := by decide
theorem ci_neg {x : Int32} : x < 0 ↔ x.toInt < 0 := by rw [ci_lt, ci_0]
theorem ci_div0 {x : Int32} (d : Nat) (h : x < 0) (h0 : 0 < d) (hd : d < 2 ^ 31) : (x / nI d).toInt ≤ 0 := by
  have hx : x.toInt < 0 := ci_neg.mp h
  have e : (nI d).toInt = d := nI_toInt hd
  have ne : nI d ≠ -1 := by
    intro z
    rw [z, ci_m1] at e
    omega
  rw [Int32.toInt_div_of_ne_right _ _ ne, e]
  have h2 := Int.tdiv_nonneg (a := -x.toInt) (b := d) (by omega) (by omega)
  rw [show x.toInt = -(-x.toInt) by omega, Int.neg_tdiv]
  omega
theorem ci_nI {x : Int32} {n : Nat} (h : x.toInt = n) (hn : n < 2 ^ 31) : x = nI n := Int32.toInt_inj.mp (by rw [h, nI_toInt hn])
end
section
/-! the searches' answers: the first and the last in a stretch, or -1; minutes: -2 -/
def cs_U (P : Nat → Bool) (lo hi : Nat) (r : Int32) : Prop :=
  (∃ d, lo ≤ d ∧ d < hi ∧ P d = true ∧ (∀ i, lo ≤ i → i < d → P i = false) ∧ r = nI d) ∨ ((∀ i, lo ≤ i → i < hi → P i = false) ∧ r = -1)
def cs_V (P : Nat → Bool) (lo hi : Nat) (r : Int32) : Prop :=
  (∃ d, lo ≤ d ∧ d < hi ∧ P d = true ∧ (∀ i, d < i → i < hi → P i = false) ∧ r = nI d) ∨ ((∀ i, lo ≤ i → i < hi → P i = false) ∧ r = -1)
def cs_A (D T : Nat → Bool) (m : Nat) : Bool := D (m / 1440) && T (m % 1440)
theorem cs_Aof {D T : Nat → Bool} (d t : Nat) (ht : t < 1440) : cs_A D T (1440 * d + t) = (D d && T t) := by
  unfold cs_A
  rw [show (1440 * d + t) / 1440 = d by omega, show (1440 * d + t) % 1440 = t by omega]
theorem cs_Af {D T : Nat → Bool} (i : Nat) (h : D (i / 1440) = false) : cs_A D T i = false := by
  unfold cs_A
  rw [h, Bool.false_and]
theorem cs_At {D T : Nat → Bool} (i : Nat) (h : T (i % 1440) = false) : cs_A D T i = false := by
  unfold cs_A
  rw [h, Bool.and_false]
def cs_N (A : Nat → Bool) (s : Nat) (r : Int64) : Prop :=
  (∃ m, s ≤ m ∧ m < 210379680 ∧ A m = true ∧ (∀ i, s ≤ i → i < m → A i = false) ∧ r = lN m) ∨ ((∀ i, s ≤ i → i < 210379680 → A i = false) ∧ r = -2)
def cs_P (A : Nat → Bool) (s : Nat) (r : Int64) : Prop :=
  (∃ m, m < s ∧ A m = true ∧ (∀ i, m < i → i < s → A i = false) ∧ r = lN m) ∨ ((∀ i, i < s → A i = false) ∧ r = -2)
theorem cs_N_u {A : Nat → Bool} {s : Nat} {r r' : Int64} (h : cs_N A s r) (h' : cs_N A s r') : r' = r := by
  rcases h with ⟨m, a, b, c, d, rfl⟩ | ⟨a, rfl⟩
  · rcases h' with ⟨m', a', b', c', d', rfl⟩ | ⟨a', rfl⟩
    · rcases Nat.lt_trichotomy m m' with z | z | z
      · have := d' m a z; rw [c] at this; exact absurd this (by decide)
      · rw [z]
      · have := d m' a' z; rw [c'] at this; exact absurd this (by decide)
    · have := a' m a b; rw [c] at this; exact absurd this (by decide)
  · rcases h' with ⟨m', a', b', c', d', rfl⟩ | ⟨a', rfl⟩
    · have := a m' a' b'; rw [c'] at this; exact absurd this (by decide)
    · rfl
theorem cs_P_u {A : Nat → Bool} {s : Nat} {r r' : Int64} (h : cs_P A s r) (h' : cs_P A s r') : r' = r := by
  rcases h with ⟨m, a, c, d, rfl⟩ | ⟨a, rfl⟩
  · rcases h' with ⟨m', a', c', d', rfl⟩ | ⟨a', rfl⟩
    · rcases Nat.lt_trichotomy m m' with z | z | z
      · have := d m' z a'; rw [c'] at this; exact absurd this (by decide)
      · rw [z]
      · have := d' m z a; rw [c] at this; exact absurd this (by decide)
    · have := a' m a; rw [c] at this; exact absurd this (by decide)
  · rcases h' with ⟨m', a', c', d', rfl⟩ | ⟨a', rfl⟩
    · have := a m' a'; rw [c'] at this; exact absurd this (by decide)
    · rfl
/-! the way by days: nothing below this day and time, and here it is -/
theorem cs_Nhit {D T : Nat → Bool} {s d t : Nat} (hs : s ≤ 1440 * d + t) (hd : d < 146097) (ht : t < 1440) (h : ∀ i, s ≤ i → i < 1440 * d + t → cs_A D T i = false) (hD : D d = true) (hT : T t = true) : cs_N (cs_A D T) s (lN (1440 * d + t)) :=
  Or.inl ⟨1440 * d + t, hs, by omega, by rw [cs_Aof d t ht, hD, hT]; rfl, h, rfl⟩
theorem cs_Nend {D T : Nat → Bool} {s : Nat} (h : ∀ i, s ≤ i → i < 1440 * 146097 → cs_A D T i = false) : cs_N (cs_A D T) s (-2) := Or.inr ⟨fun i a b => h i a (by omega), rfl⟩
theorem cs_Nt {D T : Nat → Bool} {s d t : Nat} (ht : t < 1440) (h : ∀ i, s ≤ i → i < 1440 * d + t → cs_A D T i = false) (hT : T t = false) : ∀ i, s ≤ i → i < 1440 * d + (t + 1) → cs_A D T i = false := by
  intro i a b
  rcases Nat.lt_or_ge i (1440 * d + t) with z | z
  · exact h i a z
  · exact cs_At i (by rw [show i % 1440 = t by omega]; exact hT)
theorem cs_Nd {D T : Nat → Bool} {s d t : Nat} (h : ∀ i, s ≤ i → i < 1440 * d + t → cs_A D T i = false) (hD : D d = false) : ∀ i, s ≤ i → i < 1440 * (d + 1) + 0 → cs_A D T i = false := by
  intro i a b
  rcases Nat.lt_or_ge i (1440 * d) with z | z
  · exact h i a (by omega)
  · exact cs_Af i (by rw [show i / 1440 = d by omega]; exact hD)
theorem cs_Phit {D T : Nat → Bool} {s d t : Nat} (hs : 1440 * d + t < s) (ht : t < 1440) (h : ∀ i, 1440 * d + t < i → i < s → cs_A D T i = false) (hD : D d = true) (hT : T t = true) : cs_P (cs_A D T) s (lN (1440 * d + t)) :=
  Or.inl ⟨1440 * d + t, hs, by rw [cs_Aof d t ht, hD, hT]; rfl, h, rfl⟩
theorem cs_Pend {D T : Nat → Bool} {s : Nat} (h : ∀ i, i < s → cs_A D T i = false) : cs_P (cs_A D T) s (-2) := Or.inr ⟨h, rfl⟩
/-! down: nothing at or above e = 1440 * d + t, t counted from 1 -/
theorem cs_Pt {D T : Nat → Bool} {s d t : Nat} (ht : t < 1440) (h : ∀ i, 1440 * d + (t + 1) ≤ i → i < s → cs_A D T i = false) (hT : T t = false) : ∀ i, 1440 * d + t ≤ i → i < s → cs_A D T i = false := by
  intro i a b
  rcases Nat.lt_or_ge i (1440 * d + (t + 1)) with z | z
  · exact cs_At i (by rw [show i % 1440 = t by omega]; exact hT)
  · exact h i z b
theorem cs_Pd {D T : Nat → Bool} {s d t : Nat} (ht : t ≤ 1440) (h : ∀ i, 1440 * d + t ≤ i → i < s → cs_A D T i = false) (hD : D d = false) : ∀ i, 1440 * d ≤ i → i < s → cs_A D T i = false := by
  intro i a b
  rcases Nat.lt_or_ge i (1440 * d + t) with z | z
  · exact cs_Af i (by rw [show i / 1440 = d by omega]; exact hD)
  · exact h i z b
/-! the way by a time, then by days -/
theorem cs_N1 {D T : Nat → Bool} {d t0 t : Nat} (hd : d < 146097) (h0 : t0 ≤ t) (ht : t < 1440) (hm : ∀ i, t0 ≤ i → i < t → T i = false) (hD : D d = true) (hT : T t = true) : cs_N (cs_A D T) (1440 * d + t0) (lN (1440 * d + t)) :=
  cs_Nhit (by omega) hd ht (fun i a b => cs_At i (hm _ (by omega) (by omega))) hD hT
theorem cs_N0 {D T : Nat → Bool} {d t0 : Nat} (h : D d = false ∨ ∀ i, t0 ≤ i → i < 1440 → T i = false) : ∀ i, 1440 * d + t0 ≤ i → i < 1440 * (d + 1) → cs_A D T i = false := by
  intro i a b
  rcases h with h | h
  · exact cs_Af i (by rw [show i / 1440 = d by omega]; exact h)
  · exact cs_At i (h _ (by omega) (by omega))
theorem cs_N2 {D T : Nat → Bool} {d0 t0 d t : Nat} (h : D d0 = false ∨ ∀ i, t0 ≤ i → i < 1440 → T i = false) (h0 : t0 < 1440) (h1 : d0 + 1 ≤ d) (hd : d < 146097) (hD : D d = true) (hm : ∀ i, d0 + 1 ≤ i → i < d → D i = false) (ht : t < 1440) (hT : T t = true) (hn : ∀ i, i < t → T i = false) : cs_N (cs_A D T) (1440 * d0 + t0) (lN (1440 * d + t)) := by
  refine cs_Nhit (by omega) hd ht (fun i a b => ?_) hD hT
  rcases Nat.lt_or_ge i (1440 * (d0 + 1)) with z | z
  · exact cs_N0 h i a z
  · rcases Nat.lt_or_ge i (1440 * d) with y | y
    · exact cs_Af i (hm _ (by omega) (by omega))
    · exact cs_At i (hn _ (by omega))
theorem cs_N3 {D T : Nat → Bool} {d0 t0 : Nat} (h : D d0 = false ∨ ∀ i, t0 ≤ i → i < 1440 → T i = false) (hm : ∀ i, d0 + 1 ≤ i → i < 146097 → D i = false) : cs_N (cs_A D T) (1440 * d0 + t0) (-2) := by
  refine cs_Nend (fun i a b => ?_)
  rcases Nat.lt_or_ge i (1440 * (d0 + 1)) with z | z
  · exact cs_N0 h i a z
  · exact cs_Af i (hm _ (by omega) (by omega))
theorem cs_P1 {D T : Nat → Bool} {d t0 t : Nat} (h0 : t ≤ t0) (ht0 : t0 < 1440) (hm : ∀ i, t < i → i < t0 + 1 → T i = false) (hD : D d = true) (hT : T t = true) : cs_P (cs_A D T) (1440 * d + t0 + 1) (lN (1440 * d + t)) :=
  cs_Phit (by omega) (by omega) (fun i a b => cs_At i (hm _ (by omega) (by omega))) hD hT
theorem cs_P0 {D T : Nat → Bool} {d t0 : Nat} (ht0 : t0 < 1440) (h : D d = false ∨ ∀ i, i < t0 + 1 → T i = false) : ∀ i, 1440 * d ≤ i → i < 1440 * d + t0 + 1 → cs_A D T i = false := by
  intro i a b
  rcases h with h | h
  · exact cs_Af i (by rw [show i / 1440 = d by omega]; exact h)
  · exact cs_At i (h _ (by omega))
theorem cs_P2 {D T : Nat → Bool} {d0 t0 d t : Nat} (h : D d0 = false ∨ ∀ i, i < t0 + 1 → T i = false) (h0 : t0 < 1440) (h1 : d < d0) (hD : D d = true) (hm : ∀ i, d < i → i < d0 → D i = false) (ht : t < 1440) (hT : T t = true) (hn : ∀ i, t < i → i < 1440 → T i = false) : cs_P (cs_A D T) (1440 * d0 + t0 + 1) (lN (1440 * d + t)) := by
  refine cs_Phit (by omega) ht (fun i a b => ?_) hD hT
  rcases Nat.lt_or_ge i (1440 * d0) with z | z
  · rcases Nat.lt_or_ge i (1440 * (d + 1)) with y | y
    · exact cs_At i (hn _ (by omega) (by omega))
    · exact cs_Af i (hm _ (by omega) (by omega))
  · exact cs_P0 h0 h i z b
theorem cs_P3 {D T : Nat → Bool} {d0 t0 : Nat} (h : D d0 = false ∨ ∀ i, i < t0 + 1 → T i = false) (h0 : t0 < 1440) (hm : ∀ i, i < d0 → D i = false) : cs_P (cs_A D T) (1440 * d0 + t0 + 1) (-2) := by
  refine cs_Pend (fun i a => ?_)
  rcases Nat.lt_or_ge i (1440 * d0) with z | z
  · exact cs_Af i (hm _ (by omega))
  · exact cs_P0 h0 h i z a
end
section
/-! the component's small methods, each with a general post -/
def cf_r (n : Nat) (x : Int32) : Prop := ∃ r, r < n ∧ x = nI r
def cf_y (x : Int32) : Prop := ∃ j, j < 400 ∧ x = nI (2000 + j)
def cf_in (f : Nat) (x : Int32) : Prop := ∃ v, cc_lo f ≤ v ∧ v ≤ cc_hi f ∧ x = nI v
theorem cf_neg {x : Int32} {n : Nat} (hn : n ≤ 2 ^ 31) (h : x < 0) : ¬ cf_r n x := by
  intro ⟨r, hr, e⟩
  rw [e] at h
  exact nI_pos (by omega) h
theorem cf_big {n m : Nat} (hm : m < 2 ^ 31) (hn : n ≤ 2 ^ 31) (h : n ≤ m) : ¬ cf_r n (nI m) := by
  intro ⟨r, hr, e⟩
  have := (nI_eq hm (by omega)).mp e
  omega
theorem cf_yneg {x : Int32} (h : x < 0) : ¬ cf_y x := by
  intro ⟨r, hr, e⟩
  rw [e] at h
  exact nI_pos (by omega) h
theorem cf_ybig {m : Nat} (hm : m < 2 ^ 31) (h : m < 2000 ∨ 2399 < m) : ¬ cf_y (nI m) := by
  intro ⟨r, hr, e⟩
  have := (nI_eq hm (by omega)).mp e
  omega
theorem cf_inneg {x : Int32} {f : Nat} (h : x < 0) : ¬ cf_in f x := by
  intro ⟨v, _, hv, e⟩
  have := cc_hi_b f
  rw [e] at h
  exact nI_pos (by omega) h
theorem cf_inbig {m f : Nat} (hm : m < 2 ^ 31) (h : m < cc_lo f ∨ cc_hi f < m) : ¬ cf_in f (nI m) := by
  intro ⟨v, h1, h2, e⟩
  have := cc_hi_b f
  have := (nI_eq hm (by omega)).mp e
  omega
theorem cx_rule {post : Int32 → Prop} {x : Int32} (h1 : cf_r 4 x → post 1) (h0 : ¬ cf_r 4 x → post 0) : wpX_goodRule post x := by
  by_cases z : x < 0
  · exact br_t z (h0 (cf_neg (by decide) z))
  · obtain ⟨n, hn, rfl⟩ := nI_of z
    exact br_f z (pk_le 4 n (fun a => h0 (cf_big hn (by decide) a)) (fun a => h1 ⟨n, a, rfl⟩))
theorem cx_field {post : Int32 → Prop} {x : Int32} (h1 : cf_r 5 x → post 1) (h0 : ¬ cf_r 5 x → post 0) : wpX_goodField post x := by
  by_cases z : x < 0
  · exact br_t z (h0 (cf_neg (by decide) z))
  · obtain ⟨n, hn, rfl⟩ := nI_of z
    exact br_f z (pk_le 5 n (fun a => h0 (cf_big hn (by decide) a)) (fun a => h1 ⟨n, a, rfl⟩))
theorem cx_day {post : Int32 → Prop} {x : Int32} (h1 : cf_r 146097 x → post 1) (h0 : ¬ cf_r 146097 x → post 0) : wpX_goodDay post x := by
  by_cases z : x < 0
  · exact br_t z (h0 (cf_neg (by decide) z))
  · obtain ⟨n, hn, rfl⟩ := nI_of z
    exact br_f z (pk_lt 146096 n (fun a => h0 (cf_big hn (by decide) a)) (fun a => h1 ⟨n, by omega, rfl⟩))
theorem cx_year {post : Int32 → Prop} {x : Int32} (h1 : cf_y x → post 1) (h0 : ¬ cf_y x → post 0) : wpX_goodYear post x := by
  by_cases z : x < 0
  · exact br_t (Int32.lt_trans z (by decide)) (h0 (cf_yneg z))
  · obtain ⟨n, hn, rfl⟩ := nI_of z
    exact pk_lt n 2000 (fun a => h0 (cf_ybig hn (Or.inl a))) (fun a => pk_lt 2399 n (fun b => h0 (cf_ybig hn (Or.inr b))) (fun b => h1 ⟨n - 2000, by omega, by rw [show 2000 + (n - 2000) = n by omega]⟩))
theorem cx_place {post : Int32 → Prop} {r f : Nat} (h : post (nI (5 * r + f))) : wpX_place post (nI r) (nI f) := by
  have e : 5 * nI r + nI f = nI (5 * r + f) := by rw [show (5 : Int32) = nI 5 from rfl, pk_mul, nI_add]
  show post (5 * nI r + nI f)
  rw [e]
  exact h
theorem cx_5 {f : Nat} {P : Nat → Prop} (hf : f < 5) (h0 : P 0) (h1 : P 1) (h2 : P 2) (h3 : P 3) (h4 : P 4) : P f := by
  have e : f = 0 ∨ f = 1 ∨ f = 2 ∨ f = 3 ∨ f = 4 := by omega
  rcases e with rfl | rfl | rfl | rfl | rfl <;> assumption
theorem cx_hi {post : Int32 → Prop} {f : Nat} (hf : f < 5) (h : post (nI (cc_hi f))) : wpX_greatestValue post (nI f) := by
  revert h
  refine cx_5 (P := fun f => post (nI (cc_hi f)) → wpX_greatestValue post (nI f)) hf ?_ ?_ ?_ ?_ ?_
  · exact fun h => br_f (by decide) (br_f (by decide) (br_t (by decide) h))
  · exact fun h => br_f (by decide) (br_f (by decide) (br_f (by decide) (br_t (by decide) h)))
  · exact fun h => br_f (by decide) (br_f (by decide) (br_f (by decide) (br_f (by decide) (br_t (by decide) h))))
  · exact fun h => br_f (by decide) (br_f (by decide) (br_f (by decide) (br_f (by decide) (br_f (by decide) (br_t (by decide) h)))))
  · exact fun h => br_f (by decide) (br_t (by decide) h)
theorem cx_lo {post : Int32 → Prop} {f : Nat} (hf : f < 5) (h : post (nI (cc_lo f))) : wpX_leastValue post (nI f) := by
  revert h
  refine cx_5 (P := fun f => post (nI (cc_lo f)) → wpX_leastValue post (nI f)) hf ?_ ?_ ?_ ?_ ?_
  · exact fun h => br_f (by decide) (br_f (by decide) h)
  · exact fun h => br_f (by decide) (br_f (by decide) h)
  · exact fun h => br_t (by decide) h
  · exact fun h => br_f (by decide) (br_t (by decide) h)
  · exact fun h => br_f (by decide) (br_f (by decide) h)
theorem cx_isv {post : Int32 → Prop} {f : Nat} {x : Int32} (hf : f < 5) (h1 : cf_in f x → post 1) (h0 : ¬ cf_in f x → post 0) : wpX_isValue post (nI f) x := by
  have hb := cc_hi_b f
  have hl := cc_lo_b f
  refine cx_lo (post := fun r_1 => (x < r_1 → post 0) ∧ (¬ x < r_1 → wpX_greatestValue (fun r_3 => (r_3 < x → post 0) ∧ (¬ r_3 < x → post 1)) (nI f))) hf ?_
  by_cases z : x < 0
  · exact br_t (by rw [ci_lt, nI_toInt (by omega)]; rw [ci_neg] at z; omega) (h0 (cf_inneg z))
  · obtain ⟨n, hn, rfl⟩ := nI_of z
    exact pk_lt n (cc_lo f) (fun a => h0 (cf_inbig hn (Or.inl a))) (fun a => cx_hi hf (pk_lt (cc_hi f) n (fun b => h0 (cf_inbig hn (Or.inr b))) (fun b => h1 ⟨n, a, b, rfl⟩)))
theorem cx_has {post : Int32 → Prop} {w : Nat → Int64} {b : Nat → Int32} {r f v : Nat} (hr : r < 4) (hf : f < 5) (hv : v < 64) (h : post (cb_i (cb_b (w (5 * r + f)) v))) : wpX_has post (w, b) (nI r) (nI f) (nI v) := by
  unfold wpX_has
  dsimp only
  refine cx_place ?_
  refine ⟨vp_in_nI (by omega) (by decide), ?_⟩
  rw [nI_clamp (by omega), cb_has _ hv]
  cases hb : cb_b (w (5 * r + f)) v
  · rw [hb] at h
    exact br_f (by decide) h
  · rw [hb] at h
    exact br_t (by decide) h
theorem cx_isFull {post : Int32 → Prop} {w : Nat → Int64} {b : Nat → Int32} {r f : Nat} (hr : r < 4) (hf : f < 5) (hb : b (5 * r + f) = 0 ∨ b (5 * r + f) = 1) (h : post (b (5 * r + f))) : wpX_isFull post (w, b) (nI r) (nI f) := by
  unfold wpX_isFull
  dsimp only
  refine cx_place ?_
  refine ⟨vp_in_nI (by omega) (by decide), ?_⟩
  rw [nI_clamp (by omega)]
  refine ⟨?_, h⟩
  rcases hb with e | e <;> rw [e] <;> rfl
theorem cx_cnt {post : Int32 → Prop} {w : Nat → Int64} {b : Nat → Int32} {r f : Nat} (hr : r < 4) (hf : f < 5) (h : post (nI (cc_cnt (cb_b (w (5 * r + f))) (cc_hi f + 1)))) : ∀ n v, v ≤ cc_hi f + 1 → cc_hi f + 1 - v < n → wX_countValues_14 post (nI r) (nI f) (nI (cc_hi f)) w b n (nI (cc_cnt (cb_b (w (5 * r + f))) v)) (nI v) := by
  have hh := cc_hi_b f
  intro n
  induction n with
  | zero => intro v _ h2; omega
  | succ n ih =>
    intro v h1 h2
    refine pk_lt (cc_hi f) v (fun a => ?_) (fun a => ?_)
    · rw [show v = cc_hi f + 1 by omega]
      exact h
    · refine cx_has hr hf (by omega) ?_
      have hi := ih (v + 1) (by omega) (by omega)
      refine cb_z (fun z => ?_) (fun z => ?_)
      · rw [cc_cnt_f z] at hi
        exact nm_r (nI_1 v) hi
      · rw [cc_cnt_t z] at hi
        exact nm_r (nI_1 _) (nm_r (nI_1 v) hi)
theorem cx_count {post : Int32 → Prop} {w : Nat → Int64} {b : Nat → Int32} {r f : Nat} (hr : r < 4) (hf : f < 5) (hz : ∀ v, v < 64 → cb_b (w (5 * r + f)) v = true → cc_lo f ≤ v ∧ v ≤ cc_hi f) (h : post (nI (cc_cnt (cb_b (w (5 * r + f))) 64))) : wpX_countValues post (w, b) (nI r) (nI f) := by
  have hh := cc_hi_b f
  have hl := cc_lo_b f
  have e1 : cc_cnt (cb_b (w (5 * r + f))) 64 = cc_cnt (cb_b (w (5 * r + f))) (cc_hi f + 1) := cc_cnt_0 (fun i a c => by
    cases z : cb_b (w (5 * r + f)) i
    · rfl
    · have := hz i c z; omega) (by omega)
  have e2 : cc_cnt (cb_b (w (5 * r + f))) (cc_lo f) = cc_cnt (cb_b (w (5 * r + f))) 0 := cc_cnt_0 (fun i a c => by
    cases z : cb_b (w (5 * r + f)) i
    · rfl
    · have := hz i (by omega) z; omega) (by omega)
  rw [e1] at h
  have hc := cx_cnt (b := b) hr hf h (cc_hi f + 2) (cc_lo f) (by omega) (by omega)
  rw [e2] at hc
  unfold wpX_countValues
  dsimp only
  exact cx_hi hf (cx_lo hf ⟨_, hc⟩)
end
section
/-! the component's calendar, each method with a general post -/
theorem cx_leap {post : Int32 → Prop} {y : Nat} (hy : y < 2 ^ 31) (h : post (nI (cc_L y))) : wpX_leap post (nI y) := by
  have e4 : nI y - nI y / 4 * 4 = nI (y % 4) := pk_rem (d := 4) hy (by decide) (by decide)
  have e1 : nI y - nI y / 100 * 100 = nI (y % 100) := pk_rem (d := 100) hy (by decide) (by decide)
  have e0 : nI y - nI y / 400 * 400 = nI (y % 400) := pk_rem (d := 400) hy (by decide) (by decide)
  unfold wpX_leap
  rw [e4, e1, e0]
  have h0 : ¬ (y % 4 = 0 ∧ (y % 100 ≠ 0 ∨ y % 400 = 0)) → post 0 := fun z => by
    rw [cc_L, if_neg z] at h; exact h
  have h1 : (y % 4 = 0 ∧ (y % 100 ≠ 0 ∨ y % 400 = 0)) → post 1 := fun z => by
    rw [cc_L, if_pos z] at h; exact h
  exact ⟨by decide, pk_eq (y % 4) 0 (fun a => ⟨by decide, pk_eq (y % 100) 0 (fun b => ⟨by decide, pk_eq (y % 400) 0 (fun c => h1 ⟨a, Or.inr c⟩) (fun c => h0 (by omega))⟩) (fun b => h1 ⟨a, Or.inl b⟩)⟩) (fun a => h0 (by omega))⟩
theorem cx_12 {m : Nat} {P : Nat → Prop} (h0 : 1 ≤ m) (h9 : m ≤ 12) (h1 : P 1) (h2 : P 2) (h3 : P 3) (h4 : P 4) (h5 : P 5) (h6 : P 6) (h7 : P 7) (h8 : P 8) (k9 : P 9) (h10 : P 10) (h11 : P 11) (h12 : P 12) : P m := by
  have e : m = 1 ∨ m = 2 ∨ m = 3 ∨ m = 4 ∨ m = 5 ∨ m = 6 ∨ m = 7 ∨ m = 8 ∨ m = 9 ∨ m = 10 ∨ m = 11 ∨ m = 12 := by omega
  rcases e with rfl | rfl | rfl | rfl | rfl | rfl | rfl | rfl | rfl | rfl | rfl | rfl <;> assumption
theorem cx_leap2 {post : Int32 → Prop} {l : Nat} (hl : l < 2) (h : post (nI (28 + l))) : (nI l = 0 → post 28) ∧ (¬ nI l = 0 → post 29) := by
  have e : l = 0 ∨ l = 1 := by omega
  rcases e with rfl | rfl
  · exact br_t (by decide) h
  · exact br_f (by decide) h
theorem cx_len {post : Int32 → Prop} {y m : Nat} (hy : y < 2 ^ 31) (h1 : 1 ≤ m) (h2 : m ≤ 12) (h : post (nI (cc_ln (cc_L y) m))) : wpX_lengthOfMonth post (nI y) (nI m) := by
  revert h
  refine cx_12 (P := fun m => post (nI (cc_ln (cc_L y) m)) → wpX_lengthOfMonth post (nI y) (nI m)) h1 h2 ?_ ?_ ?_ ?_ ?_ ?_ ?_ ?_ ?_ ?_ ?_ ?_
  · exact fun h => br_t (by decide) h
  · exact fun h => br_f (by decide) (br_f (by decide) (br_t (by decide) (cx_leap hy (cx_leap2 (cc_L2 y) h))))
  · exact fun h => br_f (by decide) (br_f (by decide) (br_f (by decide) (br_t (by decide) h)))
  · exact fun h => br_f (by decide) (br_f (by decide) (br_f (by decide) (br_f (by decide) (br_t (by decide) h))))
  · exact fun h => br_f (by decide) (br_f (by decide) (br_f (by decide) (br_f (by decide) (br_f (by decide) (br_t (by decide) h)))))
  · exact fun h => br_f (by decide) (br_f (by decide) (br_f (by decide) (br_f (by decide) (br_f (by decide) (br_f (by decide) (br_t (by decide) h))))))
  · exact fun h => br_f (by decide) (br_f (by decide) (br_f (by decide) (br_f (by decide) (br_f (by decide) (br_f (by decide) (br_f (by decide) (br_t (by decide) h)))))))
  · exact fun h => br_f (by decide) (br_f (by decide) (br_f (by decide) (br_f (by decide) (br_f (by decide) (br_f (by decide) (br_f (by decide) (br_f (by decide) (br_t (by decide) h))))))))
  · exact fun h => br_f (by decide) (br_f (by decide) (br_f (by decide) (br_f (by decide) (br_f (by decide) (br_f (by decide) (br_f (by decide) (br_f (by decide) (br_f (by decide) (br_t (by decide) h)))))))))
  · exact fun h => br_f (by decide) (br_f (by decide) (br_f (by decide) (br_f (by decide) (br_f (by decide) (br_f (by decide) (br_f (by decide) (br_f (by decide) (br_f (by decide) (br_f (by decide) (br_t (by decide) h))))))))))
  · exact fun h => br_f (by decide) (br_f (by decide) (br_f (by decide) (br_f (by decide) (br_f (by decide) (br_f (by decide) (br_f (by decide) (br_f (by decide) (br_f (by decide) (br_f (by decide) (br_f (by decide) (br_t (by decide) h)))))))))))
  · exact fun h => br_f (by decide) (br_t (by decide) h)
theorem cx_fdy {post : Int32 → Prop} {j : Nat} (hj : j ≤ 400) (h : post (nI (cc_Y j))) : wpX_firstDayOfYear post (nI (2000 + j)) := by
  have e0 : nI (2000 + j) - 2000 = nI j := by
    rw [show (2000 : Int32) = nI 2000 from rfl, pk_sub (by omega), show 2000 + j - 2000 = j by omega]
  have e1 : (nI j + 3) / 4 = nI ((j + 3) / 4) := by
    rw [show (3 : Int32) = nI 3 from rfl, show (4 : Int32) = nI 4 from rfl, nI_add, pk_div (by omega) (by decide) (by decide)]
  have e2 : (nI j + 99) / 100 = nI ((j + 99) / 100) := by
    rw [show (99 : Int32) = nI 99 from rfl, show (100 : Int32) = nI 100 from rfl, nI_add, pk_div (by omega) (by decide) (by decide)]
  have e3 : (nI j + 399) / 400 = nI ((j + 399) / 400) := by
    rw [show (399 : Int32) = nI 399 from rfl, show (400 : Int32) = nI 400 from rfl, nI_add, pk_div (by omega) (by decide) (by decide)]
  have e4 : ((nI j + 3) / 4 - (nI j + 99) / 100) + (nI j + 399) / 400 = nI ((j + 3) / 4 - (j + 99) / 100 + (j + 399) / 400) := by
    rw [e1, e2, e3, pk_sub (by omega), nI_add]
  have e5 : 365 * nI j + nI ((j + 3) / 4 - (j + 99) / 100 + (j + 399) / 400) = nI (cc_Y j) := by
    rw [show (365 : Int32) = nI 365 from rfl, pk_mul, nI_add]
    rfl
  unfold wpX_firstDayOfYear
  refine nm_r e0 ⟨by decide, by decide, by decide, nm_r e4 ?_⟩
  rw [e5]
  exact h
theorem cx_yom {post : Int32 → Prop} {n : Nat} (hn : n ≤ 4800) (h : post (nI (2000 + n / 12))) : wpX_yearOfMonth post (nI n) := by
  have e : 2000 + nI n / 12 = nI (2000 + n / 12) := by
    rw [show (2000 : Int32) = nI 2000 from rfl, show (12 : Int32) = nI 12 from rfl, pk_div (by omega) (by decide) (by decide), nI_add]
  refine ⟨by decide, ?_⟩
  rw [e]
  exact h
theorem cx_moy {post : Int32 → Prop} {n : Nat} (hn : n ≤ 4800) (h : post (nI (n % 12 + 1))) : wpX_monthOfYear post (nI n) := by
  have e : nI n - nI n / 12 * 12 + 1 = nI (n % 12 + 1) := by
    rw [show (12 : Int32) = nI 12 from rfl, pk_rem (by omega) (by decide) (by decide), nI_1]
  refine ⟨by decide, ?_⟩
  rw [e]
  exact h
theorem cx_mnum {post : Int32 → Prop} {j m : Nat} (hj : j ≤ 400) (hm : 1 ≤ m) (h : post (nI (12 * j + m - 1))) : wpX_monthNumber post (nI (2000 + j)) (nI m) := by
  have e : 12 * (nI (2000 + j) - 2000) + nI m - 1 = nI (12 * j + m - 1) := by
    rw [show (2000 : Int32) = nI 2000 from rfl, show (12 : Int32) = nI 12 from rfl, show (1 : Int32) = nI 1 from rfl, pk_sub (by omega), pk_mul, nI_add, pk_sub (by omega), show 2000 + j - 2000 = j by omega]
  show post (12 * (nI (2000 + j) - 2000) + nI m - 1)
  rw [e]
  exact h
theorem cx_fd {post : Int32 → Prop} {j e : Nat} (hj : j ≤ 400) (he : e < 12) (h : post (nI (cc_MF (12 * j + e)))) : ∀ n m, m ≤ e → e - m < n → wX_firstDayOf_18 post (nI (2000 + j)) (nI (e + 1)) n (nI (cc_MF (12 * j + m))) (nI (m + 1)) := by
  intro n
  induction n with
  | zero => intro m _ h2; omega
  | succ n ih =>
    intro m h1 h2
    refine pk_le (e + 1) (m + 1) (fun a => ?_) (fun a => ?_)
    · rw [show m = e by omega]
      exact h
    · refine cx_len (by omega) (by omega) (by omega) ?_
      have hi := ih (m + 1) (by omega) (by omega)
      refine nm_r ?_ (nm_r (nI_1 (m + 1)) hi)
      rw [nI_add]
      exact congrArg nI (by
        show _ = cc_MF (12 * j + m) + cc_ln (cc_L (2000 + (12 * j + m) / 12)) ((12 * j + m) % 12 + 1)
        rw [show (12 * j + m) / 12 = j by omega, show (12 * j + m) % 12 = m by omega])
theorem cx_first {post : Int32 → Prop} {n : Nat} (hn : n ≤ 4800) (h : post (nI (cc_MF n))) : wpX_firstDayOf post (nI n) := by
  have e : 12 * (n / 12) + n % 12 = n := by omega
  rw [← e] at h
  have hc := cx_fd (j := n / 12) (e := n % 12) (by omega) (by omega) h 13 0 (by omega) (by omega)
  rw [show 12 * (n / 12) + 0 = 12 * (n / 12) from rfl, cc_MFY] at hc
  exact cx_yom hn (cx_moy hn (cx_fdy (by omega) ⟨_, hc⟩))
theorem cx_yearOf {post : Int32 → Prop} {d : Nat} (hd : d < 146097) (h : post (nI (2000 + cc_yr d))) : wpX_yearOf post (nI d) := by
  have e : 2000 + nI d / 365 = nI (2000 + d / 365) := by
    rw [show (2000 : Int32) = nI 2000 from rfl, show (365 : Int32) = nI 365 from rfl, pk_div (by omega) (by decide) (by decide), nI_add]
  have hb := cc_Y_b (j := d / 365) (by omega)
  have e0 : cc_Y 0 = 0 := rfl
  refine ⟨by decide, nm_r e (cx_fdy (by omega) ?_)⟩
  refine pk_le (cc_Y (d / 365)) d (fun a => ?_) (fun a => ?_)
  · rw [cc_yr, if_neg (by omega)] at h
    exact h
  · rw [cc_yr, if_pos a] at h
    have hp : 1 ≤ d / 365 := by
      rcases Nat.eq_zero_or_pos (d / 365) with z | z
      · rw [z, e0] at a; omega
      · exact z
    rw [show (1 : Int32) = nI 1 from rfl, pk_sub (by omega), show 2000 + d / 365 - 1 = 2000 + (d / 365 - 1) by omega]
    exact h
theorem cx_mno {post : Int32 → Prop} {d : Nat} (hd : d < 146097) (h : post (nI (cc_mo d))) : wpX_monthNumberOf post (nI d) := by
  obtain ⟨a, b, c⟩ := cc_yr_s hd
  have hg := (cc_mo_s hd).2.2.2.2
  have hm := cc_MF_le (n := cc_g d + 1) (by omega)
  have e1 : nI d - nI (cc_Y (cc_yr d)) = nI (d - cc_Y (cc_yr d)) := pk_sub a
  have e2 : nI (12 * cc_yr d + 1 - 1) + nI (d - cc_Y (cc_yr d)) / 31 = nI (cc_g d) := by
    rw [show (31 : Int32) = nI 31 from rfl, pk_div (by omega) (by decide) (by decide), nI_add]
    rfl
  refine cx_yearOf hd (cx_fdy (by omega) (nm_r e1 (cx_mnum (m := 1) (by omega) (by omega) ⟨by decide, nm_r e2 ?_⟩)))
  rw [nI_1]
  refine cx_first (by omega) ?_
  refine pk_le (cc_MF (cc_g d + 1)) d (fun z => ?_) (fun z => ?_)
  · rw [cc_mo, if_neg (by omega)] at h
    exact h
  · rw [cc_mo, if_pos z] at h
    exact h
theorem cx_wd {post : Int32 → Prop} {d : Nat} (hd : d < 146097) (h : post (nI ((d + 6) % 7))) : wpX_weekdayOf post (nI d) := by
  have e : (nI d + 6) - (nI d + 6) / 7 * 7 = nI ((d + 6) % 7) := by
    rw [show (6 : Int32) = nI 6 from rfl, show (7 : Int32) = nI 7 from rfl, nI_add, pk_rem (by omega) (by decide) (by decide)]
  refine ⟨by decide, ?_⟩
  rw [e]
  exact h
theorem cx_dpy {post : Int32 → Prop} {d : Nat} (hd : d < 146097) (h : post (nI (d - cc_Y (cc_yr d)))) : wpX_daysPassedInYear post (nI d) := by
  obtain ⟨a, b, c⟩ := cc_yr_s hd
  refine cx_yearOf hd (cx_fdy (by omega) ?_)
  rw [pk_sub a]
  exact h
/-! makeFull -/
theorem cx_mf {post : SX → Prop} {w : Nat → Int64} {b : Nat → Int32} {p f : Nat} (hp : p < 20) (h : ∀ m, (∀ i, i < 64 → cb_b m i = decide (cc_lo f ≤ i ∧ i ≤ cc_hi f)) → post (vp_updL w p m, upd b p 1)) : ∀ n v (m : Int64), cc_lo f ≤ v → v ≤ cc_hi f + 1 → cc_hi f + 1 - v < n → (∀ i, i < 64 → cb_b m i = decide (cc_lo f ≤ i ∧ i < v)) → wX_makeFull_21 post (nI p) (nI (cc_hi f)) w b n m (nI v) := by
  have hh := cc_hi_b f
  intro n
  induction n with
  | zero => intro v m _ _ h2; omega
  | succ n ih =>
    intro v m h0 h1 h2 hm
    refine pk_lt (cc_hi f) v (fun a => ?_) (fun a => ?_)
    · refine ⟨vp_in_nI hp (by decide), nm_e ⟨vp_in_nI hp (by decide), nm_e ?_⟩⟩
      rw [nI_clamp (by omega)]
      refine h m (fun i hi => ?_)
      rw [hm i hi]
      exact decide_eq_decide.mpr (by omega)
    · refine nm_e (nm_r (nI_1 v) (ih (v + 1) _ (by omega) (by omega) (by omega) (fun i hi => ?_)))
      rw [cb_or _ i (by omega), hm i hi]
      by_cases z : v = i
      · rw [decide_eq_true z, Bool.or_true]
        exact (decide_eq_true (by omega)).symm
      · rw [decide_eq_false z, Bool.or_false]
        exact decide_eq_decide.mpr (by omega)
theorem cx_makeFull {post : SX → Prop} {w : Nat → Int64} {b : Nat → Int32} {r f : Nat} (hr : r < 4) (hf : f < 5) (h : ∀ m, (∀ i, i < 64 → cb_b m i = decide (cc_lo f ≤ i ∧ i ≤ cc_hi f)) → post (vp_updL w (5 * r + f) m, upd b (5 * r + f) 1)) : wpX_makeFull post (w, b) (nI r) (nI f) := by
  have hh := cc_hi_b f
  have hl := cc_lo_b f
  unfold wpX_makeFull
  dsimp only
  exact cx_place (cx_hi hf (cx_lo hf ⟨_, cx_mf (by omega) h (cc_hi f + 2) (cc_lo f) 0 (by omega) (by omega) (by omega) (fun i hi => by rw [cb_0]; exact (decide_eq_false (by omega)).symm)⟩))
end
section
/-! the reference's small methods and its calendar, each with a general post -/
section
variable {y m k : Int32} {o b : Nat → Int32}
theorem cy_rule {post : Int32 → Prop} {x : Int32} (h1 : cf_r 4 x → post 0) (h0 : ¬ cf_r 4 x → post 1) : wpY_badRule post (y, m, k, o, b) x := by
  by_cases z : x < 0
  · exact br_t z (h0 (cf_neg (by decide) z))
  · obtain ⟨n, hn, rfl⟩ := nI_of z
    exact br_f z (pk_le n 3 (fun a => h1 ⟨n, by omega, rfl⟩) (fun a => h0 (cf_big hn (by decide) (by omega))))
theorem cy_field {post : Int32 → Prop} {x : Int32} (h1 : cf_r 5 x → post 0) (h0 : ¬ cf_r 5 x → post 1) : wpY_badField post (y, m, k, o, b) x := by
  by_cases z : x < 0
  · exact br_t z (h0 (cf_neg (by decide) z))
  · obtain ⟨n, hn, rfl⟩ := nI_of z
    exact br_f z (pk_le n 4 (fun a => h1 ⟨n, by omega, rfl⟩) (fun a => h0 (cf_big hn (by decide) (by omega))))
theorem cy_day {post : Int32 → Prop} {x : Int32} (h1 : cf_r 146097 x → post 0) (h0 : ¬ cf_r 146097 x → post 1) : wpY_badDay post (y, m, k, o, b) x := by
  by_cases z : x < 0
  · exact br_t z (h0 (cf_neg (by decide) z))
  · obtain ⟨n, hn, rfl⟩ := nI_of z
    exact br_f z (pk_le n 146096 (fun a => h1 ⟨n, by omega, rfl⟩) (fun a => h0 (cf_big hn (by decide) (by omega))))
theorem cy_lo {post : Int32 → Prop} {f : Nat} (hf : f < 5) (h : post (nI (cc_lo f))) : wpY_low post (y, m, k, o, b) (nI f) := by
  revert h
  refine cx_5 (P := fun f => post (nI (cc_lo f)) → wpY_low post (y, m, k, o, b) (nI f)) hf ?_ ?_ ?_ ?_ ?_
  · exact fun h => br_f (by decide) (br_f (by decide) h)
  · exact fun h => br_f (by decide) (br_f (by decide) h)
  · exact fun h => br_t (by decide) h
  · exact fun h => br_f (by decide) (br_t (by decide) h)
  · exact fun h => br_f (by decide) (br_f (by decide) h)
theorem cy_hi {post : Int32 → Prop} {f : Nat} (hf : f < 5) (h : post (nI (cc_hi f))) : wpY_high post (y, m, k, o, b) (nI f) := by
  revert h
  refine cx_5 (P := fun f => post (nI (cc_hi f)) → wpY_high post (y, m, k, o, b) (nI f)) hf ?_ ?_ ?_ ?_ ?_
  · exact fun h => br_t (by decide) h
  · exact fun h => br_f (by decide) (br_t (by decide) h)
  · exact fun h => br_f (by decide) (br_f (by decide) (br_t (by decide) h))
  · exact fun h => br_f (by decide) (br_f (by decide) (br_f (by decide) (br_t (by decide) h)))
  · exact fun h => br_f (by decide) (br_f (by decide) (br_f (by decide) (br_f (by decide) h)))
theorem cy_isv {post : Int32 → Prop} {f : Nat} {x : Int32} (hf : f < 5) (h1 : cf_in f x → post 1) (h0 : ¬ cf_in f x → post 0) : wpY_inField post (y, m, k, o, b) (nI f) x := by
  have hb := cc_hi_b f
  have hl := cc_lo_b f
  unfold wpY_inField
  dsimp only
  refine cy_lo hf ?_
  by_cases z : x < 0
  · exact br_t (by rw [ci_lt, nI_toInt (by omega)]; rw [ci_neg] at z; omega) (h0 (cf_inneg z))
  · obtain ⟨n, hn, rfl⟩ := nI_of z
    exact pk_lt n (cc_lo f) (fun a => h0 (cf_inbig hn (Or.inl a))) (fun a => cy_hi hf (pk_lt (cc_hi f) n (fun b => h0 (cf_inbig hn (Or.inr b))) (fun b => h1 ⟨n, a, b, rfl⟩)))
theorem cy_leap {post : Int32 → Prop} {j : Nat} (hj : j < 2 ^ 31) (h : post (nI (cc_L j))) : wpY_leap post (y, m, k, o, b) (nI j) := by
  have e4 : nI j - nI j / 4 * 4 = nI (j % 4) := pk_rem (d := 4) hj (by decide) (by decide)
  have e1 : nI j - nI j / 100 * 100 = nI (j % 100) := pk_rem (d := 100) hj (by decide) (by decide)
  have e0 : nI j - nI j / 400 * 400 = nI (j % 400) := pk_rem (d := 400) hj (by decide) (by decide)
  unfold wpY_leap wY_leap_13
  dsimp only
  rw [e4, e1, e0]
  have h0 : ¬ (j % 4 = 0 ∧ (j % 100 ≠ 0 ∨ j % 400 = 0)) → post 0 := fun z => by
    rw [cc_L, if_neg z] at h; exact h
  have h1 : (j % 4 = 0 ∧ (j % 100 ≠ 0 ∨ j % 400 = 0)) → post 1 := fun z => by
    rw [cc_L, if_pos z] at h; exact h
  exact ⟨by decide, pk_eq (j % 4) 0 (fun a => ⟨by decide, pk_eq (j % 100) 0 (fun b => ⟨by decide, pk_eq (j % 400) 0 (fun c => h1 ⟨a, Or.inr c⟩) (fun c => h0 (by omega))⟩) (fun b => h1 ⟨a, Or.inl b⟩)⟩) (fun a => ⟨by decide, pk_eq (j % 400) 0 (fun c => absurd c (by omega)) (fun c => h0 (by omega))⟩)⟩
theorem cy_len {post : Int32 → Prop} {j q : Nat} (hj : j < 2 ^ 31) (h1 : 1 ≤ q) (h2 : q ≤ 12) (h : post (nI (cc_ln (cc_L j) q))) : wpY_length post (y, m, k, o, b) (nI j) (nI q) := by
  revert h
  refine cx_12 (P := fun q => post (nI (cc_ln (cc_L j) q)) → wpY_length post (y, m, k, o, b) (nI j) (nI q)) h1 h2 ?_ ?_ ?_ ?_ ?_ ?_ ?_ ?_ ?_ ?_ ?_ ?_
  · exact fun h => br_f (by decide) (br_f (by decide) (br_f (by decide) (br_f (by decide) (br_f (by decide) h))))
  · exact fun h => br_t (by decide) (cy_leap hj (cx_leap2 (cc_L2 j) h))
  · exact fun h => br_f (by decide) (br_f (by decide) (br_f (by decide) (br_f (by decide) (br_f (by decide) h))))
  · exact fun h => br_f (by decide) (br_t (by decide) h)
  · exact fun h => br_f (by decide) (br_f (by decide) (br_f (by decide) (br_f (by decide) (br_f (by decide) h))))
  · exact fun h => br_f (by decide) (br_f (by decide) (br_t (by decide) h))
  · exact fun h => br_f (by decide) (br_f (by decide) (br_f (by decide) (br_f (by decide) (br_f (by decide) h))))
  · exact fun h => br_f (by decide) (br_f (by decide) (br_f (by decide) (br_f (by decide) (br_f (by decide) h))))
  · exact fun h => br_f (by decide) (br_f (by decide) (br_f (by decide) (br_t (by decide) h)))
  · exact fun h => br_f (by decide) (br_f (by decide) (br_f (by decide) (br_f (by decide) (br_f (by decide) h))))
  · exact fun h => br_f (by decide) (br_f (by decide) (br_f (by decide) (br_f (by decide) (br_t (by decide) h))))
  · exact fun h => br_f (by decide) (br_f (by decide) (br_f (by decide) (br_f (by decide) (br_f (by decide) h))))
/-! split -/
theorem cy_s84 {post : SY → Prop} {d j : Nat} (hj : j < 400) (hd : d < cc_MF (12 * j + 12)) (h : post (nI (2000 + cc_mo d / 12), nI (cc_mo d % 12 + 1), nI (d - cc_MF (cc_mo d) + 1), o, b)) : ∀ n q, q ≤ 11 → 11 - q < n → cc_MF (12 * j + q) ≤ d → wY_split_84 post (nI (2000 + j)) k o b n (nI (d - cc_MF (12 * j + q))) (nI (q + 1)) := by
  have hM := cc_MF_le (n := 12 * j + 12) (by omega)
  intro n
  induction n with
  | zero => intro q _ h2; omega
  | succ n ih =>
    intro q h1 h2 hq
    have eM : cc_MF (12 * j + (q + 1)) = cc_MF (12 * j + q) + cc_ln (cc_L (2000 + j)) (q + 1) := by
      show cc_MF (12 * j + q) + cc_ln (cc_L (2000 + (12 * j + q) / 12)) ((12 * j + q) % 12 + 1) = _
      rw [show (12 * j + q) / 12 = j by omega, show (12 * j + q) % 12 = q by omega]
    have hb := cc_ln_b (cc_L2 (2000 + j)) (q + 1)
    have fin : d < cc_MF (12 * j + (q + 1)) → post (nI (2000 + j), nI (q + 1), nI (d - cc_MF (12 * j + q) + 1), o, b) := by
      intro z
      rw [cc_at_u (d := d) (n := 12 * j + q) ⟨hq, z, by omega⟩, show (12 * j + q) / 12 = j by omega, show (12 * j + q) % 12 = q by omega] at h
      exact h
    refine pk_le 12 (q + 1) (fun a => ?_) (fun a => ?_)
    · exact nm_r (nI_1 _) (fin (by rw [show q + 1 = 12 by omega]; exact hd))
    · refine cy_len (by omega) (by omega) (by omega) ?_
      refine pk_lt (d - cc_MF (12 * j + q)) (cc_ln (cc_L (2000 + j)) (q + 1)) (fun z => ?_) (fun z => ?_)
      · exact nm_r (nI_1 _) (fin (by omega))
      · refine cy_len (by omega) (by omega) (by omega) ?_
        have hi := ih (q + 1) (by omega) (by omega) (by omega)
        refine nm_r ?_ (nm_r (nI_1 (q + 1)) hi)
        rw [pk_sub z, eM, Nat.sub_add_eq]
theorem cy_s9 {post : SY → Prop} {d : Nat} (hd : d < 146097) (h : post (nI (2000 + cc_mo d / 12), nI (cc_mo d % 12 + 1), nI (d - cc_MF (cc_mo d) + 1), o, b)) : ∀ n j, j ≤ 400 → 400 - j < n → cc_Y j ≤ d → wY_split_9 post m k o b n (nI (d - cc_Y j)) (nI (2000 + j)) := by
  intro n
  induction n with
  | zero => intro j _ h2; omega
  | succ n ih =>
    intro j h1 h2 hq
    have e4 := cc_Y400
    have j4 : j < 400 := by
      rcases Nat.lt_or_ge j 400 with z | z
      · exact z
      · rw [show j = 400 by omega] at hq; omega
    have eY := cc_Y_s j
    have hl := cc_L2 (2000 + j)
    have hY := cc_Y_mono (show j + 1 ≤ 400 by omega)
    have fin : d < cc_Y j + 365 + cc_L (2000 + j) → ∃ n84, wY_split_84 post (nI (2000 + j)) k o b n84 (nI (d - cc_Y j)) 1 := by
      intro z
      have hc := cy_s84 (k := k) j4 (by rw [show 12 * j + 12 = 12 * (j + 1) by omega, cc_MFY]; omega) h 12 0 (by omega) (by omega) (by rw [show 12 * j + 0 = 12 * j from rfl, cc_MFY]; exact hq)
      rw [show 12 * j + 0 = 12 * j from rfl, cc_MFY] at hc
      exact ⟨_, hc⟩
    have go : cc_Y j + 365 + cc_L (2000 + j) ≤ d → wY_split_9 post m k o b n (nI (d - cc_Y j - (365 + cc_L (2000 + j)))) (nI (2000 + j + 1)) := by
      intro z
      have hi := ih (j + 1) (by omega) (by omega) (by omega)
      rw [show d - cc_Y j - (365 + cc_L (2000 + j)) = d - cc_Y (j + 1) by omega]
      exact hi
    refine pk_le 2400 (2000 + j) (fun a => absurd a (by omega)) (fun a => ?_)
    refine cy_leap (by omega) ?_
    have el : cc_L (2000 + j) = 0 ∨ cc_L (2000 + j) = 1 := by omega
    rcases el with el | el
    · refine br_t (by rw [el]; rfl) ?_
      refine pk_lt (d - cc_Y j) 365 (fun z => fin (by omega)) (fun z => ?_)
      refine cy_leap (by omega) (br_t (by rw [el]; rfl) ?_)
      refine nm_r ?_ (nm_r (nI_1 _) (go (by omega)))
      rw [show (365 : Int32) = nI 365 from rfl, pk_sub z, el]
    · refine br_f (by rw [el]; decide) ?_
      refine pk_lt (d - cc_Y j) 366 (fun z => fin (by omega)) (fun z => ?_)
      refine cy_leap (by omega) (br_f (by rw [el]; decide) ?_)
      refine nm_r ?_ (nm_r (nI_1 _) (go (by omega)))
      rw [show (366 : Int32) = nI 366 from rfl, pk_sub z, el]
theorem cy_split {post : SY → Prop} {d : Nat} (hd : d < 146097) (h : post (nI (2000 + cc_mo d / 12), nI (cc_mo d % 12 + 1), nI (d - cc_MF (cc_mo d) + 1), o, b)) : wpY_split post (y, m, k, o, b) (nI d) := by
  have hc := cy_s9 (m := m) (k := k) hd h 401 0 (by omega) (by omega) (Nat.zero_le _)
  exact ⟨_, hc⟩
/-! join -/
theorem cy_j56 {post : Int32 → Prop} {j q c : Nat} (hj : j < 400) (hq : q ≤ 11) (hc : c ≤ 100) (h : post (nI (cc_MF (12 * j + q) + c))) : ∀ n i, i ≤ q → q - i < n → wY_join_56 post (nI (2000 + j)) (nI (q + 1)) y m k o b n (nI (cc_MF (12 * j + i) + c)) (nI (i + 1)) := by
  intro n
  induction n with
  | zero => intro i _ h2; omega
  | succ n ih =>
    intro i h1 h2
    refine pk_le (q + 1) (i + 1) (fun a => ?_) (fun a => ?_)
    · rw [show i = q by omega]
      exact h
    · refine pk_le 12 (i + 1) (fun a => absurd a (by omega)) (fun a2 => ?_)
      refine cy_len (by omega) (by omega) (by omega) ?_
      have hi := ih (i + 1) (by omega) (by omega)
      refine nm_r ?_ (nm_r (nI_1 (i + 1)) hi)
      rw [nI_add]
      refine congrArg nI ?_
      show _ = cc_MF (12 * j + i) + cc_ln (cc_L (2000 + (12 * j + i) / 12)) ((12 * j + i) % 12 + 1) + c
      rw [show (12 * j + i) / 12 = j by omega, show (12 * j + i) % 12 = i by omega]
      omega
theorem cy_j10 {post : Int32 → Prop} {j q c : Nat} (hj : j < 400) (hq : q ≤ 11) (hc : c ≤ 100) (h : post (nI (cc_MF (12 * j + q) + c))) : ∀ n i, i ≤ j → j - i < n → wY_join_10 post (nI (2000 + j)) (nI (q + 1)) y m k o b n (nI (cc_Y i + c)) (nI (2000 + i)) := by
  intro n
  induction n with
  | zero => intro i _ h2; omega
  | succ n ih =>
    intro i h1 h2
    refine pk_le (2000 + j) (2000 + i) (fun a => ?_) (fun a => ?_)
    · have e : i = j := by omega
      subst e
      have hx := cy_j56 (y := y) (m := m) (k := k) (o := o) (b := b) hj hq hc h 12 0 (by omega) (by omega)
      rw [show 12 * i + 0 = 12 * i from rfl, cc_MFY] at hx
      exact ⟨_, hx⟩
    · refine pk_le 2400 (2000 + i) (fun a => absurd a (by omega)) (fun a2 => ?_)
      refine cy_leap (by omega) ?_
      have hi := ih (i + 1) (by omega) (by omega)
      have hl := cc_L2 (2000 + i)
      rw [cc_Y_s] at hi
      have el : cc_L (2000 + i) = 0 ∨ cc_L (2000 + i) = 1 := by omega
      rcases el with el | el
      · refine br_t (by rw [el]; rfl) (nm_r ?_ (nm_r (nI_1 _) hi))
        rw [show (365 : Int32) = nI 365 from rfl, nI_add, el]
        exact congrArg nI (by omega)
      · refine br_f (by rw [el]; decide) (nm_r ?_ (nm_r (nI_1 _) hi))
        rw [show (366 : Int32) = nI 366 from rfl, nI_add, el]
        exact congrArg nI (by omega)
theorem cy_join {post : Int32 → Prop} {j q c : Nat} (hj : j < 400) (hq : q ≤ 11) (hc : c ≤ 100) (h : post (nI (cc_MF (12 * j + q) + c))) : wpY_join post (y, m, k, o, b) (nI (2000 + j)) (nI (q + 1)) (nI (c + 1)) := by
  have hx := cy_j10 (y := y) (m := m) (k := k) (o := o) (b := b) hj hq hc h 401 0 (by omega) (by omega)
  rw [show cc_Y 0 + c = c from Nat.zero_add c] at hx
  exact nm_r (nI_pred c) ⟨_, hx⟩
/-! move -/
def cy_St (d : Nat) (y m k : Int32) : Prop := ∃ n, cc_MF n ≤ d ∧ d < cc_MF (n + 1) ∧ n ≤ 4800 ∧ y = nI (2000 + n / 12) ∧ m = nI (n % 12 + 1) ∧ k = nI (d - cc_MF n + 1)
theorem cy_stOf {d : Nat} (hd : d < 146097) : cy_St d (nI (2000 + cc_mo d / 12)) (nI (cc_mo d % 12 + 1)) (nI (d - cc_MF (cc_mo d) + 1)) := by
  have h := cc_at hd
  exact ⟨cc_mo d, h.1, h.2.1, by have := h.2.2; omega, rfl, rfl, rfl⟩
theorem cy_up {post : SY → Prop} {d : Nat} (hd : d < 146097) (hs : cy_St d y m k) (h : ∀ y' m' k', cy_St (d + 1) y' m' k' → post (y', m', k', o, b)) : wpY_move post (y, m, k, o, b) 1 := by
  obtain ⟨n, h1, h2, h3, rfl, rfl, rfl⟩ := hs
  have hn : n < 4800 := by
    rcases Nat.lt_or_ge n 4800 with z | z
    · exact z
    · have := cc_MF_mono z; rw [cc_end] at this; omega
  have eM : cc_MF (n + 1) = cc_MF n + cc_ln (cc_L (2000 + n / 12)) (n % 12 + 1) := rfl
  have hb := cc_ln_b (cc_L2 (2000 + n / 12)) (n % 12 + 1)
  have hb2 := (cc_MF_s (n + 1)).1
  unfold wpY_move
  dsimp only
  refine nm_r (nI_1 _) ?_
  refine pk_lt (d - cc_MF n + 1 + 1) 1 (fun z => absurd z (by omega)) (fun _ => ?_)
  refine cy_len (by omega) (by omega) (by omega) ?_
  refine pk_lt (cc_ln (cc_L (2000 + n / 12)) (n % 12 + 1)) (d - cc_MF n + 1 + 1) (fun z => ?_) (fun z => ?_)
  · unfold wY_move_38 wY_move_65 wY_move_90 wY_move_93
    have hk : (1 : Int32) = nI (d + 1 - cc_MF (n + 1) + 1) := by
      rw [show d + 1 - cc_MF (n + 1) + 1 = 1 by omega]
      rfl
    refine nm_r (nI_1 _) ?_
    refine pk_lt 12 (n % 12 + 1 + 1) (fun q => ?_) (fun q => ?_)
    · refine nm_r (nI_1 _) ?_
      refine pk_le 1 (n % 12 + 1 + 1) (fun _ => ?_) (fun q2 => absurd q2 (by omega))
      refine br_f (by decide) ?_
      refine h _ _ _ ⟨n + 1, by omega, by omega, by omega, ?_, ?_, hk⟩
      · exact congrArg nI (by omega)
      · rw [show (n + 1) % 12 + 1 = 1 by omega]
        rfl
    · refine pk_le 1 (n % 12 + 1 + 1) (fun _ => ?_) (fun q2 => absurd q2 (by omega))
      refine br_f (by decide) ?_
      refine h _ _ _ ⟨n + 1, by omega, by omega, by omega, ?_, ?_, hk⟩
      · exact congrArg nI (by omega)
      · exact congrArg nI (by omega)
  · exact h _ _ _ ⟨n, by omega, by omega, by omega, rfl, rfl, congrArg nI (by omega)⟩
theorem cy_dn {post : SY → Prop} {d : Nat} (hd : d + 1 < 146097) (hs : cy_St (d + 1) y m k) (h : ∀ y' m' k', cy_St d y' m' k' → post (y', m', k', o, b)) : wpY_move post (y, m, k, o, b) (-1) := by
  obtain ⟨n, h1, h2, h3, rfl, rfl, rfl⟩ := hs
  have hn : n < 4800 := by
    rcases Nat.lt_or_ge n 4800 with z | z
    · exact z
    · have := cc_MF_mono z; rw [cc_end] at this; omega
  have eM : cc_MF (n + 1) = cc_MF n + cc_ln (cc_L (2000 + n / 12)) (n % 12 + 1) := rfl
  have hb := cc_ln_b (cc_L2 (2000 + n / 12)) (n % 12 + 1)
  have e0 : cc_MF 0 = 0 := rfl
  unfold wpY_move
  dsimp only
  refine nm_r (pk_m1 _) ?_
  refine pk_lt (d + 1 - cc_MF n) 1 (fun z => ?_) (fun z => ?_)
  · have hp : 0 < n := by
      rcases Nat.eq_zero_or_pos n with q | q
      · rw [q, e0] at z; omega
      · exact q
    obtain ⟨p, rfl⟩ : ∃ p, n = p + 1 := ⟨n - 1, by omega⟩
    have eP : cc_MF (p + 1) = cc_MF p + cc_ln (cc_L (2000 + p / 12)) (p % 12 + 1) := rfl
    have hp2 := cc_ln_b (cc_L2 (2000 + p / 12)) (p % 12 + 1)
    have st : post (nI (2000 + p / 12), nI (p % 12 + 1), nI (cc_ln (cc_L (2000 + p / 12)) (p % 12 + 1)), o, b) := h _ _ _ ⟨p, by omega, by omega, by omega, rfl, rfl, congrArg nI (by omega)⟩
    unfold wY_move_38 wY_move_65 wY_move_90 wY_move_93
    refine nm_r (pk_m1 _) ?_
    refine pk_lt 12 ((p + 1) % 12) (fun q => absurd q (by omega)) (fun _ => ?_)
    refine pk_le 1 ((p + 1) % 12) (fun q => ?_) (fun q => ?_)
    · refine br_t (by decide) ?_
      rw [show (p + 1) / 12 = p / 12 by omega, show (p + 1) % 12 = p % 12 + 1 by omega]
      exact cy_len (by omega) (by omega) (by omega) st
    · refine nm_r (e' := nI (2000 + p / 12)) ?_ ?_
      · rw [show 2000 + (p + 1) / 12 = 2000 + p / 12 + 1 by omega, pk_m1]
      · refine pk_le 1 ((p + 1) % 12) (fun q2 => absurd q2 (by omega)) (fun _ => ?_)
        refine br_t (by decide) ?_
        rw [show p % 12 + 1 = 12 by omega] at st
        exact cy_len (q := 12) (by omega) (by omega) (by omega) st
  · refine cy_len (by omega) (by omega) (by omega) ?_
    refine pk_lt (cc_ln (cc_L (2000 + n / 12)) (n % 12 + 1)) (d + 1 - cc_MF n) (fun q => absurd q (by omega)) (fun q => ?_)
    exact h _ _ _ ⟨n, by omega, by omega, by omega, rfl, rfl, congrArg nI (by omega)⟩
theorem cy_dn0 {post : SY → Prop} (hs : cy_St 0 y m k) (h : ∀ y' m' k', post (y', m', k', o, b)) : wpY_move post (y, m, k, o, b) (-1) := by
  obtain ⟨n, h1, h2, h3, rfl, rfl, rfl⟩ := hs
  have hn : n = 0 := by
    have e0 : cc_MF 0 = 0 := rfl
    rcases Nat.eq_zero_or_pos n with q | q
    · exact q
    · have h5 := cc_MF_mono (show 0 + 1 ≤ n by omega); have h6 := (cc_MF_s 0).1; omega
  subst hn
  unfold wpY_move
  dsimp only
  refine nm_r (pk_m1 _) ?_
  refine pk_lt (0 - cc_MF 0) 1 (fun z => ?_) (fun z => absurd z (by omega))
  unfold wY_move_38 wY_move_65 wY_move_90 wY_move_93
  refine nm_r (e' := nI 0) (by decide) ?_
  refine br_f (by decide) (br_f (by decide) ?_)
  refine nm_r (e' := nI 1999) (by decide) ?_
  refine br_f (by decide) (br_t (by decide) ?_)
  exact cy_len (q := 12) (by omega) (by omega) (by omega) (h _ _ _)
end
end
section
/-! the relation, and what fits, on both sides -/
def cr_P (b : Int32) (w : Int64) (o : Nat → Int32) (f : Nat) : Prop :=
  (b = 0 ∨ b = 1) ∧ (∀ v, v < 64 → cb_b w v = true → cc_lo f ≤ v ∧ v ≤ cc_hi f) ∧ (b = 1 → ∀ v, cc_lo f ≤ v → v ≤ cc_hi f → cb_b w v = true) ∧ (b = 0 → ∀ v, v < 64 → (o v = 0 ↔ cb_b w v = false)) ∧ (∃ v, v < 64 ∧ cb_b w v = true)
def cr_R (w : Nat → Int64) (b o : Nat → Int32) : Prop := ∀ p, p < 20 → cr_P (b p) (w p) (fun v => o (64 * p + v)) (p % 5)
theorem cr_at {w : Nat → Int64} {b o : Nat → Int32} (h : cr_R w b o) {r f : Nat} (hr : r < 4) (hf : f < 5) : cr_P (b (5 * r + f)) (w (5 * r + f)) (fun v => o (64 * (5 * r + f) + v)) f := by
  have h1 := h (5 * r + f) (by omega)
  rw [show (5 * r + f) % 5 = f by omega] at h1
  exact h1
def cd_dm (w : Nat → Int64) (b : Nat → Int32) (r k d : Nat) : Bool := if b (5 * r + 2) = 0 ∧ b (5 * r + 4) = 0 then (cb_b (w (5 * r + 2)) k || cb_b (w (5 * r + 4)) ((d + 6) % 7)) else (cb_b (w (5 * r + 2)) k && cb_b (w (5 * r + 4)) ((d + 6) % 7))
def cd_mf (w : Nat → Int64) (r n : Nat) : Bool := cb_b (w (5 * r + 3)) (n % 12 + 1)
def cd_df (w : Nat → Int64) (b : Nat → Int32) (r d : Nat) : Bool := cd_mf w r (cc_mo d) && cd_dm w b r (d - cc_MF (cc_mo d) + 1) d
def cd_tf (w : Nat → Int64) (r t : Nat) : Bool := cb_b (w (5 * r + 1)) (t / 60) && cb_b (w (5 * r + 0)) (t % 60)
theorem cd_and {post : Int32 → Prop} {p q : Bool} (h : post (cb_i (p && q))) : (cb_i p = 0 → post 0) ∧ (¬ cb_i p = 0 → (cb_i q = 0 → post 0) ∧ (¬ cb_i q = 0 → post 1)) := by
  cases p
  · exact br_t rfl h
  · cases q
    · exact br_f (by decide) (br_t rfl h)
    · exact br_f (by decide) (br_f (by decide) h)
theorem cd_or {post : Int32 → Prop} {p q : Bool} (h : post (cb_i (p || q))) : (cb_i p = 0 → (cb_i q = 0 → post 0) ∧ (¬ cb_i q = 0 → post 1)) ∧ (¬ cb_i p = 0 → post 1) := by
  cases p
  · cases q
    · exact br_t rfl (br_t rfl h)
    · exact br_t rfl (br_f (by decide) h)
  · exact br_f (by decide) h
theorem cd_and2 {post : Int32 → Prop} {W : (Int32 → Prop) → Prop} {p q : Bool} (h : post (cb_i (p && q))) (hq : ∀ P : Int32 → Prop, P (cb_i q) → W P) (ht : p = true → True) : (cb_i p = 0 → post 0) ∧ (¬ cb_i p = 0 → W (fun r => (r = 0 → post 0) ∧ (¬ r = 0 → post 1))) := by
  cases p
  · exact br_t rfl h
  · refine br_f (by decide) (hq _ ?_)
    cases q
    · exact br_t rfl h
    · exact br_f (by decide) h
theorem cd_60 {t : Nat} (ht : t < 1440) : nI t / 60 = nI (t / 60) := by rw [show (60 : Int32) = nI 60 from rfl, pk_div (by omega) (by decide) (by decide)]
theorem cd_m60 {t : Nat} (ht : t < 1440) : nI t - nI t / 60 * 60 = nI (t % 60) := by rw [show (60 : Int32) = nI 60 from rfl, pk_rem (by omega) (by decide) (by decide)]
section
variable {w : Nat → Int64} {b : Nat → Int32} {r : Nat}
theorem cx_tf {post : Int32 → Prop} {t : Nat} (hr : r < 4) (ht : t < 1440) (h : post (cb_i (cd_tf w r t))) : wpX_timeFits post (w, b) (nI r) (nI t) := by
  unfold wpX_timeFits
  dsimp only
  rw [cd_m60 ht, cd_60 ht]
  refine ⟨by decide, cx_has (f := 1) hr (by decide) (by omega) ?_⟩
  unfold cd_tf at h
  cases hp : cb_b (w (5 * r + 1)) (t / 60)
  · rw [hp] at h
    exact br_t rfl h
  · rw [hp] at h
    refine br_f (by decide) ⟨by decide, cx_has (f := 0) hr (by decide) (by omega) ?_⟩
    cases hq : cb_b (w (5 * r + 0)) (t % 60)
    · rw [hq] at h
      exact br_t rfl h
    · rw [hq] at h
      exact br_f (by decide) h
theorem cx_mfit {post : Int32 → Prop} {n : Nat} (hr : r < 4) (hn : n < 4800) (h : post (cb_i (cd_mf w r n))) : wpX_monthFits post (w, b) (nI r) (nI n) := by
  unfold wpX_monthFits
  dsimp only
  refine cx_moy (by omega) (cx_has (f := 3) hr (by decide) (by omega) ⟨?_, h⟩)
  cases cb_b (w (5 * r + 3)) (n % 12 + 1) <;> rfl
theorem cx_dom {post : Int32 → Prop} {q d : Nat} (hr : r < 4) (hd : d < 146097) (hq : q < 64) (hb2 : b (5 * r + 2) = 0 ∨ b (5 * r + 2) = 1) (hb4 : b (5 * r + 4) = 0 ∨ b (5 * r + 4) = 1) (h : post (cb_i (cd_dm w b r q d))) : wpX_dayOfMonthFits post (w, b) (nI r) (nI q) (nI d) := by
  unfold wpX_dayOfMonthFits wX_dayOfMonthFits_43
  dsimp only
  refine cx_wd hd (cx_has (f := 2) hr (by decide) hq (cx_has (f := 4) hr (by decide) (by omega) (cx_isFull (f := 2) hr (by decide) hb2 ?_)))
  unfold cd_dm at h
  rcases hb2 with e2 | e2
  · rw [e2]
    refine br_t rfl (cx_isFull (f := 4) hr (by decide) hb4 ?_)
    rcases hb4 with e4 | e4
    · rw [e4]
      rw [if_pos ⟨e2, e4⟩] at h
      exact br_t rfl (cd_or h)
    · rw [e4]
      rw [if_neg (by rw [e4]; exact fun z => absurd z.2 (by decide))] at h
      exact br_f (by decide) (cd_and h)
  · rw [e2]
    rw [if_neg (by rw [e2]; exact fun z => absurd z.1 (by decide))] at h
    exact br_f (by decide) (cd_and h)
theorem cx_df {post : Int32 → Prop} {d : Nat} (hr : r < 4) (hd : d < 146097) (hb2 : b (5 * r + 2) = 0 ∨ b (5 * r + 2) = 1) (hb4 : b (5 * r + 4) = 0 ∨ b (5 * r + 4) = 1) (h : post (cb_i (cd_df w b r d))) : wpX_dayFits post (w, b) (nI r) (nI d) := by
  obtain ⟨a1, a2, a3⟩ := cc_at hd
  have hs := (cc_MF_s (cc_mo d)).2
  unfold wpX_dayFits
  dsimp only
  refine cx_mno hd (cx_first (by omega) (nm_r (e' := nI (d - cc_MF (cc_mo d) + 1)) (by rw [pk_sub a1, nI_1]) (cx_mfit hr a3 ?_)))
  unfold cd_df at h
  cases hp : cd_mf w r (cc_mo d)
  · rw [hp] at h
    exact br_t rfl h
  · rw [hp] at h
    refine br_f (by decide) (cx_dom hr hd (by omega) hb2 hb4 ?_)
    cases hq : cd_dm w b r (d - cc_MF (cc_mo d) + 1) d
    · rw [hq] at h
      exact br_t rfl h
    · rw [hq] at h
      exact br_f (by decide) h
end
section
variable {y m k : Int32} {o b : Nat → Int32} {w : Nat → Int64} {r : Nat}
theorem cy_may {post : Int32 → Prop} {f v : Nat} (hR : cr_R w b o) (hr : r < 4) (hf : f < 5) (h1 : cc_lo f ≤ v) (h2 : v ≤ cc_hi f) (h : post (cb_i (cb_b (w (5 * r + f)) v))) : wpY_may post (y, m, k, o, b) (nI r) (nI f) (nI v) := by
  have hh := cc_hi_b f
  obtain ⟨p1, p2, p3, p4, p5⟩ := cr_at hR hr hf
  have e1 : nI r * 5 + nI f = nI (5 * r + f) := by rw [show (5 : Int32) = nI 5 from rfl, pk_mul, nI_add, Nat.mul_comm]
  have e2 : nI (5 * r + f) * 64 + nI v = nI (64 * (5 * r + f) + v) := by rw [show (64 : Int32) = nI 64 from rfl, pk_mul, nI_add, Nat.mul_comm]
  unfold wpY_may
  dsimp only
  rw [e1, e2, nI_clamp (by omega), nI_clamp (by omega)]
  refine ⟨vp_in_nI (by omega) (by decide), ?_⟩
  rcases p1 with q | q
  · refine br_t q ⟨vp_in_nI (by omega) (by decide), ?_⟩
    have hi := p4 q v (by omega)
    cases hb : cb_b (w (5 * r + f)) v
    · rw [hb] at h
      exact br_t (hi.mpr hb) h
    · rw [hb] at h
      exact br_f (fun z => by rw [hi.mp z] at hb; exact absurd hb (by decide)) h
  · rw [p3 q v h1 h2] at h
    exact br_f (by rw [q]; decide) h
theorem cy_tf {post : Int32 → Prop} {t : Nat} (hR : cr_R w b o) (hr : r < 4) (ht : t < 1440) (h : post (cb_i (cd_tf w r t))) : wpY_timeFits post (y, m, k, o, b) (nI r) (nI t) := by
  unfold wpY_timeFits
  dsimp only
  rw [cd_m60 ht, cd_60 ht]
  refine ⟨by decide, cy_may (f := 1) hR hr (by decide) (Nat.zero_le _) (by show t / 60 ≤ 23; omega) ?_⟩
  unfold cd_tf at h
  cases hp : cb_b (w (5 * r + 1)) (t / 60)
  · rw [hp] at h
    exact br_t rfl h
  · rw [hp] at h
    refine br_f (by decide) ⟨by decide, cy_may (f := 0) hR hr (by decide) (Nat.zero_le _) (by show t % 60 ≤ 59; omega) ?_⟩
    cases hq : cb_b (w (5 * r + 0)) (t % 60)
    · rw [hq] at h
      exact br_t rfl h
    · rw [hq] at h
      exact br_f (by decide) h
theorem cy_dfit {post : Int32 → Prop} {n q d : Nat} (hR : cr_R w b o) (hr : r < 4) (hq : q < 31) (h : post (cb_i (cd_mf w r n && cd_dm w b r (q + 1) d))) : wpY_dayFits post (y, m, k, o, b) (nI r) (nI (n % 12 + 1)) (nI (q + 1)) (nI ((d + 6) % 7)) := by
  have e2 : nI r * 5 + 2 = nI (5 * r + 2) := by rw [show (5 : Int32) = nI 5 from rfl, show (2 : Int32) = nI 2 from rfl, pk_mul, nI_add, Nat.mul_comm]
  have e4 : nI r * 5 + 4 = nI (5 * r + 4) := by rw [show (5 : Int32) = nI 5 from rfl, show (4 : Int32) = nI 4 from rfl, pk_mul, nI_add, Nat.mul_comm]
  have b2 := (cr_at hR hr (show 2 < 5 by decide)).1
  have b4 := (cr_at hR hr (show 4 < 5 by decide)).1
  unfold wpY_dayFits wY_dayFits_57
  dsimp only
  rw [e2, e4, nI_clamp (by omega), nI_clamp (by omega)]
  refine cy_may (f := 3) hR hr (by decide) (by show 1 ≤ n % 12 + 1; omega) (by show n % 12 + 1 ≤ 12; omega) ?_
  cases hp : cd_mf w r n
  · rw [hp] at h
    have hp' : cb_b (w (5 * r + 3)) (n % 12 + 1) = false := hp
    rw [hp']
    exact br_t rfl h
  · rw [hp] at h
    have hp' : cb_b (w (5 * r + 3)) (n % 12 + 1) = true := hp
    rw [hp']
    refine br_f (by decide) (cy_may (f := 2) hR hr (by decide) (by show 1 ≤ q + 1; omega) (by show q + 1 ≤ 31; omega) (cy_may (f := 4) hR hr (by decide) (Nat.zero_le _) (by show (d + 6) % 7 ≤ 6; omega) ?_))
    refine ⟨vp_in_nI (by omega) (by decide), ?_⟩
    rw [Bool.true_and] at h
    unfold cd_dm at h
    rcases b2 with q2 | q2
    · refine br_t q2 ⟨vp_in_nI (by omega) (by decide), ?_⟩
      rcases b4 with q4 | q4
      · rw [if_pos ⟨q2, q4⟩] at h
        exact br_t q4 (cd_or h)
      · rw [if_neg (by rw [q4]; exact fun z => absurd z.2 (by decide))] at h
        exact br_f (by rw [q4]; decide) (cd_and h)
    · rw [if_neg (by rw [q2]; exact fun z => absurd z.1 (by decide))] at h
      exact br_f (by rw [q2]; decide) (cd_and h)
theorem cy_df {post : Int32 → Prop} {d : Nat} (hR : cr_R w b o) (hr : r < 4) (hd : d < 146097) (hs : cy_St d y m k) (h : post (cb_i (cd_df w b r d))) : ¬ (7 : Int32) = 0 ∧ wpY_dayFits post (y, m, k, o, b) (nI r) m k (nI d + 6 - (nI d + 6) / 7 * 7) := by
  obtain ⟨n, h1, h2, h3, rfl, rfl, rfl⟩ := hs
  have hn : n < 4800 := by
    rcases Nat.lt_or_ge n 4800 with z | z
    · exact z
    · have := cc_MF_mono z; rw [cc_end] at this; omega
  have hM := cc_at_u (d := d) (n := n) ⟨h1, h2, hn⟩
  have hb := (cc_MF_s n).2
  have e : (nI d + 6) - (nI d + 6) / 7 * 7 = nI ((d + 6) % 7) := by
    rw [show (6 : Int32) = nI 6 from rfl, show (7 : Int32) = nI 7 from rfl, nI_add, pk_rem (by omega) (by decide) (by decide)]
  rw [e]
  unfold cd_df at h
  rw [hM] at h
  exact ⟨by decide, cy_dfit hR hr (by omega) h⟩
end
end
section
/-! the relation of whole, and the methods on dates -/
def i_Rel (k : Nat) (u : SX) (v : SY) : Prop := u.2 = v.2.2.2.2 ∧ cr_R u.1 u.2 v.2.2.2.1
theorem i_up {k : Nat} {u : SX} {v : SY} (h : i_Rel k u v) : i_Rel (k + 4) u v := h
def cq_good (n : Nat) : Prop := 2000 ≤ n / 10000 ∧ n / 10000 ≤ 2399 ∧ 1 ≤ n / 100 % 100 ∧ n / 100 % 100 ≤ 12 ∧ 1 ≤ n % 100 ∧ n % 100 ≤ cc_ln (cc_L (n / 10000)) (n / 100 % 100)
def cq_val (n : Nat) : Nat := cc_MF (12 * (n / 10000 - 2000) + (n / 100 % 100 - 1)) + (n % 100 - 1)
theorem cq_e1 {n : Nat} (hn : n < 2 ^ 31) : nI n / 10000 = nI (n / 10000) := by rw [show (10000 : Int32) = nI 10000 from rfl, pk_div hn (by decide) (by decide)]
theorem cq_e2 {n : Nat} (hn : n < 2 ^ 31) : nI n / 100 - nI n / 100 / 100 * 100 = nI (n / 100 % 100) := by rw [show (100 : Int32) = nI 100 from rfl, pk_div hn (by decide) (by decide), pk_rem (by omega) (by decide) (by decide)]
theorem cq_e3 {n : Nat} (hn : n < 2 ^ 31) : nI n - nI n / 100 * 100 = nI (n % 100) := by rw [show (100 : Int32) = nI 100 from rfl, pk_rem hn (by decide) (by decide)]
theorem cx_dayN {post : Int32 → Prop} {w : Nat → Int64} {b : Nat → Int32} {n : Nat} (hn : n < 2 ^ 31) (h1 : cq_good n → post (nI (cq_val n))) (h0 : ¬ cq_good n → post (-1)) : wpX_day post (w, b) (nI n) := by
  unfold wpX_day
  dsimp only
  refine ⟨by decide, nm_r (cq_e1 hn) ⟨by decide, by decide, nm_r (cq_e2 hn) ⟨by decide, nm_r (cq_e3 hn) ?_⟩⟩⟩
  refine cx_year (fun c => br_f (by decide) ?_) (fun c => br_t rfl (h0 (fun g => c ⟨n / 10000 - 2000, by have := g.1; have := g.2.1; omega, congrArg nI (by have := g.1; omega)⟩)))
  obtain ⟨j, hj, e⟩ := c
  have ej : n / 10000 = 2000 + j := (nI_eq (by omega) (by omega)).mp e
  refine cx_isv (f := 3) (by decide) (fun c => br_f (by decide) ?_) (fun c => br_t rfl (h0 (fun g => c ⟨n / 100 % 100, g.2.2.1, g.2.2.2.1, rfl⟩)))
  obtain ⟨q, q1, q2, e2⟩ := c
  have q1' : 1 ≤ q := q1
  have q2' : q ≤ 12 := q2
  have eq : n / 100 % 100 = q := (nI_eq (by omega) (by omega)).mp e2
  refine pk_lt (n % 100) 1 (fun z => h0 (fun g => by have := g.2.2.2.2.1; omega)) (fun z => ?_)
  refine cx_len (by omega) (by omega) (by omega) ?_
  have hb := cc_ln_b (cc_L2 (n / 10000)) (n / 100 % 100)
  refine pk_le (n % 100) (cc_ln (cc_L (n / 10000)) (n / 100 % 100)) (fun z2 => ?_) (fun z2 => h0 (fun g => by have := g.2.2.2.2.2; omega))
  have hp := h1 ⟨by omega, by omega, by omega, by omega, by omega, z2⟩
  rw [ej]
  refine cx_mnum (by omega) (by omega) (cx_first (by omega) ?_)
  rw [show (1 : Int32) = nI 1 from rfl, nI_add, pk_sub (by omega)]
  have ev : cq_val n = cc_MF (12 * j + n / 100 % 100 - 1) + n % 100 - 1 := by
    unfold cq_val
    rw [ej, show 12 * (2000 + j - 2000) + (n / 100 % 100 - 1) = 12 * j + n / 100 % 100 - 1 by omega]
    omega
  rw [ev] at hp
  exact hp
theorem cy_dayN {post : Int32 → Prop} {y m k : Int32} {o b : Nat → Int32} {n : Nat} (hn : n < 2 ^ 31) (h1 : cq_good n → post (nI (cq_val n))) (h0 : ¬ cq_good n → post (-1)) : wpY_day post (y, m, k, o, b) (nI n) := by
  unfold wpY_day
  dsimp only
  refine ⟨by decide, nm_r (cq_e1 hn) ⟨by decide, by decide, nm_r (cq_e2 hn) ⟨by decide, nm_r (cq_e3 hn) ?_⟩⟩⟩
  refine br_f (nI_pos hn) ?_
  refine pk_lt (n / 10000) 2000 (fun z => h0 (fun g => by have := g.1; omega)) (fun z1 => ?_)
  refine pk_lt 2399 (n / 10000) (fun z => h0 (fun g => by have := g.2.1; omega)) (fun z2 => ?_)
  refine pk_lt (n / 100 % 100) 1 (fun z => h0 (fun g => by have := g.2.2.1; omega)) (fun z3 => ?_)
  refine pk_le (n / 100 % 100) 12 (fun z4 => ?_) (fun z => h0 (fun g => by have := g.2.2.2.1; omega))
  refine pk_lt (n % 100) 1 (fun z => h0 (fun g => by have := g.2.2.2.2.1; omega)) (fun z5 => ?_)
  refine cy_len (by omega) (by omega) (by omega) ?_
  have hb := cc_ln_b (cc_L2 (n / 10000)) (n / 100 % 100)
  refine pk_le (n % 100) (cc_ln (cc_L (n / 10000)) (n / 100 % 100)) (fun z6 => ?_) (fun z => h0 (fun g => by have := g.2.2.2.2.2; omega))
  have hp := h1 ⟨z1, z2, z3, z4, z5, z6⟩
  have hj := cy_join (post := post) (y := y) (m := m) (k := k) (o := o) (b := b) (j := n / 10000 - 2000) (q := n / 100 % 100 - 1) (c := n % 100 - 1) (by omega) (by omega) (by omega) hp
  rw [show 2000 + (n / 10000 - 2000) = n / 10000 by omega, show n / 100 % 100 - 1 + 1 = n / 100 % 100 by omega, show n % 100 - 1 + 1 = n % 100 by omega] at hj
  exact hj
theorem cx_dayM {post : Int32 → Prop} {w : Nat → Int64} {b : Nat → Int32} {x : Int32} (hx : x < 0) (h : post (-1)) : wpX_day post (w, b) x := by
  have hd : (x / 10000).toInt ≤ 0 := ci_div0 10000 hx (by decide) (by decide)
  unfold wpX_day
  dsimp only
  refine ⟨by decide, nm_e ⟨by decide, by decide, nm_e ⟨by decide, nm_e ?_⟩⟩⟩
  refine cx_year (fun c => ?_) (fun c => br_t rfl h)
  obtain ⟨j, hj, e⟩ := c
  rw [e, nI_toInt (by omega)] at hd
  omega
theorem i_vc_day {k : Nat} {u : SX} {v : SY} (I : i_Rel k u v) (hk : k + 4 ≤ 2048) (v1 : Int32) : wpX_day (fun r => wpY_day (fun r' => r' = r ∧ i_Rel (k + 4) u v) v v1) u v1 := by
  obtain ⟨w, b⟩ := u
  obtain ⟨y, m, q, o, b'⟩ := v
  by_cases z : v1 < 0
  · refine cx_dayM z ?_
    unfold wpY_day
    dsimp only
    exact ⟨by decide, nm_e ⟨by decide, by decide, nm_e ⟨by decide, nm_e (br_t z ⟨rfl, I⟩)⟩⟩⟩
  · obtain ⟨n, hn, rfl⟩ := nI_of z
    exact cx_dayN hn (fun g => cy_dayN hn (fun _ => ⟨rfl, I⟩) (fun c => absurd g c)) (fun c => cy_dayN hn (fun g => absurd g c) (fun _ => ⟨rfl, I⟩))
theorem i_vc_date {k : Nat} {u : SX} {v : SY} (I : i_Rel k u v) (hk : k + 4 ≤ 2048) (v1 : Int32) : wpX_date (fun r => wpY_date (fun r' v' => r' = r ∧ i_Rel (k + 4) u v') v v1) u v1 := by
  obtain ⟨w, b⟩ := u
  obtain ⟨y, m, q, o, b'⟩ := v
  unfold wpX_date wpY_date
  dsimp only
  refine cx_day (fun c => br_f (by decide) ?_) (fun c => br_t rfl (cy_day (fun g => absurd g c) (fun _ => br_f (by decide) ⟨rfl, I⟩)))
  obtain ⟨d, hd, rfl⟩ := c
  have ha := cc_at hd
  refine cx_mno hd (cx_first (by have := ha.2.2; omega) (nm_r (e' := nI (d - cc_MF (cc_mo d) + 1)) (by rw [pk_sub ha.1, nI_1]) (cx_yom (by have := ha.2.2; omega) (cx_moy (by have := ha.2.2; omega) ?_))))
  exact cy_day (fun _ => br_t rfl (cy_split hd ⟨rfl, I⟩)) (fun c => absurd ⟨d, hd, rfl⟩ c)
theorem i_vc_weekday {k : Nat} {u : SX} {v : SY} (I : i_Rel k u v) (hk : k + 4 ≤ 2048) (v1 : Int32) : wpX_weekday (fun r => wpY_weekday (fun r' => r' = r ∧ i_Rel (k + 4) u v) v v1) u v1 := by
  obtain ⟨w, b⟩ := u
  obtain ⟨y, m, q, o, b'⟩ := v
  unfold wpX_weekday wpY_weekday
  dsimp only
  refine cx_day (fun c => br_f (by decide) ?_) (fun c => br_t rfl (cy_day (fun g => absurd g c) (fun _ => br_f (by decide) ⟨rfl, I⟩)))
  obtain ⟨d, hd, rfl⟩ := c
  refine ⟨by decide, ?_⟩
  exact cy_day (fun _ => br_t rfl ⟨by decide, rfl, I⟩) (fun c => absurd ⟨d, hd, rfl⟩ c)
theorem i_vc_monthDays {k : Nat} {u : SX} {v : SY} (I : i_Rel k u v) (hk : k + 4 ≤ 2048) (v1 : Int32) (v2 : Int32) : wpX_monthDays (fun r => wpY_monthDays (fun r' => r' = r ∧ i_Rel (k + 4) u v) v v1 v2) u v1 v2 := by
  obtain ⟨w, b⟩ := u
  obtain ⟨y, m, q, o, b'⟩ := v
  unfold wpX_monthDays wpY_monthDays
  dsimp only
  by_cases z : v1 < 0
  · refine cx_year (fun c => absurd c (cf_yneg z)) (fun c => br_t rfl (br_t (Int32.lt_trans z (by decide)) ⟨rfl, I⟩))
  · obtain ⟨n, hn, rfl⟩ := nI_of z
    refine cx_year (fun c => br_f (by decide) ?_) (fun c => br_t rfl (pk_lt n 2000 (fun _ => ⟨rfl, I⟩) (fun a => pk_le n 2399 (fun a2 => absurd ⟨n - 2000, by omega, congrArg nI (by omega)⟩ c) (fun _ => ⟨rfl, I⟩))))
    obtain ⟨j, hj, e⟩ := c
    have ej : n = 2000 + j := (nI_eq (by omega) (by omega)).mp e
    by_cases z2 : v2 < 0
    · refine cx_isv (f := 3) (by decide) (fun c => absurd c (cf_inneg z2)) (fun c => br_t rfl ?_)
      exact pk_lt n 2000 (fun a => absurd a (by omega)) (fun a => pk_le n 2399 (fun _ => br_t (Int32.lt_trans z2 (by decide)) ⟨rfl, I⟩) (fun a => absurd a (by omega)))
    · obtain ⟨p, hp, rfl⟩ := nI_of z2
      refine cx_isv (f := 3) (by decide) (fun c => br_f (by decide) ?_) (fun c => br_t rfl ?_)
      · obtain ⟨p', p1, p2, e2⟩ := c
        have p1' : 1 ≤ p' := p1
        have p2' : p' ≤ 12 := p2
        have ep : p = p' := (nI_eq (by omega) (by omega)).mp e2
        refine cx_len (by omega) (by omega) (by omega) ?_
        exact pk_lt n 2000 (fun a => absurd a (by omega)) (fun a => pk_le n 2399 (fun _ => pk_lt p 1 (fun a => absurd a (by omega)) (fun _ => pk_le p 12 (fun _ => cy_len (by omega) (by omega) (by omega) ⟨rfl, I⟩) (fun a => absurd a (by omega)))) (fun a => absurd a (by omega)))
      · exact pk_lt n 2000 (fun a => absurd a (by omega)) (fun a => pk_le n 2399 (fun _ => pk_lt p 1 (fun _ => ⟨rfl, I⟩) (fun a1 => pk_le p 12 (fun a2 => absurd ⟨p, a1, a2, rfl⟩ c) (fun _ => ⟨rfl, I⟩))) (fun a => absurd a (by omega)))
theorem i_vc_dayOfYear {k : Nat} {u : SX} {v : SY} (I : i_Rel k u v) (hk : k + 4 ≤ 2048) (v1 : Int32) : wpX_dayOfYear (fun r => wpY_dayOfYear (fun r' v' => r' = r ∧ i_Rel (k + 4) u v') v v1) u v1 := by
  obtain ⟨w, b⟩ := u
  obtain ⟨y, m, q, o, b'⟩ := v
  unfold wpX_dayOfYear wpY_dayOfYear
  dsimp only
  refine cx_day (fun c => br_f (by decide) ?_) (fun c => br_t rfl (cy_day (fun g => absurd g c) (fun _ => br_f (by decide) ⟨rfl, I⟩)))
  obtain ⟨d, hd, rfl⟩ := c
  have hm := cc_mo_s hd
  have hy := cc_yr_s hd
  refine cx_dpy hd (cy_day (fun _ => br_t rfl (cy_split hd ?_)) (fun c => absurd ⟨d, hd, rfl⟩ c))
  refine cy_join (j := cc_mo d / 12) (q := 0) (c := 0) (by omega) (by omega) (by omega) ⟨?_, I⟩
  rw [show cc_MF (12 * (cc_mo d / 12) + 0) + 0 = cc_MF (12 * (cc_mo d / 12)) from rfl, cc_MFY, hm.2.2.2.1, pk_sub hy.1]
end
section
/-! week, addMonths, nth -/
theorem cw_e7 {d : Nat} (hd : d < 2 ^ 30) (c : Nat) (hc : c < 2 ^ 30) : nI d + nI c - (nI d + nI c) / 7 * 7 = nI ((d + c) % 7) := by
  rw [show (7 : Int32) = nI 7 from rfl, nI_add, pk_rem (by omega) (by decide) (by decide)]
/-- what week answers for the Thursday t -/
def cw_v (t : Nat) : Int32 := 100 * nI (2000 + cc_yr t) + nI ((t - cc_Y (cc_yr t)) / 7 + 1)
theorem cx_week {post : Int32 → Prop} {w : Nat → Int64} {b : Nat → Int32} {d : Nat} (hd : d < 146097) (h2 : 2 ≤ d) (h : post (cw_v (d - (d + 5) % 7 + 3))) : wpX_week post (w, b) (nI d) := by
  have hy := cc_yr_s (d := d - (d + 5) % 7 + 3) (by omega)
  have e1 : nI ((d + 6) % 7) + 6 - (nI ((d + 6) % 7) + 6) / 7 * 7 = nI ((d + 5) % 7) := by
    rw [show (6 : Int32) = nI 6 from rfl, cw_e7 (by omega) 6 (by decide)]
    exact congrArg nI (by omega)
  have e2 : nI d - nI ((d + 5) % 7) + 3 = nI (d - (d + 5) % 7 + 3) := by
    rw [pk_sub (by omega), show (3 : Int32) = nI 3 from rfl, nI_add]
  unfold wpX_week
  dsimp only
  refine cx_day (fun _ => br_f (by decide) ?_) (fun c => absurd ⟨d, hd, rfl⟩ c)
  refine cx_wd hd ⟨by decide, nm_r e1 (nm_r e2 ?_)⟩
  refine cx_day (fun _ => br_f (by decide) ?_) (fun c => absurd ⟨_, by omega, rfl⟩ c)
  refine cx_yearOf (by omega) (cx_dpy (by omega) ⟨by decide, ?_⟩)
  unfold cw_v at h
  rw [show (7 : Int32) = nI 7 from rfl, pk_div (by omega) (by decide) (by decide), Int32.add_assoc, nI_1]
  exact h
section
variable {m k : Int32} {o b : Nat → Int32}
theorem cy_yearOf {post : Int32 → SY → Prop} {y : Int32} {d : Nat} (hd : d < 146097) (h : ∀ y' m' k', post (nI (2000 + cc_yr d)) (y', m', k', o, b)) : wpY_yearOf post (y, m, k, o, b) (nI d) := by
  unfold wpY_yearOf
  dsimp only
  refine cy_split hd ?_
  rw [(cc_mo_s hd).2.2.2.1]
  exact h _ _ _
theorem cy_w93 {post : Int32 → SY → Prop} {y : Int32} {t a : Nat} {x2 x3 : Int32} (ht : t < 146097) (ea : t = 5 + 7 * a) (e2 : x2 + 3 = nI t) (h : ∀ y' m' k', post (100 * x3 + nI (a + 1)) (y', m', k', o, b)) : ∀ n i, i ≤ a + 1 → a + 1 - i < n → wY_week_93 post x2 x3 y m k o b n (nI i) (nI (5 + 7 * i)) := by
  intro n
  induction n with
  | zero => intro i _ h2; omega
  | succ n ih =>
    intro i h1 h2
    unfold wY_week_93
    rw [e2]
    refine pk_lt t (5 + 7 * i) (fun z => ?_) (fun z => ?_)
    · rw [show i = a + 1 by omega]
      exact h _ _ _
    · refine nm_r (nI_1 i) (nm_r ?_ (ih (i + 1) (by omega) (by omega)))
      rw [show (7 : Int32) = nI 7 from rfl, nI_add]
      exact congrArg nI (by omega)
theorem cy_w38 {post : Int32 → SY → Prop} {t a : Nat} {x2 : Int32} (ht : t < 146097) (ea : t = 5 + 7 * a) (e2 : x2 + 3 = nI t) (h : ∀ y' m' k', post (cw_v t) (y', m', k', o, b)) : ∀ n i (y m k : Int32), i ≤ 54 → 54 - i < n → wY_week_38 post x2 (nI (2000 + cc_yr t)) n (nI (if 7 * i ≤ t - cc_Y (cc_yr t) then i else (t - cc_Y (cc_yr t)) / 7 + 1)) (nI i) y m k o b := by
  have hy := cc_yr_s ht
  have hl := cc_L2 (2000 + cc_yr t)
  have hY := cc_Y_s (cc_yr t)
  intro n
  induction n with
  | zero => intro i _ _ _ _ h2; omega
  | succ n ih =>
    intro i y m k h1 h2
    unfold wY_week_38
    refine pk_le 54 i (fun z => ?_) (fun z => ?_)
    · rw [if_neg (by omega)]
      refine pk_eq (2000 + cc_yr t) 2000 (fun q => ?_) (fun q => h _ _ _)
      have e0 : cc_Y 0 = 0 := rfl
      have ey : cc_yr t = 0 := by omega
      unfold cw_v at h
      rw [ey, e0, show (t - 0) / 7 + 1 = a + 1 by omega] at h
      rw [ey]
      exact ⟨_, cy_w93 ht ea e2 h (a + 2) 0 (by omega) (by omega)⟩
    · have e7 : 7 * nI i = nI (7 * i) := by rw [show (7 : Int32) = nI 7 from rfl, pk_mul]
      rw [e2, e7]
      rcases Nat.lt_or_ge t (7 * i) with q | q
      · refine nm_e (br_t (pk_sneg (by omega) q) (nm_r (nI_1 i) ?_))
        have hi := ih (i + 1) y m k (by omega) (by omega)
        rw [if_neg (by omega)] at hi
        rw [if_neg (by omega)]
        exact hi
      · refine nm_r (pk_sub q) (br_f (nI_pos (by omega)) (cy_yearOf (by omega) (fun y' m' k' => ?_)))
        have hi := ih (i + 1) y' m' k' (by omega) (by omega)
        rcases Nat.lt_or_ge (t - cc_Y (cc_yr t)) (7 * i) with p | p
        · rw [if_neg (by omega)] at hi
          rw [if_neg (by omega)]
          refine br_f ?_ (nm_r (nI_1 i) hi)
          intro e
          have e' := (nI_eq (by have := (cc_yr_s (d := t - 7 * i) (by omega)).2.2; omega) (by omega)).mp e
          have e'' : cc_yr (t - 7 * i) = cc_yr t := by omega
          have := (cc_yr_s (d := t - 7 * i) (by omega)).1
          rw [e''] at this
          omega
        · have e : cc_yr (t - 7 * i) = cc_yr t := cc_yr_u (by omega) (by omega) (by omega)
          rw [if_pos p]
          refine br_t (by rw [e]) (nm_r (nI_1 i) (nm_r (nI_1 i) ?_))
          rcases Nat.lt_or_ge (t - cc_Y (cc_yr t)) (7 * (i + 1)) with p2 | p2
          · rw [if_neg (by omega), show (t - cc_Y (cc_yr t)) / 7 + 1 = i + 1 by omega] at hi
            exact hi
          · rw [if_pos p2] at hi
            exact hi
theorem cy_week {post : Int32 → SY → Prop} {y : Int32} {d : Nat} (hd : d < 146097) (h2 : 2 ≤ d) (h : ∀ y' m' k', post (cw_v (d - (d + 5) % 7 + 3)) (y', m', k', o, b)) : wpY_week post (y, m, k, o, b) (nI d) := by
  have e1 : nI d - (nI d + 5 - (nI d + 5) / 7 * 7) = nI (d - (d + 5) % 7) := by
    rw [show (5 : Int32) = nI 5 from rfl, cw_e7 (by omega) 5 (by decide), pk_sub (by omega)]
  have e2 : nI (d - (d + 5) % 7) + 3 = nI (d - (d + 5) % 7 + 3) := by rw [show (3 : Int32) = nI 3 from rfl, nI_add]
  unfold wpY_week
  dsimp only
  refine cy_day (fun _ => br_t rfl ?_) (fun c => absurd ⟨d, hd, rfl⟩ c)
  refine pk_le 2 d (fun _ => ⟨by decide, nm_r e1 ?_⟩) (fun z => absurd z (by omega))
  rw [e2]
  refine cy_yearOf (by omega) (fun y' m' k' => ?_)
  have hx := cy_w38 (t := d - (d + 5) % 7 + 3) (a := (d - (d + 5) % 7 + 3) / 7) (by omega) (by omega) e2 h 55 0 y' m' k' (by omega) (by omega)
  rw [if_pos (by omega)] at hx
  exact ⟨_, hx⟩
end
theorem i_vc_week {k : Nat} {u : SX} {v : SY} (I : i_Rel k u v) (hk : k + 4 ≤ 2048) (v1 : Int32) : wpX_week (fun r => wpY_week (fun r' v' => r' = r ∧ i_Rel (k + 4) u v') v v1) u v1 := by
  obtain ⟨w, b⟩ := u
  obtain ⟨y, m, q, o, b'⟩ := v
  by_cases c : cf_r 146097 v1
  · obtain ⟨d, hd, rfl⟩ := c
    rcases Nat.lt_or_ge d 2 with z | z
    · have hY : wpY_week (fun r' v' => r' = (-1 : Int32) ∧ i_Rel (k + 4) (w, b) v') (y, m, q, o, b') (nI d) := by
        unfold wpY_week
        dsimp only
        refine cy_day (fun _ => br_t rfl ?_) (fun c => absurd ⟨d, hd, rfl⟩ c)
        exact pk_le 2 d (fun q => absurd q (by omega)) (fun _ => ⟨rfl, I⟩)
      unfold wpX_week
      dsimp only
      refine cx_day (fun _ => br_f (by decide) ?_) (fun c => absurd ⟨d, hd, rfl⟩ c)
      have ed : d = 0 ∨ d = 1 := by omega
      rcases ed with rfl | rfl
      · exact cx_wd hd ⟨by decide, nm_r (e' := nI 5) (by decide) (nm_r (e' := -2) (by decide) (cx_day (fun c => absurd c (cf_neg (by decide) (by decide))) (fun _ => br_t rfl hY)))⟩
      · exact cx_wd hd ⟨by decide, nm_r (e' := nI 6) (by decide) (nm_r (e' := -2) (by decide) (cx_day (fun c => absurd c (cf_neg (by decide) (by decide))) (fun _ => br_t rfl hY)))⟩
    · exact cx_week hd z (cy_week hd z (fun _ _ _ => ⟨rfl, I⟩))
  · unfold wpX_week wpY_week
    dsimp only
    exact cx_day (fun g => absurd g c) (fun _ => br_t rfl (cy_day (fun g => absurd g c) (fun _ => br_f (by decide) ⟨rfl, I⟩)))
/-! addMonths -/
theorem ca_add {s : Nat} {x : Int32} (hs : s < 2 ^ 30) (h1 : -4800 ≤ x.toInt) (h2 : x.toInt ≤ 4800) : (nI s + x).toInt = (s : Int) + x.toInt := by
  rw [Int32.toInt_add, nI_toInt (by omega)]
  exact Int.bmod_eq_of_le (by omega) (by omega)
theorem ca_m : (-4800 : Int32).toInt = -4800 := by decide
theorem ca_p : (4800 : Int32).toInt = 4800 := by decide
/-- what addMonths answers: the day d to the month number t -/
def ca_v (d t : Nat) : Nat := if cc_MF (t + 1) - 1 ≤ cc_MF t + (d - cc_MF (cc_mo d)) then cc_MF (t + 1) - 1 else cc_MF t + (d - cc_MF (cc_mo d))
theorem cx_addM {post : Int32 → Prop} {w : Nat → Int64} {b : Nat → Int32} {d : Nat} {x : Int32} (hd : d < 146097) (h1 : -4800 ≤ x.toInt) (h2 : x.toInt ≤ 4800) (h : ∀ t : Nat, t < 4800 → (t : Int) = cc_mo d + x.toInt → post (nI (ca_v d t))) (h0 : ((cc_mo d : Int) + x.toInt < 0 ∨ 4800 ≤ (cc_mo d : Int) + x.toInt) → post (-3)) : wpX_addMonths post (w, b) (nI d) x := by
  have ha := cc_at hd
  have hs := ha.2.2
  have hx := ca_add (s := cc_mo d) (x := x) (by omega) h1 h2
  unfold wpX_addMonths
  dsimp only
  refine cx_day (fun _ => br_f (by decide) ?_) (fun c => absurd ⟨d, hd, rfl⟩ c)
  refine br_f (by rw [ci_lt, ca_m]; omega) (br_t (by rw [ci_le, ca_p]; omega) (cx_mno hd ?_))
  by_cases z : (cc_mo d : Int) + x.toInt < 0
  · exact nm_e (br_t (by rw [ci_neg, hx]; exact z) (h0 (Or.inl z)))
  · obtain ⟨t, et⟩ : ∃ t : Nat, (t : Int) = cc_mo d + x.toInt := ⟨((cc_mo d : Int) + x.toInt).toNat, by omega⟩
    refine nm_r (ci_nI (n := t) (by omega) (by omega)) (br_f (nI_pos (by omega)) ?_)
    refine pk_lt t 4800 (fun z2 => ?_) (fun z2 => h0 (Or.inr (by omega)))
    have m1 := cc_MF_le (n := t) (by omega)
    have m2 := cc_MF_le (n := t + 1) (by omega)
    have m3 := cc_MF_s t
    refine cx_first (by omega) (cx_first (by omega) (nm_r (e' := nI (cc_MF t + (d - cc_MF (cc_mo d)))) ?_ ?_))
    · rw [nI_add, pk_sub (by have := ha.1; omega)]
      exact congrArg nI (by have := ha.1; omega)
    · rw [nI_1]
      refine cx_first (by omega) (nm_r (e' := nI (cc_MF (t + 1) - 1)) (by rw [show (1 : Int32) = nI 1 from rfl, pk_sub (by omega)]) ?_)
      have hp := h t z2 et
      unfold ca_v at hp
      refine pk_le (cc_MF (t + 1) - 1) (cc_MF t + (d - cc_MF (cc_mo d))) (fun q => ?_) (fun q => ?_)
      · rw [if_pos q] at hp
        exact hp
      · rw [if_neg (by omega)] at hp
        exact hp
theorem cy_addM {post : Int32 → SY → Prop} {y m k : Int32} {o b : Nat → Int32} {d : Nat} {x : Int32} (hd : d < 146097) (h1 : -4800 ≤ x.toInt) (h2 : x.toInt ≤ 4800) (h : ∀ t : Nat, t < 4800 → (t : Int) = cc_mo d + x.toInt → ∀ y' m' k', post (nI (ca_v d t)) (y', m', k', o, b)) (h0 : ((cc_mo d : Int) + x.toInt < 0 ∨ 4800 ≤ (cc_mo d : Int) + x.toInt) → ∀ y' m' k', post (-3) (y', m', k', o, b)) : wpY_addMonths post (y, m, k, o, b) (nI d) x := by
  have ha := cc_at hd
  have hs := ha.2.2
  have hl := (cc_MF_s (cc_mo d)).2
  have hx := ca_add (s := 24000 + cc_mo d) (x := x) (by omega) h1 h2
  obtain ⟨t, et⟩ : ∃ t : Nat, (t : Int) = 24000 + cc_mo d + x.toInt := ⟨((24000 + cc_mo d : Int) + x.toInt).toNat, by omega⟩
  have e0 : nI (2000 + cc_mo d / 12) * 12 + nI (cc_mo d % 12 + 1) - 1 + x = nI t := by
    rw [show (12 : Int32) = nI 12 from rfl, show (1 : Int32) = nI 1 from rfl, pk_mul, nI_add, pk_sub (by omega), show (2000 + cc_mo d / 12) * 12 + (cc_mo d % 12 + 1) - 1 = 24000 + cc_mo d by omega]
    exact ci_nI (by omega) (by omega)
  have e1 : nI t / 12 = nI (t / 12) := by rw [show (12 : Int32) = nI 12 from rfl, pk_div (by omega) (by decide) (by decide)]
  have e2 : nI t - nI t / 12 * 12 + 1 = nI (t % 12 + 1) := by rw [show (12 : Int32) = nI 12 from rfl, pk_rem (by omega) (by decide) (by decide), nI_1]
  unfold wpY_addMonths
  dsimp only
  refine cy_day (fun _ => br_t rfl ?_) (fun c => absurd ⟨d, hd, rfl⟩ c)
  refine br_f (by rw [ci_lt, ca_m]; omega) (br_t (by rw [ci_le, ca_p]; omega) (cy_split hd ?_))
  refine nm_r e0 ⟨by decide, nm_r e1 ⟨by decide, nm_r e2 ?_⟩⟩
  refine pk_lt (t / 12) 2000 (fun z => h0 (Or.inl (by omega)) _ _ _) (fun z => ?_)
  refine pk_le (t / 12) 2399 (fun z2 => ?_) (fun z2 => h0 (Or.inr (by omega)) _ _ _)
  obtain ⟨s, es⟩ : ∃ s, t = 24000 + s := ⟨t - 24000, by omega⟩
  have q1 : t / 12 = 2000 + s / 12 := by omega
  have q2 : t % 12 = s % 12 := by omega
  have eM : cc_MF (s + 1) = cc_MF s + cc_ln (cc_L (2000 + s / 12)) (s % 12 + 1) := rfl
  have hb := cc_ln_b (cc_L2 (2000 + s / 12)) (s % 12 + 1)
  have hv := h s (by omega) (by omega)
  unfold ca_v at hv
  rw [q1, q2]
  refine cy_len (by omega) (by omega) (by omega) ?_
  refine pk_le (cc_ln (cc_L (2000 + s / 12)) (s % 12 + 1)) (d - cc_MF (cc_mo d) + 1) (fun z3 => ?_) (fun z3 => ?_)
  · refine cy_len (by omega) (by omega) (by omega) ?_
    rw [if_pos (by omega)] at hv
    have hj := cy_join (post := fun r_36 => post r_36 (nI (2000 + cc_mo d / 12), nI (cc_mo d % 12 + 1), nI (d - cc_MF (cc_mo d) + 1), o, b)) (y := nI (2000 + cc_mo d / 12)) (m := nI (cc_mo d % 12 + 1)) (k := nI (d - cc_MF (cc_mo d) + 1)) (o := o) (b := b) (j := s / 12) (q := s % 12) (c := cc_ln (cc_L (2000 + s / 12)) (s % 12 + 1) - 1) (by omega) (by omega) (by omega) (by
      rw [show 12 * (s / 12) + s % 12 = s by omega, show cc_MF s + (cc_ln (cc_L (2000 + s / 12)) (s % 12 + 1) - 1) = cc_MF (s + 1) - 1 by omega]
      exact hv _ _ _)
    rw [show cc_ln (cc_L (2000 + s / 12)) (s % 12 + 1) - 1 + 1 = cc_ln (cc_L (2000 + s / 12)) (s % 12 + 1) by omega] at hj
    exact hj
  · rw [if_neg (by omega)] at hv
    exact cy_join (post := fun r_36 => post r_36 (nI (2000 + cc_mo d / 12), nI (cc_mo d % 12 + 1), nI (d - cc_MF (cc_mo d) + 1), o, b)) (y := nI (2000 + cc_mo d / 12)) (m := nI (cc_mo d % 12 + 1)) (k := nI (d - cc_MF (cc_mo d) + 1)) (o := o) (b := b) (j := s / 12) (q := s % 12) (c := d - cc_MF (cc_mo d)) (by omega) (by omega) (by omega) (by
      rw [show 12 * (s / 12) + s % 12 = s by omega]
      exact hv _ _ _)
theorem i_vc_addMonths {k : Nat} {u : SX} {v : SY} (I : i_Rel k u v) (hk : k + 4 ≤ 2048) (v1 : Int32) (v2 : Int32) : wpX_addMonths (fun r => wpY_addMonths (fun r' v' => r' = r ∧ i_Rel (k + 4) u v') v v1 v2) u v1 v2 := by
  obtain ⟨w, b⟩ := u
  obtain ⟨y, m, q, o, b'⟩ := v
  by_cases c : cf_r 146097 v1
  · obtain ⟨d, hd, rfl⟩ := c
    by_cases g : -4800 ≤ v2.toInt ∧ v2.toInt ≤ 4800
    · refine cx_addM hd g.1 g.2 (fun t ht et => cy_addM hd g.1 g.2 (fun t' ht' et' _ _ _ => ⟨by rw [show t' = t by omega], I⟩) (fun z => absurd z (by omega))) (fun z => cy_addM hd g.1 g.2 (fun t' ht' et' => absurd z (by omega)) (fun _ _ _ _ => ⟨rfl, I⟩))
    · unfold wpX_addMonths wpY_addMonths
      dsimp only
      refine cx_day (fun _ => br_f (by decide) ?_) (fun c => absurd ⟨d, hd, rfl⟩ c)
      by_cases z : v2.toInt < -4800
      · have zz : v2 < -4800 := by rw [ci_lt, ca_m]; exact z
        exact br_t zz (cy_day (fun _ => br_t rfl (br_t zz ⟨rfl, I⟩)) (fun c => absurd ⟨d, hd, rfl⟩ c))
      · have zz : ¬ v2 < -4800 := by rw [ci_lt, ca_m]; exact z
        have z2 : ¬ v2 ≤ 4800 := by rw [ci_le, ca_p]; omega
        exact br_f zz (br_f z2 (cy_day (fun _ => br_t rfl (br_f zz (br_f z2 ⟨rfl, I⟩))) (fun c => absurd ⟨d, hd, rfl⟩ c)))
  · unfold wpX_addMonths wpY_addMonths
    dsimp only
    exact cx_day (fun g => absurd g c) (fun _ => br_t rfl (cy_day (fun g => absurd g c) (fun _ => br_f (by decide) ⟨rfl, I⟩)))
end
section
/-! nth -/
def cn_off (F v : Nat) : Nat := (v + 7 - (F + 6) % 7) % 7
/-- what nth answers: F the first day, l the month's length, v the weekday, n which of them -/
def cn_v (F l v n : Nat) : Int32 := if cn_off F v + 7 * (n - 1) < l then nI (F + (cn_off F v + 7 * (n - 1))) else -4
theorem cn_hit {F k v : Nat} (hv : v ≤ 6) : (F + k + 6) % 7 = v ↔ k % 7 = cn_off F v := by
  unfold cn_off
  omega
theorem cn_lt (F v : Nat) : cn_off F v < 7 := by
  unfold cn_off
  omega
theorem cx_nthG {post : Int32 → Prop} {w : Nat → Int64} {b : Nat → Int32} {j c v : Nat} (hj : j < 400) (hc : c < 2 ^ 31) (h1 : 1 ≤ c / 100) (h2 : c / 100 ≤ 5) (h3 : 1 ≤ c % 100) (h4 : c % 100 ≤ 12) (hv : v ≤ 6) (h : post (cn_v (cc_MF (12 * j + (c % 100 - 1))) (cc_ln (cc_L (2000 + j)) (c % 100)) v (c / 100))) : wpX_nth post (w, b) (nI (2000 + j)) (nI c) (nI v) := by
  have e1 : nI c / 100 = nI (c / 100) := by rw [show (100 : Int32) = nI 100 from rfl, pk_div hc (by decide) (by decide)]
  have en : 12 * j + c % 100 - 1 = 12 * j + (c % 100 - 1) := by omega
  have eM : cc_MF (12 * j + (c % 100 - 1) + 1) = cc_MF (12 * j + (c % 100 - 1)) + cc_ln (cc_L (2000 + j)) (c % 100) := by
    show _ + cc_ln (cc_L (2000 + (12 * j + (c % 100 - 1)) / 12)) ((12 * j + (c % 100 - 1)) % 12 + 1) = _
    rw [show (12 * j + (c % 100 - 1)) / 12 = j by omega, show (12 * j + (c % 100 - 1)) % 12 + 1 = c % 100 by omega]
  have hM := cc_MF_le (n := 12 * j + (c % 100 - 1) + 1) (by omega)
  have hb := cc_ln_b (cc_L2 (2000 + j)) (c % 100)
  unfold wpX_nth
  dsimp only
  refine ⟨by decide, nm_r e1 ⟨by decide, nm_r (cq_e3 hc) ?_⟩⟩
  refine cx_year (fun _ => br_f (by decide) ?_) (fun g => absurd ⟨j, hj, rfl⟩ g)
  refine pk_lt (c / 100) 1 (fun z => absurd z (by omega)) (fun _ => pk_lt 5 (c / 100) (fun z => absurd z (by omega)) (fun _ => ?_))
  refine cx_isv (f := 3) (by decide) (fun _ => br_f (by decide) ?_) (fun g => absurd ⟨c % 100, h3, h4, rfl⟩ g)
  refine cx_isv (f := 4) (by decide) (fun _ => br_f (by decide) ?_) (fun g => absurd ⟨v, Nat.zero_le _, hv, rfl⟩ g)
  refine cx_mnum (by omega) h3 ?_
  rw [en]
  refine cx_first (by omega) (cx_wd (by omega) ⟨by decide, ?_⟩)
  generalize cc_MF (12 * j + (c % 100 - 1)) = F at h eM hM ⊢
  have e2 : nI v - nI ((F + 6) % 7) + 7 = nI (v + 7 - (F + 6) % 7) := by
    rw [← pk_sub (by omega), ← nI_add, show (7 : Int32) = nI 7 from rfl]
    grind
  have e3 : nI v - nI ((F + 6) % 7) + 7 - (nI v - nI ((F + 6) % 7) + 7) / 7 * 7 = nI (cn_off F v) := by
    rw [e2, show (7 : Int32) = nI 7 from rfl, pk_rem (by omega) (by decide) (by decide)]
    rfl
  have e4 : nI F + nI (cn_off F v) + 7 * (nI (c / 100) - 1) = nI (F + (cn_off F v + 7 * (c / 100 - 1))) := by
    rw [show (7 : Int32) = nI 7 from rfl, show (1 : Int32) = nI 1 from rfl, pk_sub h1, pk_mul, nI_add, nI_add, Nat.add_assoc]
  have ho := cn_lt F v
  refine nm_r e3 (nm_r e4 ?_)
  rw [nI_1]
  refine cx_first (by omega) ?_
  rw [eM]
  unfold cn_v at h
  refine pk_le (F + cc_ln (cc_L (2000 + j)) (c % 100)) (F + (cn_off F v + 7 * (c / 100 - 1))) (fun z => ?_) (fun z => ?_)
  · rw [if_neg (by omega)] at h
    exact h
  · rw [if_pos (by omega)] at h
    exact h
theorem cy_n89 {post : Int32 → Prop} {y m k : Int32} {o b : Nat → Int32} {j q v F n : Nat} (hj : j < 400) (hq1 : 1 ≤ q) (hq : q ≤ 12) (hF : F < 146097) (hv : v ≤ 6) (hn1 : 1 ≤ n) (hn : n ≤ 5) (h : post (cn_v F (cc_ln (cc_L (2000 + j)) q) v n)) : ∀ e i, i ≤ cc_ln (cc_L (2000 + j)) q → cc_ln (cc_L (2000 + j)) q - i < e → i ≤ cn_off F v + 7 * (n - 1) → wY_nth_89 post (nI (2000 + j)) (nI v) (nI n) (nI q) (nI F) y m k o b e (nI ((i + 6 - cn_off F v) / 7)) (nI i) := by
  have hb := cc_ln_b (cc_L2 (2000 + j)) q
  have ho := cn_lt F v
  intro e
  induction e with
  | zero => intro i _ h2; omega
  | succ e ih =>
    intro i h1 h2 h3
    have e7 : nI F + nI i + 6 - (nI F + nI i + 6) / 7 * 7 = nI ((F + i + 6) % 7) := by
      rw [nI_add, show (6 : Int32) = nI 6 from rfl, cw_e7 (by omega) 6 (by decide)]
    have hh := cn_hit (F := F) (k := i) hv
    unfold wY_nth_89
    refine cy_len (by omega) hq1 hq ?_
    refine pk_le (cc_ln (cc_L (2000 + j)) q) i (fun z => ?_) (fun z => ?_)
    · unfold cn_v at h
      rw [if_neg (by omega)] at h
      exact h
    · unfold wY_nth_119
      rw [e7]
      refine ⟨by decide, pk_eq ((F + i + 6) % 7) v (fun a => ?_) (fun a => ?_)⟩
      · have hi7 := hh.mp a
        refine nm_r (nI_1 _) ⟨by decide, br_t (by rw [a]) ?_⟩
        refine pk_eq ((i + 6 - cn_off F v) / 7 + 1) n (fun c => ?_) (fun c => ?_)
        · unfold cn_v at h
          rw [if_pos (by omega), show cn_off F v + 7 * (n - 1) = i by omega] at h
          rw [nI_add]
          exact h
        · have hi := ih (i + 1) (by omega) (by omega) (by omega)
          rw [show (i + 1 + 6 - cn_off F v) / 7 = (i + 6 - cn_off F v) / 7 + 1 by omega] at hi
          exact nm_r (nI_1 i) hi
      · have hi7 : ¬ i % 7 = cn_off F v := fun c => a (hh.mpr c)
        have hi := ih (i + 1) (by omega) (by omega) (by omega)
        rw [show (i + 1 + 6 - cn_off F v) / 7 = (i + 6 - cn_off F v) / 7 by omega] at hi
        refine ⟨by decide, br_f (fun c => a ((nI_eq (by omega) (by omega)).mp c)) (nm_r (nI_1 i) hi)⟩
theorem cy_nthG {post : Int32 → Prop} {y m k : Int32} {o b : Nat → Int32} {j c v : Nat} (hj : j < 400) (hc : c < 2 ^ 31) (h1 : 1 ≤ c / 100) (h2 : c / 100 ≤ 5) (h3 : 1 ≤ c % 100) (h4 : c % 100 ≤ 12) (hv : v ≤ 6) (h : post (cn_v (cc_MF (12 * j + (c % 100 - 1))) (cc_ln (cc_L (2000 + j)) (c % 100)) v (c / 100))) : wpY_nth post (y, m, k, o, b) (nI (2000 + j)) (nI c) (nI v) := by
  have e1 : nI c / 100 = nI (c / 100) := by rw [show (100 : Int32) = nI 100 from rfl, pk_div hc (by decide) (by decide)]
  have hM := cc_MF_le (n := 12 * j + (c % 100 - 1) + 1) (by omega)
  have hS := (cc_MF_s (12 * j + (c % 100 - 1))).1
  have ho := cn_lt (cc_MF (12 * j + (c % 100 - 1))) v
  unfold wpY_nth
  dsimp only
  refine pk_lt (2000 + j) 2000 (fun z => absurd z (by omega)) (fun _ => pk_le (2000 + j) 2399 (fun _ => ?_) (fun z => absurd z (by omega)))
  refine ⟨by decide, nm_r e1 ⟨by decide, nm_r (cq_e3 hc) ?_⟩⟩
  refine br_f (nI_pos hc) (pk_lt (c / 100) 1 (fun z => absurd z (by omega)) (fun _ => pk_lt 5 (c / 100) (fun z => absurd z (by omega)) (fun _ => ?_)))
  refine pk_lt (c % 100) 1 (fun z => absurd z (by omega)) (fun _ => pk_le (c % 100) 12 (fun _ => ?_) (fun z => absurd z (by omega)))
  refine br_f (nI_pos (by omega)) (pk_le v 6 (fun _ => ?_) (fun z => absurd z (by omega)))
  have hx := cy_n89 (post := post) (y := y) (m := m) (k := k) (o := o) (b := b) (j := j) (q := c % 100) (v := v) (F := cc_MF (12 * j + (c % 100 - 1))) (n := c / 100) hj h3 h4 (by omega) hv h1 h2 h 33 0 (by omega) (by have := cc_ln_b (cc_L2 (2000 + j)) (c % 100); omega) (by omega)
  rw [show (0 + 6 - cn_off (cc_MF (12 * j + (c % 100 - 1))) v) / 7 = 0 by omega] at hx
  have hj := cy_join (post := fun r_14 => ∃ n89 : Nat, wY_nth_89 post (nI (2000 + j)) (nI v) (nI (c / 100)) (nI (c % 100)) r_14 y m k o b n89 0 0) (y := y) (m := m) (k := k) (o := o) (b := b) (j := j) (q := c % 100 - 1) (c := 0) hj (by omega) (by omega) ⟨_, hx⟩
  rw [show c % 100 - 1 + 1 = c % 100 by omega] at hj
  exact hj
theorem i_vc_nth {k : Nat} {u : SX} {v : SY} (I : i_Rel k u v) (hk : k + 4 ≤ 2048) (v1 : Int32) (v2 : Int32) (v3 : Int32) : wpX_nth (fun r => wpY_nth (fun r' => r' = r ∧ i_Rel (k + 4) u v) v v1 v2 v3) u v1 v2 v3 := by
  obtain ⟨w, b⟩ := u
  obtain ⟨y, m, q, o, b'⟩ := v
  by_cases cy : cf_y v1
  · obtain ⟨j, hj, rfl⟩ := cy
    have y1 : ¬ nI (2000 + j) < 2000 := nI_nlt (b := 2000) (by omega) (by omega)
    have y2 : nI (2000 + j) ≤ 2399 := nI_le (b := 2399) (by omega) (by decide)
    by_cases zc : v2 < 0
    · have hd : (v2 / 100).toInt ≤ 0 := ci_div0 100 zc (by decide) (by decide)
      unfold wpX_nth wpY_nth
      dsimp only
      refine ⟨by decide, nm_e ⟨by decide, nm_e ?_⟩⟩
      refine cx_year (fun _ => br_f (by decide) ?_) (fun g => absurd ⟨j, hj, rfl⟩ g)
      refine br_t (by rw [ci_lt, show (1 : Int32).toInt = 1 by decide]; omega) ?_
      exact br_f y1 (br_t y2 ⟨by decide, nm_e ⟨by decide, nm_e (br_t zc ⟨rfl, I⟩)⟩⟩)
    · obtain ⟨c, hc, rfl⟩ := nI_of zc
      by_cases g : 1 ≤ c / 100 ∧ c / 100 ≤ 5 ∧ 1 ≤ c % 100 ∧ c % 100 ≤ 12
      · obtain ⟨g1, g2, g3, g4⟩ := g
        by_cases cv : cf_r 7 v3
        · obtain ⟨x, hx, rfl⟩ := cv
          exact cx_nthG hj hc g1 g2 g3 g4 (by omega) (cy_nthG hj hc g1 g2 g3 g4 (by omega) ⟨rfl, I⟩)
        · have e1 : nI c / 100 = nI (c / 100) := by rw [show (100 : Int32) = nI 100 from rfl, pk_div hc (by decide) (by decide)]
          unfold wpX_nth wpY_nth
          dsimp only
          refine ⟨by decide, nm_r e1 ⟨by decide, nm_r (cq_e3 hc) ?_⟩⟩
          refine cx_year (fun _ => br_f (by decide) ?_) (fun g => absurd ⟨j, hj, rfl⟩ g)
          refine pk_lt (c / 100) 1 (fun z => absurd z (by omega)) (fun _ => pk_lt 5 (c / 100) (fun z => absurd z (by omega)) (fun _ => ?_))
          refine cx_isv (f := 3) (by decide) (fun _ => br_f (by decide) ?_) (fun g => absurd ⟨c % 100, g3, g4, rfl⟩ g)
          refine cx_isv (f := 4) (by decide) (fun g => absurd (by obtain ⟨x, _, hx, e⟩ := g; have hx' : x ≤ 6 := hx; exact ⟨x, by omega, e⟩) cv) (fun _ => br_t rfl ?_)
          refine br_f y1 (br_t y2 ⟨by decide, nm_r e1 ⟨by decide, nm_r (cq_e3 hc) ?_⟩⟩)
          refine br_f zc (pk_lt (c / 100) 1 (fun z => absurd z (by omega)) (fun _ => pk_lt 5 (c / 100) (fun z => absurd z (by omega)) (fun _ => ?_)))
          refine pk_lt (c % 100) 1 (fun z => absurd z (by omega)) (fun _ => pk_le (c % 100) 12 (fun _ => ?_) (fun z => absurd z (by omega)))
          by_cases zv : v3 < 0
          · exact br_t zv ⟨rfl, I⟩
          · obtain ⟨x, hx, rfl⟩ := nI_of zv
            exact br_f zv (pk_le x 6 (fun z => absurd ⟨x, by omega, rfl⟩ cv) (fun _ => ⟨rfl, I⟩))
      · have e1 : nI c / 100 = nI (c / 100) := by rw [show (100 : Int32) = nI 100 from rfl, pk_div hc (by decide) (by decide)]
        have hY : wpY_nth (fun r' => r' = (-2 : Int32) ∧ i_Rel (k + 4) (w, b) (y, m, q, o, b')) (y, m, q, o, b') (nI (2000 + j)) (nI c) v3 := by
          unfold wpY_nth
          dsimp only
          refine br_f y1 (br_t y2 ⟨by decide, nm_r e1 ⟨by decide, nm_r (cq_e3 hc) ?_⟩⟩)
          refine br_f zc (pk_lt (c / 100) 1 (fun z => ⟨rfl, I⟩) (fun _ => pk_lt 5 (c / 100) (fun z => ⟨rfl, I⟩) (fun _ => ?_)))
          exact pk_lt (c % 100) 1 (fun z => ⟨rfl, I⟩) (fun _ => pk_le (c % 100) 12 (fun _ => absurd (by omega) g) (fun z => ⟨rfl, I⟩))
        unfold wpX_nth
        dsimp only
        refine ⟨by decide, nm_r e1 ⟨by decide, nm_r (cq_e3 hc) ?_⟩⟩
        refine cx_year (fun _ => br_f (by decide) ?_) (fun g => absurd ⟨j, hj, rfl⟩ g)
        refine pk_lt (c / 100) 1 (fun z => hY) (fun _ => pk_lt 5 (c / 100) (fun z => hY) (fun _ => ?_))
        refine cx_isv (f := 3) (by decide) (fun p => absurd ?_ g) (fun _ => br_t rfl hY)
        obtain ⟨x, x1, x2, e⟩ := p
        have x1' : 1 ≤ x := x1
        have x2' : x ≤ 12 := x2
        have ex := (nI_eq (by omega) (by omega)).mp e
        omega
  · have hY : ∀ c1 c2, wpY_nth (fun r' => r' = (-1 : Int32) ∧ i_Rel (k + 4) (w, b) (y, m, q, o, b')) (y, m, q, o, b') v1 c1 c2 := by
      intro c1 c2
      unfold wpY_nth
      dsimp only
      by_cases z : v1 < 0
      · exact br_t (Int32.lt_trans z (by decide)) ⟨rfl, I⟩
      · obtain ⟨n, hn, rfl⟩ := nI_of z
        exact pk_lt n 2000 (fun _ => ⟨rfl, I⟩) (fun _ => pk_le n 2399 (fun _ => absurd ⟨n - 2000, by omega, congrArg nI (by omega)⟩ cy) (fun _ => ⟨rfl, I⟩))
    unfold wpX_nth
    dsimp only
    exact ⟨by decide, nm_e ⟨by decide, nm_e (cx_year (fun g => absurd g cy) (fun _ => br_t rfl (hY _ _)))⟩⟩
end
section
/-! the constructors, fill, allowed -/
theorem cr_full {b : Int32} {W : Int64} {o : Nat → Int32} {f : Nat} (hb : b = 1) (h : ∀ i, i < 64 → cb_b W i = decide (cc_lo f ≤ i ∧ i ≤ cc_hi f)) : cr_P b W o f := by
  have hh := cc_hi_b f
  have hl := cc_lo_b f
  refine ⟨Or.inr hb, fun v hv e => ?_, fun _ v h1 h2 => ?_, fun z => ?_, 6, by decide, ?_⟩
  · rw [h v hv] at e
    exact of_decide_eq_true e
  · rw [h v (by omega)]
    exact decide_eq_true ⟨h1, h2⟩
  · rw [hb] at z
    exact absurd z (by decide)
  · rw [h 6 (by decide)]
    exact decide_eq_true ⟨by omega, by omega⟩
def cr_I (c : Nat) (w : Nat → Int64) (b : Nat → Int32) : Prop := (∀ p, p < c → ∀ i, i < 64 → cb_b (w p) i = decide (cc_lo (p % 5) ≤ i ∧ i ≤ cc_hi (p % 5))) ∧ (∀ j, b j = if j < c then 1 else 0)
theorem cr_Ib {c : Nat} {b : Nat → Int32} (h : ∀ j, b j = if j < c then 1 else 0) : ∀ j, upd b c 1 j = if j < c + 1 then 1 else 0 := by
  intro j
  by_cases z : j = c
  · subst z
    rw [pk_us, if_pos (by omega)]
  · rw [pk_un z, h j]
    by_cases q : j < c
    · rw [if_pos q, if_pos (by omega)]
    · rw [if_neg q, if_neg (by omega)]
theorem cr_Is {r f : Nat} {w : Nat → Int64} {b : Nat → Int32} {m : Int64} (hf : f < 5) (h : cr_I (5 * r + f) w b) (hm : ∀ i, i < 64 → cb_b m i = decide (cc_lo f ≤ i ∧ i ≤ cc_hi f)) : cr_I (5 * r + f + 1) (vp_updL w (5 * r + f) m) (upd b (5 * r + f) 1) := by
  refine ⟨fun p hp i hi => ?_, cr_Ib h.2⟩
  by_cases z : p = 5 * r + f
  · subst z
    rw [pk_uLs, hm i hi, show (5 * r + f) % 5 = f by omega]
  · rw [pk_uLn z]
    exact h.1 p (by omega) i hi
theorem cx_i29 {post : SX → Prop} {J : Int32 → (Nat → Int64) → (Nat → Int32) → Prop} {r : Nat} (hr : r < 4) (hJ : ∀ w b, cr_I (5 * (r + 1)) w b → J (nI (r + 1)) w b) : ∀ n f w b, f ≤ 5 → 5 - f < n → cr_I (5 * r + f) w b → wX_init_29 post J (nI r) n (nI f) w b := by
  intro n
  induction n with
  | zero => intro f _ _ _ h2; omega
  | succ n ih =>
    intro f w b h1 h2 h3
    refine pk_le 5 f (fun z => ?_) (fun z => ?_)
    · refine nm_r (nI_1 r) (hJ w b ?_)
      rw [show 5 * (r + 1) = 5 * r + f by omega]
      exact h3
    · refine cx_makeFull hr z (fun m hm => ?_)
      exact nm_r (nI_1 f) (ih (f + 1) _ _ (by omega) (by omega) (cr_Is z h3 hm))
theorem cx_i22 {post : SX → Prop} (h : ∀ w b, cr_I 20 w b → post (w, b)) : ∀ n r w b, r ≤ 4 → 4 - r < n → cr_I (5 * r) w b → wX_init_22 post n (nI r) w b := by
  intro n
  induction n with
  | zero => intro r _ _ _ h2; omega
  | succ n ih =>
    intro r w b h1 h2 h3
    refine pk_le 4 r (fun z => ?_) (fun z => ?_)
    · rw [show r = 4 by omega] at h3
      exact h w b h3
    · exact ⟨_, cx_i29 z (fun w' b' h' => ih (r + 1) w' b' (by omega) (by omega) h') 6 0 w b (by omega) (by omega) h3⟩
theorem cy_i23 {post : SY → Prop} {y m k : Int32} {o : Nat → Int32} (h : ∀ b, (∀ j, b j = if j < 20 then 1 else 0) → post (y, m, k, o, b)) : ∀ n c b, c ≤ 20 → 20 - c < n → (∀ j, b j = if j < c then 1 else 0) → wY_init_23 post y m k n (nI c) o b := by
  intro n
  induction n with
  | zero => intro c _ _ h2; omega
  | succ n ih =>
    intro c b h1 h2 h3
    refine pk_le 20 c (fun z => ?_) (fun z => ?_)
    · rw [show c = 20 by omega] at h3
      exact h b h3
    · refine ⟨vp_in_nI z (by decide), nm_e (nm_r (nI_1 c) ?_)⟩
      rw [nI_clamp (by omega)]
      exact ih (c + 1) _ (by omega) (by omega) (cr_Ib h3)
theorem i_vc0 : wpX_init (fun u => wpY_init (fun v => i_Rel 0 u v)) := by
  refine ⟨_, cx_i22 (fun w b h => ?_) 5 0 _ _ (by omega) (by omega) ⟨fun p hp => absurd hp (by omega), fun j => (if_neg (by omega)).symm⟩⟩
  refine ⟨_, cy_i23 (fun b' h' => ?_) 21 0 _ (by omega) (by omega) (fun j => (if_neg (by omega)).symm)⟩
  refine ⟨funext (fun j => (h.2 j).trans (h' j).symm), fun p hp => ?_⟩
  exact cr_full ((h.2 p).trans (if_pos hp)) (fun i hi => h.1 p hp i hi)
theorem cr_set {w : Nat → Int64} {b o o' : Nat → Int32} {p : Nat} {W : Int64} {x : Int32} (h : cr_R w b o) (hp : cr_P x W (fun v => o' (64 * p + v)) (p % 5)) (ho : ∀ j, (j < 64 * p ∨ 64 * p + 64 ≤ j) → o' j = o j) : cr_R (vp_updL w p W) (upd b p x) o' := by
  intro q hq
  by_cases z : q = p
  · subst z
    rw [pk_us, pk_uLs]
    exact hp
  · rw [pk_un z, pk_uLn z]
    obtain ⟨a1, a2, a3, a4, a5⟩ := h q hq
    refine ⟨a1, a2, a3, fun e v hv => ?_, a5⟩
    dsimp only
    rw [show o' (64 * q + v) = o (64 * q + v) from ho _ (by omega)]
    exact a4 e v hv
theorem cr_e5 (r f : Nat) : nI r * 5 + nI f = nI (5 * r + f) := by rw [show (5 : Int32) = nI 5 from rfl, pk_mul, nI_add, Nat.mul_comm]
theorem i_vc_fill {k : Nat} {u : SX} {v : SY} (I : i_Rel k u v) (hk : k + 4 ≤ 2048) (v1 : Int32) (v2 : Int32) : wpX_fill (fun r u' => wpY_fill (fun r' v' => r' = r ∧ i_Rel (k + 4) u' v') v v1 v2) u v1 v2 := by
  obtain ⟨w, b⟩ := u
  obtain ⟨y, m, q, o, b'⟩ := v
  obtain ⟨e, hR⟩ := I
  have e' : b = b' := e
  subst e'
  have hR' : cr_R w b o := hR
  unfold wpX_fill wpY_fill
  dsimp only
  refine cx_rule (fun c => br_f (by decide) ?_) (fun c => br_t rfl (cy_rule (fun g => absurd g c) (fun _ => br_f (by decide) ⟨rfl, rfl, hR⟩)))
  refine cx_field (fun c2 => br_f (by decide) ?_) (fun c2 => br_t rfl (cy_rule (fun _ => br_t rfl (cy_field (fun g => absurd g c2) (fun _ => br_f (by decide) ⟨rfl, rfl, hR⟩))) (fun g => absurd c g)))
  obtain ⟨r, hr, rfl⟩ := c
  obtain ⟨f, hf, rfl⟩ := c2
  have hb := (cr_at hR' hr hf).1
  refine cx_isFull hr hf hb (cx_makeFull hr hf (fun M hM => ?_))
  have hN : cr_R (vp_updL w (5 * r + f) M) (upd b (5 * r + f) 1) o := cr_set hR' (by rw [show (5 * r + f) % 5 = f by omega]; exact cr_full rfl hM) (fun j _ => rfl)
  dsimp only
  rw [cr_e5, nI_clamp (by omega)]
  unfold wY_fill_39
  rw [cr_e5, nI_clamp (by omega)]
  rcases hb with z | z
  · refine br_t z (cy_rule (fun _ => br_t rfl (cy_field (fun _ => br_t rfl ?_) (fun g => absurd ⟨f, hf, rfl⟩ g))) (fun g => absurd ⟨r, hr, rfl⟩ g))
    exact ⟨vp_in_nI (by omega) (by decide), br_t z ⟨vp_in_nI (by omega) (by decide), nm_e ⟨rfl, rfl, hN⟩⟩⟩
  · have z' : ¬ b (5 * r + f) = 0 := by rw [z]; decide
    refine br_f z' (cy_rule (fun _ => br_t rfl (cy_field (fun _ => br_t rfl ?_) (fun g => absurd ⟨f, hf, rfl⟩ g))) (fun g => absurd ⟨r, hr, rfl⟩ g))
    exact ⟨vp_in_nI (by omega) (by decide), br_f z' ⟨vp_in_nI (by omega) (by decide), nm_e ⟨rfl, rfl, hN⟩⟩⟩
theorem i_vc_allowed {k : Nat} {u : SX} {v : SY} (I : i_Rel k u v) (hk : k + 4 ≤ 2048) (v1 : Int32) (v2 : Int32) (v3 : Int32) : wpX_allowed (fun r => wpY_allowed (fun r' => r' = r ∧ i_Rel (k + 4) u v) v v1 v2 v3) u v1 v2 v3 := by
  obtain ⟨w, b⟩ := u
  obtain ⟨y, m, q, o, b'⟩ := v
  obtain ⟨e, hR⟩ := I
  have e' : b = b' := e
  subst e'
  have hR' : cr_R w b o := hR
  unfold wpX_allowed wpY_allowed
  dsimp only
  refine cx_rule (fun c => br_f (by decide) ?_) (fun c => br_t rfl (cy_rule (fun g => absurd g c) (fun _ => br_f (by decide) ⟨rfl, rfl, hR⟩)))
  refine cx_field (fun c2 => br_f (by decide) ?_) (fun c2 => br_t rfl (cy_rule (fun _ => br_t rfl (cy_field (fun g => absurd g c2) (fun _ => br_f (by decide) ⟨rfl, rfl, hR⟩))) (fun g => absurd c g)))
  obtain ⟨r, hr, rfl⟩ := c
  obtain ⟨f, hf, rfl⟩ := c2
  have hh := cc_hi_b f
  have go : ∀ R : Int32, wpY_inField (fun r_15 => (r_15 = 0 → (0 : Int32) = R ∧ i_Rel (k + 4) (w, b) (y, m, q, o, b)) ∧ (¬ r_15 = 0 → wpY_may (fun r_22 => (r_22 = 0 → (0 : Int32) = R ∧ i_Rel (k + 4) (w, b) (y, m, q, o, b)) ∧ (¬ r_22 = 0 → (1 : Int32) = R ∧ i_Rel (k + 4) (w, b) (y, m, q, o, b))) (y, m, q, o, b) (nI r) (nI f) v3)) (y, m, q, o, b) (nI f) v3 → wpY_badRule (fun r_1 => (r_1 = 0 → wpY_badField (fun r_8 => (r_8 = 0 → wpY_inField (fun r_15 => (r_15 = 0 → (0 : Int32) = R ∧ i_Rel (k + 4) (w, b) (y, m, q, o, b)) ∧ (¬ r_15 = 0 → wpY_may (fun r_22 => (r_22 = 0 → (0 : Int32) = R ∧ i_Rel (k + 4) (w, b) (y, m, q, o, b)) ∧ (¬ r_22 = 0 → (1 : Int32) = R ∧ i_Rel (k + 4) (w, b) (y, m, q, o, b))) (y, m, q, o, b) (nI r) (nI f) v3)) (y, m, q, o, b) (nI f) v3) ∧ (¬ r_8 = 0 → (-2 : Int32) = R ∧ i_Rel (k + 4) (w, b) (y, m, q, o, b))) (y, m, q, o, b) (nI f)) ∧ (¬ r_1 = 0 → (-1 : Int32) = R ∧ i_Rel (k + 4) (w, b) (y, m, q, o, b))) (y, m, q, o, b) (nI r) := by
    intro R h
    exact cy_rule (fun _ => br_t rfl (cy_field (fun _ => br_t rfl h) (fun g => absurd ⟨f, hf, rfl⟩ g))) (fun g => absurd ⟨r, hr, rfl⟩ g)
  refine cx_isv hf (fun c3 => br_f (by decide) ?_) (fun c3 => br_t rfl (go _ (cy_isv hf (fun g => absurd g c3) (fun _ => br_t rfl ⟨rfl, rfl, hR⟩))))
  have c4 := c3
  obtain ⟨x, x1, x2, rfl⟩ := c3
  refine cx_has hr hf (by omega) (cb_z (fun z => go _ (cy_isv hf (fun _ => br_f (by decide) (cy_may hR' hr hf x1 x2 ?_)) (fun g => absurd c4 g))) (fun z => go _ (cy_isv hf (fun _ => br_f (by decide) (cy_may hR' hr hf x1 x2 ?_)) (fun g => absurd c4 g))))
  · rw [z]
    exact br_t rfl ⟨rfl, rfl, hR⟩
  · rw [z]
    exact br_f (by decide) ⟨rfl, rfl, hR⟩
end
section
/-! allow -/
theorem cm_gap {x y s : Nat} (hx : x % s = 0) (hy : y % s = 0) (h : x < y) : x + s ≤ y := by
  have e : (y - x) % s = 0 := Nat.sub_mod_eq_zero_of_mod_eq (by rw [hx, hy])
  have d : s ∣ y - x := Nat.dvd_of_mod_eq_zero e
  have := Nat.le_of_dvd (by omega) d
  omega
def cm_M (B : Nat → Bool) (A T s v : Nat) : Bool := B v || decide (A ≤ v ∧ v ≤ T ∧ (v - A) % s = 0)
theorem cx_124 {post : Int32 → SX → Prop} {w : Nat → Int64} {b : Nat → Int32} {B : Nat → Bool} {r f A T s : Nat} (hr : r < 4) (hf : f < 5) (hA : cc_lo f ≤ A) (hT : T ≤ cc_hi f) (hs : 1 ≤ s) (hs2 : s ≤ 59) (hB : ∀ v, v < 64 → B v = true → cc_lo f ≤ v ∧ v ≤ cc_hi f) (h : ∀ m, (∀ v, v < 64 → cb_b m v = cm_M B A T s v) → post (nI (cc_cnt (cm_M B A T s) 64)) (vp_updL w (5 * r + f) m, upd b (5 * r + f) 0)) : ∀ n c (m : Int64), A ≤ c → c ≤ T + s → T + 1 - c < n → (c - A) % s = 0 → (∀ v, v < 64 → cb_b m v = (B v || decide (A ≤ v ∧ v < c ∧ (v - A) % s = 0))) → wX_allow_124 post (nI s) (nI r) (nI f) (nI T) (nI (5 * r + f)) w b n m (nI c) := by
  have hh := cc_hi_b f
  intro n
  induction n with
  | zero => intro c m _ _ h2; omega
  | succ n ih =>
    intro c m h1 h2 h3 h4 hm
    refine pk_lt T c (fun z => ?_) (fun z => ?_)
    · have hM : ∀ v, v < 64 → cb_b m v = cm_M B A T s v := by
        intro v hv
        rw [hm v hv]
        unfold cm_M
        refine congrArg _ (decide_eq_decide.mpr ⟨fun q => ⟨q.1, ?_, q.2.2⟩, fun q => ⟨q.1, by omega, q.2.2⟩⟩)
        have := cm_gap q.2.2 h4 (by omega)
        omega
      refine ⟨vp_in_nI (by omega) (by decide), nm_e ⟨vp_in_nI (by omega) (by decide), nm_e ?_⟩⟩
      rw [nI_clamp (by omega)]
      refine cx_count hr hf ?_ ?_
      · intro v hv e
        rw [pk_uLs, hM v hv] at e
        unfold cm_M at e
        rw [Bool.or_eq_true] at e
        rcases e with e | e
        · exact hB v hv e
        · have := of_decide_eq_true e
          omega
      · rw [pk_uLs, cc_cnt_e hM]
        exact h m hM
    · refine nm_e (nm_r (nI_add c s) (ih (c + s) _ (by omega) (by omega) (by omega) ?_ (fun v hv => ?_)))
      · rw [show c + s - A = c - A + s by omega, Nat.add_mod_right]
        exact h4
      · rw [cb_or _ v (by omega), hm v hv, Bool.or_assoc]
        refine congrArg _ ?_
        by_cases q : c = v
        · subst q
          rw [decide_eq_true rfl, Bool.or_true]
          exact (decide_eq_true ⟨h1, by omega, h4⟩).symm
        · rw [decide_eq_false q, Bool.or_false]
          refine decide_eq_decide.mpr ⟨fun t => ⟨t.1, by omega, t.2.2⟩, fun t => ⟨t.1, ?_, t.2.2⟩⟩
          rcases Nat.lt_or_ge v c with g | g
          · exact g
          · have := cm_gap h4 t.2.2 (by omega)
            omega
def cm_B (w : Nat → Int64) (b : Nat → Int32) (p v : Nat) : Bool := decide (b p = 0) && cb_b (w p) v
theorem cm_e8 {a : Nat} (ha : a < 2 ^ 31) : nI a >>> ((3 : Int32) &&& 31) = nI (a / 8) := pk_shrN ha _ 3 (by decide)
theorem cm_e64 {a : Nat} (ha : a < 2 ^ 31) : nI a >>> ((6 : Int32) &&& 31) = nI (a / 64) := pk_shrN ha _ 6 (by decide)
theorem cm_a7 {a : Nat} (ha : a < 2 ^ 31) : nI a &&& 7 = nI (a % 8) := pk_andN (by omega) 3 (by decide)
theorem cm_a63 {a : Nat} (ha : a < 2 ^ 31) : nI a &&& 63 = nI (a % 64) := pk_andN (by omega) 6 (by decide)
theorem cx_allowG {post : Int32 → SX → Prop} {w : Nat → Int64} {b o : Nat → Int32} {r f a t s : Nat} (hR : cr_R w b o) (ha : a < 2 ^ 31) (ht : t < 2 ^ 31) (er : a / 8 = r) (ef : a % 8 = f) (hr : r < 4) (hf : f < 5) (h1 : cc_lo f ≤ t / 64) (h2 : t % 64 ≤ cc_hi f) (h3 : t / 64 ≤ t % 64) (hs : 1 ≤ s) (hs2 : s ≤ 59) (h : ∀ m, (∀ v, v < 64 → cb_b m v = cm_M (cm_B w b (5 * r + f)) (t / 64) (t % 64) s v) → post (nI (cc_cnt (cm_M (cm_B w b (5 * r + f)) (t / 64) (t % 64) s) 64)) (vp_updL w (5 * r + f) m, upd b (5 * r + f) 0)) : wpX_allow post (w, b) (nI a) (nI t) (nI s) := by
  have hh := cc_hi_b f
  obtain ⟨p1, p2, p3, p4, p5⟩ := cr_at hR hr hf
  have hB : ∀ v, v < 64 → cm_B w b (5 * r + f) v = true → cc_lo f ≤ v ∧ v ≤ cc_hi f := by
    intro v hv e
    unfold cm_B at e
    rw [Bool.and_eq_true] at e
    exact p2 v hv e.2
  have main : ∀ m : Int64, (∀ v, v < 64 → cb_b m v = cm_B w b (5 * r + f) v) → ∃ n, wX_allow_124 post (nI s) (nI r) (nI f) (nI (t % 64)) (nI (5 * r + f)) w b n m (nI (t / 64)) := by
    intro m hm
    refine ⟨_, cx_124 hr hf h1 h2 hs hs2 hB h (t % 64 + 2) (t / 64) m (by omega) (by omega) (by omega) (by rw [Nat.sub_self, Nat.zero_mod]) (fun v hv => ?_)⟩
    rw [hm v hv, decide_eq_false (by omega), Bool.or_false]
  unfold wpX_allow
  dsimp only
  refine nm_r (cm_e8 ha) (nm_r (cm_a7 ha) ?_)
  rw [er, ef]
  refine cx_rule (fun _ => br_f (by decide) ?_) (fun g => absurd ⟨r, hr, rfl⟩ g)
  refine cx_field (fun _ => br_f (by decide) ?_) (fun g => absurd ⟨f, hf, rfl⟩ g)
  refine nm_r (cm_e64 ht) (nm_r (cm_a63 ht) ?_)
  refine cx_isv hf (fun _ => br_f (by decide) ?_) (fun g => absurd ⟨t / 64, h1, by omega, rfl⟩ g)
  refine cx_isv hf (fun _ => br_f (by decide) ?_) (fun g => absurd ⟨t % 64, by omega, h2, rfl⟩ g)
  refine pk_le (t / 64) (t % 64) (fun _ => ?_) (fun z => absurd z (by omega))
  refine pk_lt s 1 (fun z => absurd z (by omega)) (fun _ => pk_le s 59 (fun _ => ?_) (fun z => absurd z (by omega)))
  refine cx_place ⟨vp_in_nI (by omega) (by decide), ?_⟩
  rw [nI_clamp (by omega)]
  rcases p1 with z | z
  · refine br_t z ⟨vp_in_nI (by omega) (by decide), nm_e (main _ (fun v hv => ?_))⟩
    unfold cm_B
    rw [decide_eq_true z, Bool.true_and]
  · have z' : ¬ b (5 * r + f) = 0 := by rw [z]; decide
    refine br_f z' (main _ (fun v hv => ?_))
    unfold cm_B
    rw [cb_0, decide_eq_false z', Bool.false_and]
section
variable {y m k : Int32}
theorem cm_i64 (p v : Nat) : nI p * 64 + nI v = nI (64 * p + v) := by rw [show (64 : Int32) = nI 64 from rfl, pk_mul, nI_add, Nat.mul_comm]
theorem cy_159 {post : Int32 → SY → Prop} {o b : Nat → Int32} {B : Nat → Bool} {p A T s : Nat} (hp : p < 20) (hA : A < 64) (hT : T < 64) (hs : 1 ≤ s) (hs2 : s ≤ 59) (h : ∀ o', (∀ v, v < 64 → (o' (64 * p + v) = 0 ↔ cm_M B A T s v = false)) → (∀ j, (j < 64 * p ∨ 64 * p + 64 ≤ j) → o' j = o j) → post (nI (cc_cnt (cm_M B A T s) 64)) (y, m, k, o', b)) : ∀ n c (ov : Nat → Int32), c ≤ 64 → 64 - c < n → (∀ v, v < 64 → (ov (64 * p + v) = 0 ↔ (if v < c then cm_M B A T s v else B v) = false)) → (∀ j, (j < 64 * p ∨ 64 * p + 64 ≤ j) → ov j = o j) → wY_allow_159 post (nI s) (nI A) (nI T) (nI p) y m k n (nI (cc_cnt (cm_M B A T s) c)) (nI c) ov b := by
  intro n
  induction n with
  | zero => intro c _ _ h2; omega
  | succ n ih =>
    intro c ov h1 h2 h3 h4
    have fin : ∀ o2 : Nat → Int32, (∀ v, v < 64 → (o2 (64 * p + v) = 0 ↔ (if v < c + 1 then cm_M B A T s v else B v) = false)) → (∀ j, (j < 64 * p ∨ 64 * p + 64 ≤ j) → o2 j = o j) → c < 64 → wY_allow_204 post (wY_allow_159 post (nI s) (nI A) (nI T) (nI p) y m k n) (nI s) (nI A) (nI T) (nI p) (nI (cc_cnt (cm_M B A T s) c)) (nI c) y m k o2 b := by
      intro o2 g1 g2 hc
      have hi := ih (c + 1) o2 (by omega) (by omega) g1 g2
      have g3 := g1 c hc
      rw [if_pos (by omega)] at g3
      unfold wY_allow_204
      rw [cm_i64, nI_clamp (by omega)]
      refine ⟨vp_in_nI (by omega) (by decide), ?_⟩
      cases hM : cm_M B A T s c
      · rw [cc_cnt_f hM] at hi
        exact br_t (g3.mpr hM) (nm_r (nI_1 c) hi)
      · rw [cc_cnt_t hM] at hi
        exact br_f (fun z => by rw [g3.mp z] at hM; exact absurd hM (by decide)) (nm_r (nI_1 _) (nm_r (nI_1 c) hi))
    have keep : c < 64 → cm_M B A T s c = B c → ∀ v, v < 64 → (ov (64 * p + v) = 0 ↔ (if v < c + 1 then cm_M B A T s v else B v) = false) := by
      intro hc e v hv
      rw [h3 v hv]
      by_cases q : v = c
      · subst q
        rw [if_neg (by omega), if_pos (by omega), e]
      · by_cases q2 : v < c
        · rw [if_pos q2, if_pos (by omega)]
        · rw [if_neg q2, if_neg (by omega)]
    refine pk_le 64 c (fun z => ?_) (fun z => ?_)
    · have ec : c = 64 := by omega
      subst ec
      refine h ov (fun v hv => ?_) h4
      have := h3 v hv
      rw [if_pos hv] at this
      exact this
    · refine pk_lt c A (fun q => ?_) (fun q => pk_lt T c (fun q2 => ?_) (fun q2 => ?_))
      · exact fin ov (keep z (by unfold cm_M; rw [decide_eq_false (by omega), Bool.or_false])) h4 z
      · exact fin ov (keep z (by unfold cm_M; rw [decide_eq_false (by omega), Bool.or_false])) h4 z
      · refine ⟨nI_ne0 (by omega) (by omega), ?_⟩
        rw [pk_sub q, pk_rem (by omega) (by omega) (by omega)]
        have hmod : (c - A) % s < s := Nat.mod_lt _ (by omega)
        refine pk_eq ((c - A) % s) 0 (fun g => ?_) (fun g => ?_)
        · rw [cm_i64, nI_clamp (by omega)]
          refine ⟨vp_in_nI (by omega) (by decide), nm_e (fin _ (fun v hv => ?_) (fun j hj => ?_) z)⟩
          · by_cases e : v = c
            · subst e
              rw [pk_us, if_pos (by omega)]
              have hM : cm_M B A T s v = true := by
                unfold cm_M
                rw [decide_eq_true ⟨q, q2, g⟩, Bool.or_true]
              rw [hM]
              exact ⟨fun x => absurd x (by decide), fun x => absurd x (by decide)⟩
            · rw [pk_un (by omega), h3 v hv]
              by_cases e2 : v < c
              · rw [if_pos e2, if_pos (by omega)]
              · rw [if_neg e2, if_neg (by omega)]
          · rw [pk_un (by omega)]
            exact h4 j hj
        · exact fin ov (keep z (by unfold cm_M; rw [decide_eq_false (fun x => g x.2.2), Bool.or_false])) h4 z
theorem cy_108a {post : Int32 → SY → Prop} {o b : Nat → Int32} {p : Nat} {x3 x5 x6 : Int32} (hp : p < 20) (hb : b p = 0) (h : ∃ n, wY_allow_159 post x3 x5 x6 (nI p) y m k n 0 0 o (upd b p 0)) : ∀ n c, c ≤ 64 → 64 - c < n → wY_allow_108 post x3 x5 x6 (nI p) y m k n (nI c) o b := by
  intro n
  induction n with
  | zero => intro c _ h2; omega
  | succ n ih =>
    intro c h1 h2
    unfold wY_allow_108
    rw [nI_clamp (by omega)]
    refine pk_le 64 c (fun z => ⟨vp_in_nI hp (by decide), nm_e h⟩) (fun z => ?_)
    exact ⟨vp_in_nI hp (by decide), br_t hb (nm_r (nI_1 c) (ih (c + 1) (by omega) (by omega)))⟩
theorem cy_108b {post : Int32 → SY → Prop} {o b : Nat → Int32} {p : Nat} {x3 x5 x6 : Int32} (hp : p < 20) (hb : ¬ b p = 0) (h : ∀ o', (∀ v, v < 64 → o' (64 * p + v) = 0) → (∀ j, (j < 64 * p ∨ 64 * p + 64 ≤ j) → o' j = o j) → ∃ n, wY_allow_159 post x3 x5 x6 (nI p) y m k n 0 0 o' (upd b p 0)) : ∀ n c (ov : Nat → Int32), c ≤ 64 → 64 - c < n → (∀ v, v < c → ov (64 * p + v) = 0) → (∀ j, (j < 64 * p ∨ 64 * p + 64 ≤ j) → ov j = o j) → wY_allow_108 post x3 x5 x6 (nI p) y m k n (nI c) ov b := by
  intro n
  induction n with
  | zero => intro c _ _ h2; omega
  | succ n ih =>
    intro c ov h1 h2 h3 h4
    unfold wY_allow_108
    rw [nI_clamp (by omega)]
    refine pk_le 64 c (fun z => ?_) (fun z => ?_)
    · refine ⟨vp_in_nI hp (by decide), nm_e (h ov (fun v hv => h3 v (by omega)) h4)⟩
    · refine ⟨vp_in_nI hp (by decide), br_f hb ?_⟩
      rw [cm_i64, nI_clamp (by omega)]
      refine ⟨vp_in_nI (by omega) (by decide), nm_e (nm_r (nI_1 c) (ih (c + 1) _ (by omega) (by omega) (fun v hv => ?_) (fun j hj => ?_)))⟩
      · by_cases e : v = c
        · subst e
          exact pk_us
        · rw [pk_un (by omega)]
          exact h3 v (by omega)
      · rw [pk_un (by omega)]
        exact h4 j hj
theorem cy_allowG {post : Int32 → SY → Prop} {w : Nat → Int64} {b o : Nat → Int32} {r f a t s : Nat} (hR : cr_R w b o) (ha : a < 2 ^ 31) (ht : t < 2 ^ 31) (er : a / 8 = r) (ef : a % 8 = f) (hr : r < 4) (hf : f < 5) (h1 : cc_lo f ≤ t / 64) (h2 : t % 64 ≤ cc_hi f) (h3 : t / 64 ≤ t % 64) (hs : 1 ≤ s) (hs2 : s ≤ 59) (h : ∀ o', (∀ v, v < 64 → (o' (64 * (5 * r + f) + v) = 0 ↔ cm_M (cm_B w b (5 * r + f)) (t / 64) (t % 64) s v = false)) → (∀ j, (j < 64 * (5 * r + f) ∨ 64 * (5 * r + f) + 64 ≤ j) → o' j = o j) → post (nI (cc_cnt (cm_M (cm_B w b (5 * r + f)) (t / 64) (t % 64) s) 64)) (y, m, k, o', upd b (5 * r + f) 0)) : wpY_allow post (y, m, k, o, b) (nI a) (nI t) (nI s) := by
  have hh := cc_hi_b f
  obtain ⟨p1, p2, p3, p4, p5⟩ := cr_at hR hr hf
  have q1 : nI a / 8 = nI r := by rw [show (8 : Int32) = nI 8 from rfl, pk_div ha (by decide) (by decide), er]
  have q2 : nI a - nI a / 8 * 8 = nI f := by rw [show (8 : Int32) = nI 8 from rfl, pk_rem ha (by decide) (by decide), ef]
  have q3 : nI t / 64 = nI (t / 64) := by rw [show (64 : Int32) = nI 64 from rfl, pk_div ht (by decide) (by decide)]
  have q4 : nI t - nI t / 64 * 64 = nI (t % 64) := by rw [show (64 : Int32) = nI 64 from rfl, pk_rem ht (by decide) (by decide)]
  have q5 : nI a / 8 * 5 + nI f = nI (5 * r + f) := by rw [q1, cr_e5]
  unfold wpY_allow
  dsimp only
  refine br_f (nI_pos ha) ⟨by decide, br_t (by rw [q1]; exact nI_le (b := 3) (by omega) (by decide)) ⟨by decide, nm_r q2 ?_⟩⟩
  refine pk_le f 4 (fun _ => br_t (nI_pos' ht) ?_) (fun z => absurd z (by omega))
  refine ⟨by decide, nm_r q3 ⟨by decide, nm_r q4 ?_⟩⟩
  refine cy_isv hf (fun _ => br_f (by decide) ?_) (fun g => absurd ⟨t / 64, h1, by omega, rfl⟩ g)
  refine cy_isv hf (fun _ => br_f (by decide) ?_) (fun g => absurd ⟨t % 64, by omega, h2, rfl⟩ g)
  refine pk_le (t / 64) (t % 64) (fun _ => ?_) (fun z => absurd z (by omega))
  refine pk_lt s 1 (fun z => absurd z (by omega)) (fun _ => pk_le s 59 (fun _ => ⟨by decide, nm_r q5 ?_⟩) (fun z => absurd z (by omega)))
  have start : ∀ o1 : Nat → Int32, (∀ v, v < 64 → (o1 (64 * (5 * r + f) + v) = 0 ↔ cm_B w b (5 * r + f) v = false)) → (∀ j, (j < 64 * (5 * r + f) ∨ 64 * (5 * r + f) + 64 ≤ j) → o1 j = o j) → ∃ n, wY_allow_159 post (nI s) (nI (t / 64)) (nI (t % 64)) (nI (5 * r + f)) y m k n 0 0 o1 (upd b (5 * r + f) 0) := by
    intro o1 g1 g2
    exact ⟨_, cy_159 (by omega) (by omega) (by omega) hs hs2 h 65 0 o1 (by omega) (by omega) (fun v hv => by rw [if_neg (by omega)]; exact g1 v hv) g2⟩
  rcases p1 with z | z
  · refine ⟨_, cy_108a (by omega) z (start o (fun v hv => ?_) (fun j _ => rfl)) 65 0 (by omega) (by omega)⟩
    have hq := p4 z v hv
    dsimp only at hq
    rw [hq]
    unfold cm_B
    rw [decide_eq_true z, Bool.true_and]
  · have z' : ¬ b (5 * r + f) = 0 := by rw [z]; decide
    refine ⟨_, cy_108b (by omega) z' (fun o1 g1 g2 => start o1 (fun v hv => ?_) g2) 65 0 o (by omega) (by omega) (fun v hv => absurd hv (by omega)) (fun j _ => rfl)⟩
    unfold cm_B
    rw [decide_eq_false z', Bool.false_and]
    exact ⟨fun _ => rfl, fun _ => g1 v hv⟩
end
end
section
/-! allow, joined -/
theorem cm_neg {x : Int32} (s : Int32) (j : Nat) (hs : (s.toBitVec.smod 32).toNat = j) (h : x < 0) : x >>> s < 0 := by
  rw [ci_neg] at h ⊢
  rw [pk_shr x s j hs, Int.shiftRight_eq_div_pow]
  exact Int.ediv_neg_of_neg_of_pos h (by exact_mod_cast Nat.two_pow_pos j)
section
variable {w : Nat → Int64} {b : Nat → Int32} {r f a t : Nat} {x : Int32}
theorem cx_allow3 {post : Int32 → SX → Prop} (ha : a < 2 ^ 31) (ht : t < 2 ^ 31) (er : a / 8 = r) (ef : a % 8 = f) (hr : r < 4) (hf : f < 5) (g : ¬ (cc_lo f ≤ t / 64 ∧ t % 64 ≤ cc_hi f ∧ t / 64 ≤ t % 64)) (h : post (-3) (w, b)) : wpX_allow post (w, b) (nI a) (nI t) x := by
  have hh := cc_hi_b f
  unfold wpX_allow
  dsimp only
  refine nm_r (cm_e8 ha) (nm_r (cm_a7 ha) ?_)
  rw [er, ef]
  refine cx_rule (fun _ => br_f (by decide) ?_) (fun g => absurd ⟨r, hr, rfl⟩ g)
  refine cx_field (fun _ => br_f (by decide) ?_) (fun g => absurd ⟨f, hf, rfl⟩ g)
  refine nm_r (cm_e64 ht) (nm_r (cm_a63 ht) ?_)
  refine cx_isv hf (fun c1 => br_f (by decide) ?_) (fun _ => br_t rfl h)
  refine cx_isv hf (fun c2 => br_f (by decide) ?_) (fun _ => br_t rfl h)
  obtain ⟨x1, a1, a2, e1⟩ := c1
  obtain ⟨x2, b1, b2, e2⟩ := c2
  have e1' := (nI_eq (by omega) (by omega)).mp e1
  have e2' := (nI_eq (by omega) (by omega)).mp e2
  exact pk_le (t / 64) (t % 64) (fun z => absurd ⟨by omega, by omega, z⟩ g) (fun _ => h)
theorem cx_allow4 {post : Int32 → SX → Prop} (ha : a < 2 ^ 31) (ht : t < 2 ^ 31) (er : a / 8 = r) (ef : a % 8 = f) (hr : r < 4) (hf : f < 5) (g : cc_lo f ≤ t / 64 ∧ t % 64 ≤ cc_hi f ∧ t / 64 ≤ t % 64) (gx : x < 1 ∨ ¬ x ≤ 59) (h : post (-4) (w, b)) : wpX_allow post (w, b) (nI a) (nI t) x := by
  have hh := cc_hi_b f
  unfold wpX_allow
  dsimp only
  refine nm_r (cm_e8 ha) (nm_r (cm_a7 ha) ?_)
  rw [er, ef]
  refine cx_rule (fun _ => br_f (by decide) ?_) (fun g => absurd ⟨r, hr, rfl⟩ g)
  refine cx_field (fun _ => br_f (by decide) ?_) (fun g => absurd ⟨f, hf, rfl⟩ g)
  refine nm_r (cm_e64 ht) (nm_r (cm_a63 ht) ?_)
  refine cx_isv hf (fun c1 => br_f (by decide) ?_) (fun q => absurd ⟨_, g.1, by omega, rfl⟩ q)
  refine cx_isv hf (fun c2 => br_f (by decide) ?_) (fun q => absurd ⟨_, by omega, g.2.1, rfl⟩ q)
  refine pk_le (t / 64) (t % 64) (fun z => ?_) (fun z => absurd z (by omega))
  by_cases z1 : x < 1
  · exact br_t z1 h
  · exact br_f z1 (br_f (gx.resolve_left z1) h)
end
section
variable {y m k : Int32} {b o : Nat → Int32} {r f a t : Nat} {x : Int32}
theorem cy_allow3 {post : Int32 → SY → Prop} (ha : a < 2 ^ 31) (ht : t < 2 ^ 31) (er : a / 8 = r) (ef : a % 8 = f) (hr : r < 4) (hf : f < 5) (g : ¬ (cc_lo f ≤ t / 64 ∧ t % 64 ≤ cc_hi f ∧ t / 64 ≤ t % 64)) (h : post (-3) (y, m, k, o, b)) : wpY_allow post (y, m, k, o, b) (nI a) (nI t) x := by
  have hh := cc_hi_b f
  have q1 : nI a / 8 = nI r := by rw [show (8 : Int32) = nI 8 from rfl, pk_div ha (by decide) (by decide), er]
  have q2 : nI a - nI a / 8 * 8 = nI f := by rw [show (8 : Int32) = nI 8 from rfl, pk_rem ha (by decide) (by decide), ef]
  have q3 : nI t / 64 = nI (t / 64) := by rw [show (64 : Int32) = nI 64 from rfl, pk_div ht (by decide) (by decide)]
  have q4 : nI t - nI t / 64 * 64 = nI (t % 64) := by rw [show (64 : Int32) = nI 64 from rfl, pk_rem ht (by decide) (by decide)]
  unfold wpY_allow
  dsimp only
  refine br_f (nI_pos ha) ⟨by decide, br_t (by rw [q1]; exact nI_le (b := 3) (by omega) (by decide)) ⟨by decide, nm_r q2 ?_⟩⟩
  refine pk_le f 4 (fun _ => br_t (nI_pos' ht) ?_) (fun z => absurd z (by omega))
  refine ⟨by decide, nm_r q3 ⟨by decide, nm_r q4 ?_⟩⟩
  refine cy_isv hf (fun c1 => br_f (by decide) ?_) (fun _ => br_t rfl h)
  refine cy_isv hf (fun c2 => br_f (by decide) ?_) (fun _ => br_t rfl h)
  obtain ⟨x1, a1, a2, e1⟩ := c1
  obtain ⟨x2, b1, b2, e2⟩ := c2
  have e1' := (nI_eq (by omega) (by omega)).mp e1
  have e2' := (nI_eq (by omega) (by omega)).mp e2
  exact pk_le (t / 64) (t % 64) (fun z => absurd ⟨by omega, by omega, z⟩ g) (fun _ => h)
theorem cy_allow4 {post : Int32 → SY → Prop} (ha : a < 2 ^ 31) (ht : t < 2 ^ 31) (er : a / 8 = r) (ef : a % 8 = f) (hr : r < 4) (hf : f < 5) (g : cc_lo f ≤ t / 64 ∧ t % 64 ≤ cc_hi f ∧ t / 64 ≤ t % 64) (gx : x < 1 ∨ ¬ x ≤ 59) (h : post (-4) (y, m, k, o, b)) : wpY_allow post (y, m, k, o, b) (nI a) (nI t) x := by
  have hh := cc_hi_b f
  have q1 : nI a / 8 = nI r := by rw [show (8 : Int32) = nI 8 from rfl, pk_div ha (by decide) (by decide), er]
  have q2 : nI a - nI a / 8 * 8 = nI f := by rw [show (8 : Int32) = nI 8 from rfl, pk_rem ha (by decide) (by decide), ef]
  have q3 : nI t / 64 = nI (t / 64) := by rw [show (64 : Int32) = nI 64 from rfl, pk_div ht (by decide) (by decide)]
  have q4 : nI t - nI t / 64 * 64 = nI (t % 64) := by rw [show (64 : Int32) = nI 64 from rfl, pk_rem ht (by decide) (by decide)]
  unfold wpY_allow
  dsimp only
  refine br_f (nI_pos ha) ⟨by decide, br_t (by rw [q1]; exact nI_le (b := 3) (by omega) (by decide)) ⟨by decide, nm_r q2 ?_⟩⟩
  refine pk_le f 4 (fun _ => br_t (nI_pos' ht) ?_) (fun z => absurd z (by omega))
  refine ⟨by decide, nm_r q3 ⟨by decide, nm_r q4 ?_⟩⟩
  refine cy_isv hf (fun c1 => br_f (by decide) ?_) (fun q => absurd ⟨_, g.1, by omega, rfl⟩ q)
  refine cy_isv hf (fun c2 => br_f (by decide) ?_) (fun q => absurd ⟨_, by omega, g.2.1, rfl⟩ q)
  refine pk_le (t / 64) (t % 64) (fun z => ?_) (fun z => absurd z (by omega))
  by_cases z1 : x < 1
  · exact br_t z1 h
  · exact br_f z1 (br_f (gx.resolve_left z1) h)
end
theorem cr_allow {w : Nat → Int64} {b o o' : Nat → Int32} {r f A T s : Nat} {M : Int64} (hR : cr_R w b o) (hr : r < 4) (hf : f < 5) (h1 : cc_lo f ≤ A) (h2 : T ≤ cc_hi f) (h3 : A ≤ T) (hM : ∀ v, v < 64 → cb_b M v = cm_M (cm_B w b (5 * r + f)) A T s v) (ho : ∀ v, v < 64 → (o' (64 * (5 * r + f) + v) = 0 ↔ cm_M (cm_B w b (5 * r + f)) A T s v = false)) (hj : ∀ j, (j < 64 * (5 * r + f) ∨ 64 * (5 * r + f) + 64 ≤ j) → o' j = o j) : cr_R (vp_updL w (5 * r + f) M) (upd b (5 * r + f) 0) o' := by
  have hh := cc_hi_b f
  obtain ⟨p1, p2, p3, p4, p5⟩ := cr_at hR hr hf
  refine cr_set hR ?_ hj
  rw [show (5 * r + f) % 5 = f by omega]
  refine ⟨Or.inl rfl, fun v hv e => ?_, fun z => absurd z (by decide), fun _ v hv => ?_, A, by omega, ?_⟩
  · rw [hM v hv] at e
    unfold cm_M cm_B at e
    rw [Bool.or_eq_true, Bool.and_eq_true] at e
    rcases e with e | e
    · exact p2 v hv e.2
    · have := of_decide_eq_true e
      omega
  · dsimp only
    rw [ho v hv, hM v hv]
  · rw [hM A (by omega)]
    unfold cm_M
    rw [decide_eq_true ⟨by omega, h3, by rw [Nat.sub_self, Nat.zero_mod]⟩, Bool.or_true]
theorem i_vc_allow {k : Nat} {u : SX} {v : SY} (I : i_Rel k u v) (hk : k + 4 ≤ 2048) (v1 : Int32) (v2 : Int32) (v3 : Int32) : wpX_allow (fun r u' => wpY_allow (fun r' v' => r' = r ∧ i_Rel (k + 4) u' v') v v1 v2 v3) u v1 v2 v3 := by
  obtain ⟨w, b⟩ := u
  obtain ⟨y, m, q, o, b'⟩ := v
  obtain ⟨e, hR⟩ := I
  have e' : b = b' := e
  subst e'
  have hR' : cr_R w b o := hR
  by_cases z1 : v1 < 0
  · unfold wpX_allow wpY_allow
    dsimp only
    refine nm_e (nm_e (cx_rule (fun g => absurd g (cf_neg (by decide) (cm_neg _ 3 (by decide) z1))) (fun _ => br_t rfl ?_)))
    exact br_t z1 ⟨rfl, rfl, hR⟩
  · obtain ⟨a, ha, rfl⟩ := nI_of z1
    have q1 : nI a / 8 = nI (a / 8) := by rw [show (8 : Int32) = nI 8 from rfl, pk_div ha (by decide) (by decide)]
    have q2 : nI a - nI a / 8 * 8 = nI (a % 8) := by rw [show (8 : Int32) = nI 8 from rfl, pk_rem ha (by decide) (by decide)]
    by_cases hr : a / 8 < 4
    · by_cases hf : a % 8 < 5
      · by_cases z2 : v2 < 0
        · unfold wpX_allow wpY_allow
          dsimp only
          refine nm_r (cm_e8 ha) (nm_r (cm_a7 ha) ?_)
          refine cx_rule (fun _ => br_f (by decide) ?_) (fun g => absurd ⟨_, hr, rfl⟩ g)
          refine cx_field (fun _ => br_f (by decide) ?_) (fun g => absurd ⟨_, hf, rfl⟩ g)
          refine nm_e (nm_e (cx_isv hf (fun g => absurd g (cf_inneg (cm_neg _ 6 (by decide) z2))) (fun _ => br_t rfl ?_)))
          refine br_f z1 ⟨by decide, br_t (by rw [q1]; exact nI_le (b := 3) (by omega) (by decide)) ⟨by decide, nm_r q2 ?_⟩⟩
          exact pk_le (a % 8) 4 (fun _ => br_f (by rw [Int32.not_le]; exact z2) ⟨rfl, rfl, hR⟩) (fun z => absurd z (by omega))
        · obtain ⟨t, ht, rfl⟩ := nI_of z2
          by_cases g : cc_lo (a % 8) ≤ t / 64 ∧ t % 64 ≤ cc_hi (a % 8) ∧ t / 64 ≤ t % 64
          · by_cases gx : v3 < 1 ∨ ¬ v3 ≤ 59
            · exact cx_allow4 ha ht rfl rfl hr hf g gx (cy_allow4 ha ht rfl rfl hr hf g gx ⟨rfl, rfl, hR⟩)
            · have x1 : ¬ v3 < 1 := fun z => gx (Or.inl z)
              have x2 : v3 ≤ 59 := Classical.byContradiction (fun z => gx (Or.inr z))
              have x0 : ¬ v3 < 0 := fun z => x1 (Int32.lt_trans z (by decide))
              obtain ⟨s, hs, rfl⟩ := nI_of x0
              have s1 : ¬ s < 1 := fun z => x1 ((nI_ltI hs (by decide)).mpr z)
              have s2 : s ≤ 59 := (nI_leI hs (by decide)).mp x2
              refine cx_allowG hR' ha ht rfl rfl hr hf g.1 g.2.1 g.2.2 (by omega) s2 (fun M hM => ?_)
              refine cy_allowG hR' ha ht rfl rfl hr hf g.1 g.2.1 g.2.2 (by omega) s2 (fun o' ho hj => ⟨rfl, rfl, ?_⟩)
              exact cr_allow hR' hr hf g.1 g.2.1 g.2.2 hM ho hj
          · exact cx_allow3 ha ht rfl rfl hr hf g (cy_allow3 ha ht rfl rfl hr hf g ⟨rfl, rfl, hR⟩)
      · unfold wpX_allow wpY_allow
        dsimp only
        refine nm_r (cm_e8 ha) (nm_r (cm_a7 ha) ?_)
        refine cx_rule (fun _ => br_f (by decide) ?_) (fun g => absurd ⟨_, hr, rfl⟩ g)
        refine cx_field (fun g => absurd g (cf_big (by omega) (by decide) (by omega))) (fun _ => br_t rfl ?_)
        refine br_f z1 ⟨by decide, br_t (by rw [q1]; exact nI_le (b := 3) (by omega) (by decide)) ⟨by decide, nm_r q2 ?_⟩⟩
        exact pk_le (a % 8) 4 (fun z => absurd z (by omega)) (fun _ => ⟨rfl, rfl, hR⟩)
    · unfold wpX_allow wpY_allow
      dsimp only
      refine nm_r (cm_e8 ha) (nm_r (cm_a7 ha) ?_)
      refine cx_rule (fun g => absurd g (cf_big (by omega) (by decide) (by omega))) (fun _ => br_t rfl ?_)
      refine br_f z1 ⟨by decide, br_f (by rw [q1]; exact nI_ge (a := 3) (by omega) (by omega)) ⟨rfl, rfl, hR⟩⟩
end
section
/-! the component's searches -/
theorem cl_div {S : Nat} (hS : S < 2 ^ 62) : (lN S / 1440).toInt32 = nI (S / 1440) := by rw [show (1440 : Int64) = lN 1440 from rfl, pk_lDiv (by omega) (by decide) (by decide), lN_i]
theorem cl_rem {S : Nat} (hS : S < 2 ^ 62) : (lN S - lN S / 1440 * 1440).toInt32 = nI (S % 1440) := by rw [show (1440 : Int64) = lN 1440 from rfl, pk_lRem (by omega) (by decide) (by decide), lN_i]
theorem cl_min {d t : Nat} (hd : d < 2 ^ 30) (ht : t < 2 ^ 30) : 1440 * (nI d).toInt64 + (nI t).toInt64 = lN (1440 * d + t) := by rw [nI_l (by omega), nI_l (by omega), show (1440 : Int64) = lN 1440 from rfl, lN_mul, lN_add]
theorem cl_ne {d : Nat} (hd : d < 2 ^ 31) : ¬ nI d = -1 := fun e => nI_pos hd (by rw [e]; decide)
theorem cd_ne {w : Nat → Int64} {b o : Nat → Int32} {r : Nat} (hR : cr_R w b o) (hr : r < 4) : ∃ t, t < 1440 ∧ cd_tf w r t = true := by
  obtain ⟨_, a2, _, _, h, h1, h2⟩ := cr_at hR hr (show 1 < 5 by decide)
  obtain ⟨_, b2, _, _, m, m1, m2⟩ := cr_at hR hr (show 0 < 5 by decide)
  have ah : h ≤ 23 := (a2 h h1 h2).2
  have am : m ≤ 59 := (b2 m m1 m2).2
  refine ⟨60 * h + m, by omega, ?_⟩
  unfold cd_tf
  rw [show (60 * h + m) / 60 = h by omega, show (60 * h + m) % 60 = m by omega, h2, m2]
  rfl
theorem cd_in {w : Nat → Int64} {b : Nat → Int32} {r n d : Nat} (h1 : cc_MF n ≤ d) (h2 : d < cc_MF (n + 1)) (hn : n < 4800) : cd_df w b r d = (cd_mf w r n && cd_dm w b r (d - cc_MF n + 1) d) := by
  unfold cd_df
  rw [cc_at_u (d := d) (n := n) ⟨h1, h2, hn⟩]
section
variable {w : Nat → Int64} {b : Nat → Int32} {r : Nat}
theorem cx_fft_l {post : Int32 → Prop} {t0 : Nat} (hr : r < 4) (h : ∀ x, cs_U (cd_tf w r) t0 1440 x → post x) : ∀ n t, t0 ≤ t → t ≤ 1440 → 1440 - t < n → (∀ i, t0 ≤ i → i < t → cd_tf w r i = false) → wX_firstFittingTime_2 post (nI r) w b n (nI t) := by
  intro n
  induction n with
  | zero => intro t _ _ h2; omega
  | succ n ih =>
    intro t h0 h1 h2 h3
    refine pk_le 1440 t (fun z => ?_) (fun z => ?_)
    · exact h _ (Or.inr ⟨fun i a c => h3 i a (by omega), rfl⟩)
    · refine cx_tf hr z (cb_z (fun q => ?_) (fun q => ?_))
      · refine nm_r (nI_1 t) (ih (t + 1) (by omega) (by omega) (by omega) (fun i a c => ?_))
        by_cases e : i = t
        · rw [e]; exact q
        · exact h3 i a (by omega)
      · exact h _ (Or.inl ⟨t, h0, z, q, h3, rfl⟩)
theorem cx_fft {post : Int32 → Prop} {t0 : Nat} (hr : r < 4) (ht : t0 < 1440) (h : ∀ x, cs_U (cd_tf w r) t0 1440 x → post x) : wpX_firstFittingTime post (w, b) (nI r) (nI t0) :=
  ⟨_, cx_fft_l hr h 1441 t0 (by omega) (by omega) (by omega) (fun i a c => absurd a (by omega))⟩
theorem cx_lft_l {post : Int32 → Prop} {t0 : Nat} (hr : r < 4) (ht : t0 < 1440) (h : ∀ x, cs_V (cd_tf w r) 0 (t0 + 1) x → post x) : ∀ n c, c ≤ t0 + 1 → c < n → (∀ i, c ≤ i → i < t0 + 1 → cd_tf w r i = false) → wX_lastFittingTime_2 post (nI r) w b n (nI c + (-1)) := by
  intro n
  induction n with
  | zero => intro c _ h2; omega
  | succ n ih =>
    intro c h1 h2 h3
    cases c with
    | zero => exact br_t (by decide) (h _ (Or.inr ⟨fun i a e => h3 i a e, rfl⟩))
    | succ t =>
      rw [pk_m1]
      refine br_f (nI_pos (by omega)) (cx_tf hr (by omega) (cb_z (fun q => ?_) (fun q => ?_)))
      · refine nm_e (ih t (by omega) (by omega) (fun i a c => ?_))
        by_cases e : i = t
        · rw [e]; exact q
        · exact h3 i (by omega) c
      · exact h _ (Or.inl ⟨t, Nat.zero_le _, by omega, q, fun i a c => h3 i a c, rfl⟩)
theorem cx_lft {post : Int32 → Prop} {t0 : Nat} (hr : r < 4) (ht : t0 < 1440) (h : ∀ x, cs_V (cd_tf w r) 0 (t0 + 1) x → post x) : wpX_lastFittingTime post (w, b) (nI r) (nI t0) := by
  have hx := cx_lft_l (b := b) hr ht h (t0 + 2) (t0 + 1) (by omega) (by omega) (fun i a c => absurd a (by omega))
  rw [pk_m1] at hx
  exact ⟨_, hx⟩
variable {o : Nat → Int32}
theorem cx_fdm_l {post : Int32 → Prop} {n s : Nat} (hR : cr_R w b o) (hr : r < 4) (hn : n < 4800) (hm : cd_mf w r n = true) (hs : cc_MF n ≤ s) (h : ∀ x, cs_U (cd_df w b r) s (cc_MF (n + 1)) x → post x) : ∀ e d, s ≤ d → d ≤ cc_MF (n + 1) → cc_MF (n + 1) - d < e → (∀ i, s ≤ i → i < d → cd_df w b r i = false) → wX_firstFittingDayOfMonth_28 post (nI r) (nI (cc_MF n)) (nI (cc_MF (n + 1))) w b e (nI d) := by
  have hM := cc_MF_le (n := n + 1) (by omega)
  have hS := (cc_MF_s n).2
  have b2 := (cr_at hR hr (show 2 < 5 by decide)).1
  have b4 := (cr_at hR hr (show 4 < 5 by decide)).1
  intro e
  induction e with
  | zero => intro d _ _ h2; omega
  | succ e ih =>
    intro d h0 h1 h2 h3
    refine pk_le (cc_MF (n + 1)) d (fun z => ?_) (fun z => ?_)
    · exact h _ (Or.inr ⟨fun i a c => h3 i a (by omega), rfl⟩)
    · have ed : cd_df w b r d = cd_dm w b r (d - cc_MF n + 1) d := by rw [cd_in (n := n) (by omega) z hn, hm, Bool.true_and]
      have e1 : nI d - nI (cc_MF n) + 1 = nI (d - cc_MF n + 1) := by rw [pk_sub (by omega), nI_1]
      rw [e1]
      refine cx_dom hr (by omega) (by omega) b2 b4 (cb_z (fun q => ?_) (fun q => ?_))
      · refine nm_r (nI_1 d) (ih (d + 1) (by omega) (by omega) (by omega) (fun i a c => ?_))
        by_cases g : i = d
        · rw [g, ed]; exact q
        · exact h3 i a (by omega)
      · exact h _ (Or.inl ⟨d, h0, z, by rw [ed]; exact q, h3, rfl⟩)
/-- the later of two -/
def cs_mx (a c : Nat) : Nat := if a ≤ c then c else a
theorem cx_fdm {post : Int32 → Prop} {n s : Nat} (hR : cr_R w b o) (hr : r < 4) (hn : n < 4800) (hm : cd_mf w r n = true) (hs : s < cc_MF (n + 1)) (h : ∀ x, cs_U (cd_df w b r) (cs_mx s (cc_MF n)) (cc_MF (n + 1)) x → post x) : wpX_firstFittingDayOfMonth post (w, b) (nI r) (nI n) (nI s) := by
  have hM := cc_MF_le (n := n + 1) (by omega)
  have hS := (cc_MF_s n).1
  unfold wpX_firstFittingDayOfMonth
  dsimp only
  refine cx_first (by omega) ?_
  rw [nI_1]
  refine cx_first (by omega) ?_
  refine pk_le s (cc_MF n) (fun z => ?_) (fun z => ?_)
  · rw [cs_mx, if_pos z] at h
    exact ⟨_, cx_fdm_l hR hr hn hm (Nat.le_refl _) h (cc_MF (n + 1) + 1) (cc_MF n) (by omega) (by omega) (by omega) (fun i a c => absurd a (by omega))⟩
  · rw [cs_mx, if_neg (by omega)] at h
    exact ⟨_, cx_fdm_l hR hr hn hm (by omega) h (cc_MF (n + 1) + 1) s (by omega) (by omega) (by omega) (fun i a c => absurd a (by omega))⟩
theorem cd_noM {n d : Nat} (h1 : cc_MF n ≤ d) (h2 : d < cc_MF (n + 1)) (hn : n < 4800) (hm : cd_mf w r n = false) : cd_df w b r d = false := by rw [cd_in h1 h2 hn, hm, Bool.false_and]
theorem cx_ffd_l {post : Int32 → Prop} {s : Nat} (hR : cr_R w b o) (hr : r < 4) (hs : s < 146097) (h : ∀ x, cs_U (cd_df w b r) s 146097 x → post x) : ∀ e n, n ≤ 4800 → s < cc_MF (n + 1) → 4800 - n < e → (∀ i, s ≤ i → i < cc_MF n → cd_df w b r i = false) → wX_firstFittingDay_14 post (nI r) (nI s) w b e (nI n) := by
  intro e
  induction e with
  | zero => intro n _ _ h2; omega
  | succ e ih =>
    intro n h1 h0 h2 h3
    refine pk_le 4800 n (fun z => ?_) (fun z => ?_)
    · have en : n = 4800 := by omega
      rw [en, cc_end] at h3
      exact h _ (Or.inr ⟨h3, rfl⟩)
    · have hS := (cc_MF_s (n + 1)).1
      have hM := cc_MF_le (n := n + 1) (by omega)
      have step : (∀ i, s ≤ i → i < cc_MF (n + 1) → cd_df w b r i = false) → wX_firstFittingDay_14 post (nI r) (nI s) w b e (nI (n + 1)) := fun g => ih (n + 1) (by omega) (by omega) (by omega) g
      refine cx_mfit hr z (cb_z (fun q => ?_) (fun q => ?_))
      · refine nm_r (nI_1 n) (step (fun i a c => ?_))
        rcases Nat.lt_or_ge i (cc_MF n) with g | g
        · exact h3 i a g
        · exact cd_noM g c z q
      · refine cx_fdm hR hr z q h0 (fun x hx => ?_)
        have low : ∀ i, s ≤ i → i < cs_mx s (cc_MF n) → cd_df w b r i = false := by
          intro i a c
          unfold cs_mx at c
          split at c
          · exact h3 i a c
          · omega
        have mx : s ≤ cs_mx s (cc_MF n) := by
          unfold cs_mx
          split <;> omega
        rcases hx with ⟨d, d1, d2, d3, d4, rfl⟩ | ⟨d1, rfl⟩
        · refine br_f (cl_ne (by omega)) (h _ (Or.inl ⟨d, by omega, by omega, d3, fun i a c => ?_, rfl⟩))
          rcases Nat.lt_or_ge i (cs_mx s (cc_MF n)) with g | g
          · exact low i a g
          · exact d4 i g c
        · refine br_t rfl (nm_r (nI_1 n) (step (fun i a c => ?_)))
          rcases Nat.lt_or_ge i (cs_mx s (cc_MF n)) with g | g
          · exact low i a g
          · exact d1 i g c
theorem cx_ffd {post : Int32 → Prop} {s : Nat} (hR : cr_R w b o) (hr : r < 4) (hs : s ≤ 146097) (h : ∀ x, cs_U (cd_df w b r) s 146097 x → post x) : wpX_firstFittingDay post (w, b) (nI r) (nI s) := by
  unfold wpX_firstFittingDay
  dsimp only
  refine cx_day (fun c => br_f (by decide) ?_) (fun c => br_t rfl (h _ (Or.inr ⟨fun i a e => absurd ⟨s, by omega, rfl⟩ c, rfl⟩)))
  have hs2 : s < 146097 := by
    obtain ⟨d, hd, e⟩ := c
    have := (nI_eq (by omega) (by omega)).mp e
    omega
  have ha := cc_at hs2
  refine cx_mno hs2 ⟨_, cx_ffd_l hR hr hs2 h 4801 (cc_mo s) (by have := ha.2.2; omega) ha.2.1 (by omega) (fun i a c => ?_)⟩
  have := ha.1
  omega
/-! down -/
theorem cx_ldm_l {post : Int32 → Prop} {n c0 : Nat} (hR : cr_R w b o) (hr : r < 4) (hn : n < 4800) (hm : cd_mf w r n = true) (hc : c0 ≤ cc_MF (n + 1)) (h : ∀ x, cs_V (cd_df w b r) (cc_MF n) c0 x → post x) : ∀ e c, cc_MF n ≤ c → c ≤ c0 → c - cc_MF n < e → (∀ i, c ≤ i → i < c0 → cd_df w b r i = false) → wX_lastFittingDayOfMonth_30 post (nI r) (nI (cc_MF n)) w b e (nI c + (-1)) := by
  have hM := cc_MF_le (n := n + 1) (by omega)
  have hS := (cc_MF_s n).2
  have b2 := (cr_at hR hr (show 2 < 5 by decide)).1
  have b4 := (cr_at hR hr (show 4 < 5 by decide)).1
  intro e
  induction e with
  | zero => intro c _ _ h2; omega
  | succ e ih =>
    intro c h0 h1 h2 h3
    by_cases g : c = cc_MF n
    · have lt : nI c + (-1) < nI (cc_MF n) := by
        rw [← g]
        cases c with
        | zero => decide
        | succ d =>
          rw [pk_m1]
          exact nI_lt (by omega) (by omega)
      exact br_t lt (h _ (Or.inr ⟨fun i a q => h3 i (by omega) q, rfl⟩))
    · obtain ⟨d, rfl⟩ : ∃ d, c = d + 1 := ⟨c - 1, by omega⟩
      rw [pk_m1]
      have ed : cd_df w b r d = cd_dm w b r (d - cc_MF n + 1) d := by rw [cd_in (n := n) (by omega) (by omega) hn, hm, Bool.true_and]
      have e1 : nI d - nI (cc_MF n) + 1 = nI (d - cc_MF n + 1) := by rw [pk_sub (by omega), nI_1]
      unfold wX_lastFittingDayOfMonth_30
      rw [e1]
      refine br_f (nI_nlt (by omega) (by omega)) (cx_dom hr (by omega) (by omega) b2 b4 (cb_z (fun q => ?_) (fun q => ?_)))
      · refine nm_e (ih d (by omega) (by omega) (by omega) (fun i a k => ?_))
        by_cases z : i = d
        · rw [z, ed]; exact q
        · exact h3 i (by omega) k
      · exact h _ (Or.inl ⟨d, by omega, by omega, by rw [ed]; exact q, fun i a k => h3 i a k, rfl⟩)
/-- the earlier of two -/
def cs_mn (a c : Nat) : Nat := if c ≤ a then c else a
theorem cx_ldm {post : Int32 → Prop} {n s : Nat} (hR : cr_R w b o) (hr : r < 4) (hn : n < 4800) (hm : cd_mf w r n = true) (hs : cc_MF n ≤ s) (hs2 : s < 146097) (h : ∀ x, cs_V (cd_df w b r) (cc_MF n) (cs_mn (s + 1) (cc_MF (n + 1))) x → post x) : wpX_lastFittingDayOfMonth post (w, b) (nI r) (nI n) (nI s) := by
  have hM := cc_MF_le (n := n + 1) (by omega)
  have hS := (cc_MF_s n).1
  unfold wpX_lastFittingDayOfMonth
  dsimp only
  refine cx_first (by omega) ?_
  rw [nI_1]
  refine cx_first (by omega) (nm_r (e' := nI (cc_MF (n + 1) - 1)) (by rw [show (1 : Int32) = nI 1 from rfl, pk_sub (by omega)]) ?_)
  refine pk_le (cc_MF (n + 1) - 1) s (fun z => ?_) (fun z => ?_)
  · rw [cs_mn, if_pos (by omega)] at h
    have hx := cx_ldm_l hR hr hn hm (Nat.le_refl _) h (cc_MF (n + 1) + 1) (cc_MF (n + 1)) (by omega) (by omega) (by omega) (fun i a c => absurd a (by omega))
    rw [show cc_MF (n + 1) = cc_MF (n + 1) - 1 + 1 by omega, pk_m1] at hx
    exact ⟨_, hx⟩
  · rw [cs_mn, if_neg (by omega)] at h
    have hx := cx_ldm_l hR hr hn hm (by omega) h (s + 2) (s + 1) (by omega) (by omega) (by omega) (fun i a c => absurd a (by omega))
    rw [pk_m1] at hx
    exact ⟨_, hx⟩
theorem cx_lfd_l {post : Int32 → Prop} {s : Nat} (hR : cr_R w b o) (hr : r < 4) (hs : s < 146097) (h : ∀ x, cs_V (cd_df w b r) 0 (s + 1) x → post x) : ∀ e c, c ≤ cc_mo s + 1 → c < e → (∀ i, cc_MF c ≤ i → i < s + 1 → cd_df w b r i = false) → wX_lastFittingDay_14 post (nI r) (nI s) w b e (nI c + (-1)) := by
  have ha := cc_at hs
  have ha2 := ha.2.2
  have ha1 := ha.1
  intro e
  induction e with
  | zero => intro c _ h2; omega
  | succ e ih =>
    intro c h1 h2 h3
    cases c with
    | zero => exact br_t (by decide) (h _ (Or.inr ⟨fun i a q => h3 i a q, rfl⟩))
    | succ n =>
      rw [pk_m1]
      have hM := cc_MF_mono (show n ≤ cc_mo s by omega)
      have step : (∀ i, cc_MF n ≤ i → i < s + 1 → cd_df w b r i = false) → wX_lastFittingDay_14 post (nI r) (nI s) w b e (nI n + (-1)) := fun g => ih n (by omega) (by omega) g
      refine br_f (nI_pos (by omega)) (cx_mfit hr (by omega) (cb_z (fun q => ?_) (fun q => ?_)))
      · refine nm_e (step (fun i a c => ?_))
        rcases Nat.lt_or_ge i (cc_MF (n + 1)) with g | g
        · exact cd_noM a g (by omega) q
        · exact h3 i g c
      · refine cx_ldm hR hr (by omega) q (by omega) hs (fun x hx => ?_)
        have high : ∀ i, cs_mn (s + 1) (cc_MF (n + 1)) ≤ i → i < s + 1 → cd_df w b r i = false := by
          intro i a c
          unfold cs_mn at a
          split at a
          · exact h3 i a c
          · omega
        have mn : cs_mn (s + 1) (cc_MF (n + 1)) ≤ s + 1 := by
          unfold cs_mn
          split <;> omega
        rcases hx with ⟨d, d1, d2, d3, d4, rfl⟩ | ⟨d1, rfl⟩
        · refine br_f (cl_ne (by omega)) (h _ (Or.inl ⟨d, Nat.zero_le _, by omega, d3, fun i a c => ?_, rfl⟩))
          rcases Nat.lt_or_ge i (cs_mn (s + 1) (cc_MF (n + 1))) with g | g
          · exact d4 i a g
          · exact high i g c
        · refine br_t rfl (nm_e (step (fun i a c => ?_)))
          rcases Nat.lt_or_ge i (cs_mn (s + 1) (cc_MF (n + 1))) with g | g
          · exact d1 i a g
          · exact high i g c
theorem cx_lfd {post : Int32 → Prop} {d : Nat} (hR : cr_R w b o) (hr : r < 4) (hd : d ≤ 146097) (h : ∀ x, cs_V (cd_df w b r) 0 d x → post x) : wpX_lastFittingDay post (w, b) (nI r) (nI d - 1) := by
  unfold wpX_lastFittingDay
  dsimp only
  cases d with
  | zero => exact cx_day (fun c => absurd c (cf_neg (by decide) (by decide))) (fun c => br_t rfl (h _ (Or.inr ⟨fun i a e => absurd e (by omega), rfl⟩)))
  | succ s =>
    rw [nI_pred]
    have ha := cc_at (show s < 146097 by omega)
    refine cx_day (fun c => br_f (by decide) ?_) (fun c => absurd ⟨s, by omega, rfl⟩ c)
    have hx := cx_lfd_l hR hr (show s < 146097 by omega) h (cc_mo s + 2) (cc_mo s + 1) (by omega) (by omega) (fun i a c => by have := ha.2.1; omega)
    rw [pk_m1] at hx
    exact cx_mno (by omega) ⟨_, hx⟩
end
end
section
/-! next and previous -/
section
variable {w : Nat → Int64} {b o : Nat → Int32} {r : Nat}
theorem cx_n96 {post : Int64 → Prop} {d t : Nat} (hd : d < 146097) (ht : t < 1440) (h : post (lN (1440 * d + t))) : wX_next_96 post (nI d) (nI t) w b := by
  refine br_f (cl_ne (by omega)) ?_
  show post (1440 * (nI d).toInt64 + (nI t).toInt64)
  rw [cl_min (by omega) (by omega)]
  exact h
theorem cx_p100 {post : Int64 → Prop} {d t : Nat} (hd : d < 146097) (ht : t < 1440) (h : post (lN (1440 * d + t))) : wX_previous_100 post (nI d) (nI t) w b := by
  refine br_f (cl_ne (by omega)) ?_
  show post (1440 * (nI d).toInt64 + (nI t).toInt64)
  rw [cl_min (by omega) (by omega)]
  exact h
theorem cx_n77 {post : Int64 → Prop} {d t0 : Nat} (hR : cr_R w b o) (hr : r < 4) (hd : d < 146097) (h0 : t0 < 1440) (hb : cd_df w b r d = false ∨ ∀ i, t0 ≤ i → i < 1440 → cd_tf w r i = false) (h : ∀ x, cs_N (cs_A (cd_df w b r) (cd_tf w r)) (1440 * d + t0) x → post x) : wX_next_77 post (nI r) (nI d) w b := by
  unfold wX_next_77
  rw [nI_1]
  refine cx_ffd hR hr (by omega) (fun x hx => cx_fft (t0 := 0) hr (by decide) (fun x2 hx2 => ?_))
  rcases hx with ⟨d', d1, d2, d3, d4, rfl⟩ | ⟨d1, rfl⟩
  · rcases hx2 with ⟨t, t1, t2, t3, t4, rfl⟩ | ⟨t1, _⟩
    · exact cx_n96 d2 t2 (h _ (cs_N2 hb h0 d1 d2 d3 d4 t2 t3 (fun i a => t4 i (Nat.zero_le _) a)))
    · obtain ⟨t, q1, q2⟩ := cd_ne hR hr
      rw [t1 t (Nat.zero_le _) q1] at q2
      exact absurd q2 (by decide)
  · exact br_t rfl (h _ (cs_N3 hb d1))
theorem cx_n36 {post : Int64 → Prop} {S : Nat} (hR : cr_R w b o) (hr : r < 4) (hS : S < 210379680) (h : ∀ x, cs_N (cs_A (cd_df w b r) (cd_tf w r)) S x → post x) : wX_next_36 post (nI r) (lN S) w b := by
  have b2 := (cr_at hR hr (show 2 < 5 by decide)).1
  have b4 := (cr_at hR hr (show 4 < 5 by decide)).1
  have e : S = 1440 * (S / 1440) + S % 1440 := by omega
  rw [e] at h
  refine ⟨by decide, nm_r (cl_div (by omega)) ⟨by decide, ?_⟩⟩
  rw [cl_rem (by omega)]
  have hd : S / 1440 < 146097 := by omega
  have ht : S % 1440 < 1440 := by omega
  generalize S / 1440 = d at h hd ⊢
  generalize S % 1440 = t0 at h ht ⊢
  refine cx_fft hr ht (fun x hx => ?_)
  rcases hx with ⟨t, t1, t2, t3, t4, rfl⟩ | ⟨t1, rfl⟩
  · refine br_f (cl_ne (by omega)) (cx_df hr hd b2 b4 (cb_z (fun q => ?_) (fun q => ?_)))
    · exact cx_n77 hR hr hd ht (Or.inl q) h
    · exact cx_n96 hd t2 (h _ (cs_N1 hd t1 t2 t4 q t3))
  · exact br_t rfl (cx_n77 hR hr hd ht (Or.inr t1) h)
theorem cx_p79 {post : Int64 → Prop} {d t0 : Nat} (hR : cr_R w b o) (hr : r < 4) (hd : d < 146097) (h0 : t0 < 1440) (hb : cd_df w b r d = false ∨ ∀ i, i < t0 + 1 → cd_tf w r i = false) (h : ∀ x, cs_P (cs_A (cd_df w b r) (cd_tf w r)) (1440 * d + t0 + 1) x → post x) : wX_previous_79 post (nI r) (nI d) w b := by
  unfold wX_previous_79
  refine cx_lfd hR hr (by omega) (fun x hx => cx_lft (t0 := 1439) hr (by decide) (fun x2 hx2 => ?_))
  rcases hx with ⟨d', d1, d2, d3, d4, rfl⟩ | ⟨d1, rfl⟩
  · rcases hx2 with ⟨t, t1, t2, t3, t4, rfl⟩ | ⟨t1, _⟩
    · exact cx_p100 (by omega) t2 (h _ (cs_P2 hb h0 d2 d3 d4 t2 t3 t4))
    · obtain ⟨t, q1, q2⟩ := cd_ne hR hr
      rw [t1 t (Nat.zero_le _) q1] at q2
      exact absurd q2 (by decide)
  · exact br_t rfl (h _ (cs_P3 hb h0 (fun i a => d1 i (Nat.zero_le _) a)))
theorem cx_p38 {post : Int64 → Prop} {S : Nat} (hR : cr_R w b o) (hr : r < 4) (hS : S < 210379680) (h : ∀ x, cs_P (cs_A (cd_df w b r) (cd_tf w r)) (S + 1) x → post x) : wX_previous_38 post (nI r) (lN S) w b := by
  have b2 := (cr_at hR hr (show 2 < 5 by decide)).1
  have b4 := (cr_at hR hr (show 4 < 5 by decide)).1
  have e : S = 1440 * (S / 1440) + S % 1440 := by omega
  rw [e] at h
  refine ⟨by decide, nm_r (cl_div (by omega)) ⟨by decide, ?_⟩⟩
  rw [cl_rem (by omega)]
  have hd : S / 1440 < 146097 := by omega
  have ht : S % 1440 < 1440 := by omega
  generalize S / 1440 = d at h hd ⊢
  generalize S % 1440 = t0 at h ht ⊢
  refine cx_lft hr ht (fun x hx => ?_)
  rcases hx with ⟨t, t1, t2, t3, t4, rfl⟩ | ⟨t1, rfl⟩
  · refine br_f (cl_ne (by omega)) (cx_df hr hd b2 b4 (cb_z (fun q => ?_) (fun q => ?_)))
    · exact cx_p79 hR hr hd ht (Or.inl q) h
    · exact cx_p100 hd (by omega) (h _ (cs_P1 (by omega) ht t4 q t3))
  · exact br_t rfl (cx_p79 hR hr hd ht (Or.inr (fun i a => t1 i (Nat.zero_le _) a)) h)
/-! the reference's search, up -/
theorem cy_u103 {post : Int64 → SY → Prop} {J : Int32 → Int32 → Int32 → Int32 → Int32 → (Nat → Int32) → (Nat → Int32) → Prop} {d : Nat} {y m k x1 : Int32} (hd : d < 146097) (hs : cy_St d y m k) (h : ∀ y' m' k', cy_St (d + 1) y' m' k' → J (nI (d + 1)) 0 y' m' k' o b) : wY_search_103 post J x1 1 (nI d) y m k o b :=
  nm_r (nI_1 d) (br_f (by decide) (cy_up hd hs (fun y' m' k' h' => h y' m' k' h')))
theorem cy_u58 {post : Int64 → SY → Prop} {J : Int32 → Int32 → Int32 → Int32 → Int32 → (Nat → Int32) → (Nat → Int32) → Prop} {S d : Nat} {y m k : Int32} (hR : cr_R w b o) (hr : r < 4) (hd : d < 146097) (hD : cd_df w b r d = true) (hs : cy_St d y m k) (h : ∀ x y' m' k', cs_N (cs_A (cd_df w b r) (cd_tf w r)) S x → post x (y', m', k', o, b)) (hJ : (∀ i, S ≤ i → i < 1440 * (d + 1) + 0 → cs_A (cd_df w b r) (cd_tf w r) i = false) → ∀ y' m' k', cy_St (d + 1) y' m' k' → J (nI (d + 1)) 0 y' m' k' o b) : ∀ n t, t ≤ 1440 → 1440 - t < n → S ≤ 1440 * d + t → (∀ i, S ≤ i → i < 1440 * d + t → cs_A (cd_df w b r) (cd_tf w r) i = false) → wY_search_58 post J (nI r) 1 (nI d) y m k o b n (nI t) := by
  intro n
  induction n with
  | zero => intro t _ h2; omega
  | succ n ih =>
    intro t h1 h2 h3 h4
    refine br_f (nI_pos (by omega)) (pk_le 1440 t (fun z => ?_) (fun z => ?_))
    · exact cy_u103 hd hs (hJ (fun i a c => h4 i a (by omega)))
    · refine cy_tf hR hr z (cb_z (fun q => ?_) (fun q => ?_))
      · exact nm_r (nI_1 t) (ih (t + 1) (by omega) (by omega) (by omega) (cs_Nt z h4 q))
      · rw [cl_min (by omega) (by omega)]
        exact h _ _ _ _ (cs_Nhit h3 hd z h4 hD q)
theorem cy_u22 {post : Int64 → SY → Prop} {S : Nat} (hR : cr_R w b o) (hr : r < 4) (h : ∀ x y' m' k', cs_N (cs_A (cd_df w b r) (cd_tf w r)) S x → post x (y', m', k', o, b)) : ∀ n d t y m k, d ≤ 146097 → 146097 - d < n → t < 1440 → cy_St d y m k → S ≤ 1440 * d + t → (∀ i, S ≤ i → i < 1440 * d + t → cs_A (cd_df w b r) (cd_tf w r) i = false) → wY_search_22 post (nI r) 1 n (nI d) (nI t) y m k o b := by
  intro n
  induction n with
  | zero => intro d t y m k _ h2; omega
  | succ n ih =>
    intro d t y m k h1 h2 ht hs h3 h4
    refine br_f (nI_pos (by omega)) (pk_lt 146096 d (fun z => ?_) (fun z => ?_))
    · refine h _ _ _ _ (cs_Nend (fun i a c => h4 i a ?_))
      have : d = 146097 := by omega
      omega
    · have hd : d < 146097 := by omega
      have nxt : (∀ i, S ≤ i → i < 1440 * (d + 1) + 0 → cs_A (cd_df w b r) (cd_tf w r) i = false) → ∀ y' m' k', cy_St (d + 1) y' m' k' → wY_search_22 post (nI r) 1 n (nI (d + 1)) 0 y' m' k' o b := fun g y' m' k' h' => ih (d + 1) 0 y' m' k' (by omega) (by omega) (by decide) h' (by omega) g
      refine cy_df hR hr hd hs (cb_z (fun q => ?_) (fun q => ?_))
      · exact cy_u103 hd hs (nxt (cs_Nd h4 q))
      · exact ⟨_, cy_u58 hR hr hd q hs h nxt 1441 t (by omega) (by omega) h3 h4⟩
theorem cy_sup {post : Int64 → SY → Prop} {S : Nat} {y m k : Int32} (hR : cr_R w b o) (hr : r < 4) (hS : S < 210379680) (h : ∀ x y' m' k', cs_N (cs_A (cd_df w b r) (cd_tf w r)) S x → post x (y', m', k', o, b)) : wpY_search post (y, m, k, o, b) (nI r) (lN S) 1 := by
  refine ⟨by decide, nm_r (cl_div (by omega)) ⟨by decide, nm_r (cl_rem (by omega)) (cy_split (by omega) ?_)⟩⟩
  exact ⟨_, cy_u22 hR hr h 146098 (S / 1440) (S % 1440) _ _ _ (by omega) (by omega) (by omega) (cy_stOf (by omega)) (by omega) (fun i a c => absurd a (by omega))⟩
/-! down -/
theorem cy_d103 {post : Int64 → SY → Prop} {J : Int32 → Int32 → Int32 → Int32 → Int32 → (Nat → Int32) → (Nat → Int32) → Prop} {d : Nat} {y m k x1 : Int32} (hd : d < 146097) (hs : cy_St d y m k) (h : ∀ y' m' k', (∀ c, d = c + 1 → cy_St c y' m' k') → J (nI d + (-1)) 1439 y' m' k' o b) : wY_search_103 post J x1 (-1) (nI d) y m k o b := by
  refine nm_e (br_t (by decide) ?_)
  cases d with
  | zero => exact cy_dn0 hs (fun y' m' k' => h y' m' k' (fun c e => absurd e (by omega)))
  | succ c => exact cy_dn hd hs (fun y' m' k' h' => h y' m' k' (fun c' e => by rw [show c' = c by omega]; exact h'))
theorem cy_d58 {post : Int64 → SY → Prop} {J : Int32 → Int32 → Int32 → Int32 → Int32 → (Nat → Int32) → (Nat → Int32) → Prop} {S d : Nat} {y m k : Int32} (hR : cr_R w b o) (hr : r < 4) (hd : d < 146097) (hD : cd_df w b r d = true) (hs : cy_St d y m k) (h : ∀ x y' m' k', cs_P (cs_A (cd_df w b r) (cd_tf w r)) S x → post x (y', m', k', o, b)) (hJ : (∀ i, 1440 * d ≤ i → i < S → cs_A (cd_df w b r) (cd_tf w r) i = false) → ∀ y' m' k', (∀ c, d = c + 1 → cy_St c y' m' k') → J (nI d + (-1)) 1439 y' m' k' o b) : ∀ n e, e ≤ 1440 → e < n → 1440 * d + e ≤ S → (∀ i, 1440 * d + e ≤ i → i < S → cs_A (cd_df w b r) (cd_tf w r) i = false) → wY_search_58 post J (nI r) (-1) (nI d) y m k o b n (nI e + (-1)) := by
  intro n
  induction n with
  | zero => intro e _ h2; omega
  | succ n ih =>
    intro e h1 h2 h3 h4
    cases e with
    | zero => exact br_t (by decide) (cy_d103 hd hs (hJ (fun i a c => h4 i (by omega) c)))
    | succ t =>
      rw [pk_m1]
      refine br_f (nI_pos (by omega)) (pk_le 1440 t (fun z => absurd z (by omega)) (fun z => ?_))
      refine cy_tf hR hr z (cb_z (fun q => ?_) (fun q => ?_))
      · exact nm_e (ih t (by omega) (by omega) (by omega) (cs_Pt z h4 q))
      · rw [cl_min (by omega) (by omega)]
        exact h _ _ _ _ (cs_Phit (by omega) z (fun i a c => h4 i (by omega) c) hD q)
theorem cy_d22 {post : Int64 → SY → Prop} {S : Nat} (hR : cr_R w b o) (hr : r < 4) (h : ∀ x y' m' k', cs_P (cs_A (cd_df w b r) (cd_tf w r)) S x → post x (y', m', k', o, b)) : ∀ n c t y m k, c ≤ 146097 → c < n → t < 1440 → (∀ d, c = d + 1 → cy_St d y m k ∧ 1440 * d + t < S ∧ (∀ i, 1440 * d + (t + 1) ≤ i → i < S → cs_A (cd_df w b r) (cd_tf w r) i = false)) → (c = 0 → ∀ i, i < S → cs_A (cd_df w b r) (cd_tf w r) i = false) → wY_search_22 post (nI r) (-1) n (nI c + (-1)) (nI t) y m k o b := by
  intro n
  induction n with
  | zero => intro c t y m k _ h2; omega
  | succ n ih =>
    intro c t y m k h1 h2 ht hc h0
    cases c with
    | zero => exact br_t (by decide) (h _ _ _ _ (cs_Pend (h0 rfl)))
    | succ d =>
      obtain ⟨hs, hS, h4⟩ := hc d rfl
      rw [pk_m1]
      have hd : d < 146097 := by omega
      refine br_f (nI_pos (by omega)) (pk_lt 146096 d (fun z => absurd z (by omega)) (fun z => ?_))
      have nxt : (∀ i, 1440 * d ≤ i → i < S → cs_A (cd_df w b r) (cd_tf w r) i = false) → ∀ y' m' k', (∀ c, d = c + 1 → cy_St c y' m' k') → wY_search_22 post (nI r) (-1) n (nI d + (-1)) 1439 y' m' k' o b := fun g y' m' k' h' => ih d 1439 y' m' k' (by omega) (by omega) (by decide) (fun c e => ⟨h' c e, by omega, fun i a q => g i (by omega) q⟩) (fun e i a => g i (by omega) a)
      refine cy_df hR hr hd hs (cb_z (fun q => ?_) (fun q => ?_))
      · exact cy_d103 hd hs (nxt (cs_Pd (by omega) h4 q))
      · have hx := cy_d58 hR hr hd q hs h nxt 1442 (t + 1) (by omega) (by omega) (by omega) h4
        rw [pk_m1] at hx
        exact ⟨_, hx⟩
theorem cy_sdn {post : Int64 → SY → Prop} {S : Nat} {y m k : Int32} (hR : cr_R w b o) (hr : r < 4) (hS : S < 210379680) (h : ∀ x y' m' k', cs_P (cs_A (cd_df w b r) (cd_tf w r)) (S + 1) x → post x (y', m', k', o, b)) : wpY_search post (y, m, k, o, b) (nI r) (lN S) (-1) := by
  refine ⟨by decide, nm_r (cl_div (by omega)) ⟨by decide, nm_r (cl_rem (by omega)) (cy_split (by omega) ?_)⟩⟩
  have hx := cy_d22 hR hr h 146099 (S / 1440 + 1) (S % 1440) _ _ _ (by omega) (by omega) (by omega) (fun d e => ⟨by rw [show d = S / 1440 by omega]; exact cy_stOf (d := S / 1440) (by omega), by omega, fun i a c => absurd a (by omega)⟩) (fun e => absurd e (by omega))
  rw [pk_m1] at hx
  exact ⟨_, hx⟩
end
theorem i_vc_next {k : Nat} {u : SX} {v : SY} (I : i_Rel k u v) (hk : k + 4 ≤ 2048) (v1 : Int32) (a1 : Int64) : wpX_next (fun r => wpY_next (fun r' v' => r' = r ∧ i_Rel (k + 4) u v') v v1 a1) u v1 a1 := by
  obtain ⟨w, b⟩ := u
  obtain ⟨y, m, q, o, b'⟩ := v
  obtain ⟨e, hR⟩ := I
  have e' : b = b' := e
  subst e'
  have hR' : cr_R w b o := hR
  unfold wpX_next wpY_next
  dsimp only
  refine cx_rule (fun c => br_f (by decide) ?_) (fun c => br_t rfl (cy_rule (fun g => absurd g c) (fun _ => br_f (by decide) ⟨rfl, rfl, hR⟩)))
  obtain ⟨r, hr, rfl⟩ := c
  by_cases z : a1 < 210379679
  · refine br_t z ?_
    by_cases z0 : 0 ≤ a1
    · obtain ⟨s, hs, rfl⟩ := pk_lOf (x := a1) (Int64.not_lt.mpr z0)
      have hs2 : s < 210379679 := (pk_lLT hs (by decide)).mp z
      refine br_t z0 ?_
      rw [lN_1]
      refine cx_n36 hR' hr (by omega) (fun x hx => cy_rule (fun _ => br_t rfl (br_t z (br_t z0 ?_))) (fun g => absurd ⟨r, hr, rfl⟩ g))
      exact cy_sup hR' hr (by omega) (fun x' y' m' k' hx' => ⟨cs_N_u hx hx', rfl, hR⟩)
    · refine br_f z0 (cx_n36 (S := 0) hR' hr (by omega) (fun x hx => cy_rule (fun _ => br_t rfl (br_t z (br_f z0 ?_))) (fun g => absurd ⟨r, hr, rfl⟩ g)))
      exact cy_sup (S := 0) hR' hr (by omega) (fun x' y' m' k' hx' => ⟨cs_N_u hx hx', rfl, hR⟩)
  · exact br_f z (cy_rule (fun _ => br_t rfl (br_f z ⟨rfl, rfl, hR⟩)) (fun g => absurd ⟨r, hr, rfl⟩ g))
theorem i_vc_previous {k : Nat} {u : SX} {v : SY} (I : i_Rel k u v) (hk : k + 4 ≤ 2048) (v1 : Int32) (a1 : Int64) : wpX_previous (fun r => wpY_previous (fun r' v' => r' = r ∧ i_Rel (k + 4) u v') v v1 a1) u v1 a1 := by
  obtain ⟨w, b⟩ := u
  obtain ⟨y, m, q, o, b'⟩ := v
  obtain ⟨e, hR⟩ := I
  have e' : b = b' := e
  subst e'
  have hR' : cr_R w b o := hR
  unfold wpX_previous wpY_previous
  dsimp only
  refine cx_rule (fun c => br_f (by decide) ?_) (fun c => br_t rfl (cy_rule (fun g => absurd g c) (fun _ => br_f (by decide) ⟨rfl, rfl, hR⟩)))
  obtain ⟨r, hr, rfl⟩ := c
  by_cases z : 0 < a1
  · refine br_t z ?_
    by_cases z1 : a1 ≤ 210379679
    · obtain ⟨s, hs, rfl⟩ := pk_lOf (x := a1) (fun h => Int64.lt_irrefl (Int64.lt_trans z h))
      have hs2 : s ≤ 210379679 := (pk_lLE hs (by decide)).mp z1
      have hs0 : 0 < s := (pk_lLT (a := 0) (by decide) hs).mp z
      refine br_t z1 ?_
      rw [show (1 : Int64) = lN 1 from rfl, lN_sub (by omega)]
      refine cx_p38 hR' hr (by omega) (fun x hx => cy_rule (fun _ => br_t rfl (br_t z (br_t z1 ?_))) (fun g => absurd ⟨r, hr, rfl⟩ g))
      exact cy_sdn hR' hr (by omega) (fun x' y' m' k' hx' => ⟨cs_P_u hx hx', rfl, hR⟩)
    · refine br_f z1 (cx_p38 (S := 210379679) hR' hr (by omega) (fun x hx => cy_rule (fun _ => br_t rfl (br_t z (br_f z1 ?_))) (fun g => absurd ⟨r, hr, rfl⟩ g)))
      exact cy_sdn (S := 210379679) hR' hr (by omega) (fun x' y' m' k' hx' => ⟨cs_P_u hx hx', rfl, hR⟩)
  · exact br_f z (cy_rule (fun _ => br_t rfl (br_f z ⟨rfl, rfl, hR⟩)) (fun g => absurd ⟨r, hr, rfl⟩ g))
end
section
/-! fits, dueOn, dueDays -/
theorem cd_fin {post : Int32 → Prop} {p : Bool} (h : post (cb_i p)) : (cb_i p = 0 → post 0) ∧ (¬ cb_i p = 0 → post 1) := by
  cases p
  · exact br_t rfl h
  · exact br_f (by decide) h
section
variable {w : Nat → Int64} {b o : Nat → Int32} {r : Nat}
theorem cx_fitsG {post : Int32 → Prop} {s : Nat} (hR : cr_R w b o) (hr : r < 4) (hs : s < 210379680) (h : post (cb_i (cd_df w b r (s / 1440) && cd_tf w r (s % 1440)))) : wpX_fits post (w, b) (nI r) (lN s) := by
  have b2 := (cr_at hR hr (show 2 < 5 by decide)).1
  have b4 := (cr_at hR hr (show 4 < 5 by decide)).1
  unfold wpX_fits
  dsimp only
  refine cx_rule (fun _ => br_f (by decide) ?_) (fun g => absurd ⟨r, hr, rfl⟩ g)
  refine br_f (fun z => absurd ((pk_lLT (b := 0) (by omega) (by decide)).mp z) (by omega)) (br_t ((pk_lLE (b := 210379679) (by omega) (by decide)).mpr (by omega)) ?_)
  refine ⟨by decide, nm_r (cl_div (by omega)) ⟨by decide, nm_r (cl_rem (by omega)) (cx_tf hr (by omega) ?_)⟩⟩
  cases hT : cd_tf w r (s % 1440)
  · rw [hT, Bool.and_false] at h
    exact br_t rfl h
  · rw [hT, Bool.and_true] at h
    exact br_f (by decide) (cx_df hr (by omega) b2 b4 (cd_fin h))
theorem cy_fitsG {post : Int32 → SY → Prop} {y m k : Int32} {s : Nat} (hR : cr_R w b o) (hr : r < 4) (hs : s < 210379680) (h : ∀ y' m' k', post (cb_i (cd_df w b r (s / 1440) && cd_tf w r (s % 1440))) (y', m', k', o, b)) : wpY_fits post (y, m, k, o, b) (nI r) (lN s) := by
  unfold wpY_fits
  dsimp only
  refine cy_rule (fun _ => br_t rfl ?_) (fun g => absurd ⟨r, hr, rfl⟩ g)
  refine br_f (fun z => absurd ((pk_lLT (b := 0) (by omega) (by decide)).mp z) (by omega)) (br_t ((pk_lLE (b := 210379679) (by omega) (by decide)).mpr (by omega)) ?_)
  refine ⟨by decide, nm_r (cl_div (by omega)) (cy_split (by omega) ?_)⟩
  dsimp only
  rw [cl_rem (by omega)]
  refine cy_df hR hr (by omega) (cy_stOf (by omega)) ?_
  cases hD : cd_df w b r (s / 1440)
  · rw [hD, Bool.false_and] at h
    exact br_t rfl (h _ _ _)
  · rw [hD, Bool.true_and] at h
    exact br_f (by decide) ⟨by decide, cy_tf hR hr (by omega) (cd_fin (post := fun x => post x (nI (2000 + cc_mo (s / 1440) / 12), nI (cc_mo (s / 1440) % 12 + 1), nI (s / 1440 - cc_MF (cc_mo (s / 1440)) + 1), o, b)) (h _ _ _))⟩
/-! dueOn -/
theorem cd_cnt (hR : cr_R w b o) (hr : r < 4) : cc_cnt (cd_tf w r) 1440 = cc_cnt (cb_b (w (5 * r + 1))) 64 * cc_cnt (cb_b (w (5 * r + 0))) 64 := by
  have h1 := (cr_at hR hr (show 1 < 5 by decide)).2.1
  have h0 := (cr_at hR hr (show 0 < 5 by decide)).2.1
  have e1 : cc_cnt (cb_b (w (5 * r + 1))) 64 = cc_cnt (cb_b (w (5 * r + 1))) 24 := cc_cnt_0 (fun i a c => by
    cases z : cb_b (w (5 * r + 1)) i
    · rfl
    · have h2 : i ≤ 23 := (h1 i c z).2
      omega) (by omega)
  have e0 : cc_cnt (cb_b (w (5 * r + 0))) 64 = cc_cnt (cb_b (w (5 * r + 0))) 60 := cc_cnt_0 (fun i a c => by
    cases z : cb_b (w (5 * r + 0)) i
    · rfl
    · have h2 : i ≤ 59 := (h0 i c z).2
      omega) (by omega)
  rw [e1, e0]
  exact cc_cnt_m (f := cb_b (w (5 * r + 1))) (g := cb_b (w (5 * r + 0))) 24
theorem cx_dueOnG {post : Int32 → Prop} {d : Nat} (hR : cr_R w b o) (hr : r < 4) (hd : d < 146097) (h : post (if cd_df w b r d then nI (cc_cnt (cd_tf w r) 1440) else 0)) : wpX_dueOn post (w, b) (nI r) (nI d) := by
  have b2 := (cr_at hR hr (show 2 < 5 by decide)).1
  have b4 := (cr_at hR hr (show 4 < 5 by decide)).1
  unfold wpX_dueOn
  dsimp only
  refine cx_rule (fun _ => br_f (by decide) ?_) (fun g => absurd ⟨r, hr, rfl⟩ g)
  refine cx_day (fun _ => br_f (by decide) ?_) (fun g => absurd ⟨d, hd, rfl⟩ g)
  refine cx_df hr hd b2 b4 (cb_z (fun z => ?_) (fun z => ?_))
  · rw [if_neg (by rw [z]; decide)] at h
    exact h
  · rw [if_pos z, cd_cnt hR hr, ← pk_mul] at h
    exact cx_count (f := 1) hr (by decide) (cr_at hR hr (show 1 < 5 by decide)).2.1 (cx_count (f := 0) hr (by decide) (cr_at hR hr (show 0 < 5 by decide)).2.1 h)
theorem cy_do56 {post : Int32 → SY → Prop} {y m k : Int32} (hR : cr_R w b o) (hr : r < 4) (h : post (nI (cc_cnt (cd_tf w r) 1440)) (y, m, k, o, b)) : ∀ n t, t ≤ 1440 → 1440 - t < n → wY_dueOn_56 post (nI r) y m k o b n (nI (cc_cnt (cd_tf w r) t)) (nI t) := by
  intro n
  induction n with
  | zero => intro t _ h2; omega
  | succ n ih =>
    intro t h1 h2
    refine pk_le 1440 t (fun z => ?_) (fun z => ?_)
    · rw [show t = 1440 by omega]
      exact h
    · have hi := ih (t + 1) (by omega) (by omega)
      refine cy_tf hR hr z (cb_z (fun q => ?_) (fun q => ?_))
      · rw [cc_cnt_f q] at hi
        exact nm_r (nI_1 t) hi
      · rw [cc_cnt_t q] at hi
        exact nm_r (nI_1 _) (nm_r (nI_1 t) hi)
theorem cy_dueOnG {post : Int32 → SY → Prop} {y m k : Int32} {d : Nat} (hR : cr_R w b o) (hr : r < 4) (hd : d < 146097) (h : ∀ y' m' k', post (if cd_df w b r d then nI (cc_cnt (cd_tf w r) 1440) else 0) (y', m', k', o, b)) : wpY_dueOn post (y, m, k, o, b) (nI r) (nI d) := by
  unfold wpY_dueOn
  dsimp only
  refine cy_rule (fun _ => br_t rfl ?_) (fun g => absurd ⟨r, hr, rfl⟩ g)
  refine cy_day (fun _ => br_t rfl (cy_split hd ?_)) (fun g => absurd ⟨d, hd, rfl⟩ g)
  dsimp only
  refine cy_df hR hr hd (cy_stOf hd) (cb_z (fun z => ?_) (fun z => ?_))
  · rw [if_neg (by rw [z]; decide)] at h
    exact h _ _ _
  · rw [if_pos z] at h
    exact ⟨_, cy_do56 hR hr (h _ _ _) 1441 0 (by omega) (by omega)⟩
/-! dueDays -/
theorem cx_dd48 {post : Int32 → Prop} {a c : Nat} (hR : cr_R w b o) (hr : r < 4) (ha : a + c ≤ 146097) (h : post (nI (cc_cnt (fun i => cd_df w b r (a + i)) c))) : ∀ n i, i ≤ c → c - i < n → wX_dueDays_48 post (nI r) (nI a) (nI c) w b n (nI (cc_cnt (fun i => cd_df w b r (a + i)) i)) (nI i) := by
  have b2 := (cr_at hR hr (show 2 < 5 by decide)).1
  have b4 := (cr_at hR hr (show 4 < 5 by decide)).1
  intro n
  induction n with
  | zero => intro i _ h2; omega
  | succ n ih =>
    intro i h1 h2
    unfold wX_dueDays_48
    rw [nI_add a i]
    refine pk_le c i (fun z => ?_) (fun z => ?_)
    · rw [show i = c by omega]
      exact h
    · have hi := ih (i + 1) (by omega) (by omega)
      refine cx_df hr (by omega) b2 b4 (cb_z (fun q => ?_) (fun q => ?_))
      · rw [cc_cnt_f (f := fun i => cd_df w b r (a + i)) q] at hi
        exact nm_r (nI_1 i) hi
      · rw [cc_cnt_t (f := fun i => cd_df w b r (a + i)) q] at hi
        exact nm_r (nI_1 _) (nm_r (nI_1 i) hi)
theorem cy_dd70 {post : Int32 → SY → Prop} {a c : Nat} (hR : cr_R w b o) (hr : r < 4) (ha : a + c ≤ 146097) (h : ∀ y' m' k', post (nI (cc_cnt (fun i => cd_df w b r (a + i)) c)) (y', m', k', o, b)) : ∀ n i y m k, i ≤ c → c - i < n → cy_St (a + i) y m k → wY_dueDays_70 post (nI r) (nI a) (nI c) n (nI (cc_cnt (fun i => cd_df w b r (a + i)) i)) (nI i) y m k o b := by
  intro n
  induction n with
  | zero => intro i y m k _ h2; omega
  | succ n ih =>
    intro i y m k h1 h2 hs
    unfold wY_dueDays_70
    rw [nI_add a i]
    refine pk_le c i (fun z => ?_) (fun z => ?_)
    · rw [show i = c by omega]
      exact h _ _ _
    · have hi := fun y' m' k' => ih (i + 1) y' m' k' (by omega) (by omega)
      refine cy_df hR hr (by omega) hs (cb_z (fun q => ?_) (fun q => ?_))
      · rw [cc_cnt_f (f := fun i => cd_df w b r (a + i)) q] at hi
        exact cy_up (by omega) hs (fun y' m' k' h' => nm_r (nI_1 i) (hi y' m' k' h'))
      · rw [cc_cnt_t (f := fun i => cd_df w b r (a + i)) q] at hi
        exact nm_r (nI_1 _) (cy_up (by omega) hs (fun y' m' k' h' => nm_r (nI_1 i) (hi y' m' k' h')))
theorem cy_dd27 {post : Int32 → SY → Prop} {y m k : Int32} {a c : Nat} (hR : cr_R w b o) (hr : r < 4) (hc : 0 < c) (ha : a + c ≤ 146097) (h : ∀ y' m' k', post (nI (cc_cnt (fun i => cd_df w b r (a + i)) c)) (y', m', k', o, b)) : ∀ n i, i ≤ c → c - i < n → wY_dueDays_27 post (nI r) (nI a) (nI c) y m k o b n (nI i) := by
  intro n
  induction n with
  | zero => intro i _ h2; omega
  | succ n ih =>
    intro i h1 h2
    unfold wY_dueDays_27
    rw [nI_add a i]
    refine pk_le c i (fun z => ?_) (fun z => ?_)
    · refine br_f (nI_ne0 hc (by omega)) (cy_split (by omega) ?_)
      exact ⟨_, cy_dd70 hR hr ha h (c + 1) 0 _ _ _ (by omega) (by omega) (cy_stOf (by omega))⟩
    · exact cy_day (fun _ => br_t rfl (nm_r (nI_1 i) (ih (i + 1) (by omega) (by omega)))) (fun g => absurd ⟨a + i, by omega, rfl⟩ g)
theorem cy_dd27b {post : Int32 → SY → Prop} {y m k x1 : Int32} {a c : Nat} (hc : 0 < c) (hc2 : c ≤ 1000) (ha : 146097 < a + c) (ha2 : a < 2 ^ 31) (h : post (-2) (y, m, k, o, b)) : ∀ n i, i < c → a + i ≤ 146097 ∨ i = 0 → c - i < n → wY_dueDays_27 post x1 (nI a) (nI c) y m k o b n (nI i) := by
  intro n
  induction n with
  | zero => intro i _ _ h2; omega
  | succ n ih =>
    intro i h1 h0 h2
    unfold wY_dueDays_27
    rw [nI_add a i]
    refine pk_le c i (fun z => absurd z (by omega)) (fun z => ?_)
    rcases Nat.lt_or_ge (a + i) 146097 with g | g
    · exact cy_day (fun _ => br_t rfl (nm_r (nI_1 i) (ih (i + 1) (by omega) (Or.inl (by omega)) (by omega)))) (fun q => absurd ⟨a + i, g, rfl⟩ q)
    · exact cy_day (fun q => absurd q (cf_big (by omega) (by decide) g)) (fun _ => br_f (by decide) h)
end
theorem i_vc_fits {k : Nat} {u : SX} {v : SY} (I : i_Rel k u v) (hk : k + 4 ≤ 2048) (v1 : Int32) (a1 : Int64) : wpX_fits (fun r => wpY_fits (fun r' v' => r' = r ∧ i_Rel (k + 4) u v') v v1 a1) u v1 a1 := by
  obtain ⟨w, b⟩ := u
  obtain ⟨y, m, q, o, b'⟩ := v
  obtain ⟨e, hR⟩ := I
  have e' : b = b' := e
  subst e'
  have hR' : cr_R w b o := hR
  by_cases c : cf_r 4 v1
  · obtain ⟨r, hr, rfl⟩ := c
    by_cases z : a1 < 0
    · unfold wpX_fits wpY_fits
      dsimp only
      exact cx_rule (fun _ => br_f (by decide) (br_t z (cy_rule (fun _ => br_t rfl (br_t z ⟨rfl, rfl, hR⟩)) (fun g => absurd ⟨r, hr, rfl⟩ g)))) (fun g => absurd ⟨r, hr, rfl⟩ g)
    · by_cases z1 : a1 ≤ 210379679
      · obtain ⟨s, hs, rfl⟩ := pk_lOf (x := a1) z
        have hs2 : s ≤ 210379679 := (pk_lLE hs (by decide)).mp z1
        exact cx_fitsG hR' hr (by omega) (cy_fitsG hR' hr (by omega) (fun _ _ _ => ⟨rfl, rfl, hR⟩))
      · unfold wpX_fits wpY_fits
        dsimp only
        exact cx_rule (fun _ => br_f (by decide) (br_f z (br_f z1 (cy_rule (fun _ => br_t rfl (br_f z (br_f z1 ⟨rfl, rfl, hR⟩))) (fun g => absurd ⟨r, hr, rfl⟩ g))))) (fun g => absurd ⟨r, hr, rfl⟩ g)
  · unfold wpX_fits wpY_fits
    dsimp only
    exact cx_rule (fun g => absurd g c) (fun _ => br_t rfl (cy_rule (fun g => absurd g c) (fun _ => br_f (by decide) ⟨rfl, rfl, hR⟩)))
theorem i_vc_dueOn {k : Nat} {u : SX} {v : SY} (I : i_Rel k u v) (hk : k + 4 ≤ 2048) (v1 : Int32) (v2 : Int32) : wpX_dueOn (fun r => wpY_dueOn (fun r' v' => r' = r ∧ i_Rel (k + 4) u v') v v1 v2) u v1 v2 := by
  obtain ⟨w, b⟩ := u
  obtain ⟨y, m, q, o, b'⟩ := v
  obtain ⟨e, hR⟩ := I
  have e' : b = b' := e
  subst e'
  have hR' : cr_R w b o := hR
  by_cases c : cf_r 4 v1
  · by_cases c2 : cf_r 146097 v2
    · obtain ⟨r, hr, rfl⟩ := c
      obtain ⟨d, hd, rfl⟩ := c2
      exact cx_dueOnG hR' hr hd (cy_dueOnG hR' hr hd (fun _ _ _ => ⟨rfl, rfl, hR⟩))
    · unfold wpX_dueOn wpY_dueOn
      dsimp only
      exact cx_rule (fun _ => br_f (by decide) (cx_day (fun g => absurd g c2) (fun _ => br_t rfl (cy_rule (fun _ => br_t rfl (cy_day (fun g => absurd g c2) (fun _ => br_f (by decide) ⟨rfl, rfl, hR⟩))) (fun g => absurd c g))))) (fun g => absurd c g)
  · unfold wpX_dueOn wpY_dueOn
    dsimp only
    exact cx_rule (fun g => absurd g c) (fun _ => br_t rfl (cy_rule (fun g => absurd g c) (fun _ => br_f (by decide) ⟨rfl, rfl, hR⟩)))
theorem i_vc_dueDays {k : Nat} {u : SX} {v : SY} (I : i_Rel k u v) (hk : k + 4 ≤ 2048) (v1 : Int32) (v2 : Int32) (v3 : Int32) : wpX_dueDays (fun r => wpY_dueDays (fun r' v' => r' = r ∧ i_Rel (k + 4) u v') v v1 v2 v3) u v1 v2 v3 := by
  obtain ⟨w, b⟩ := u
  obtain ⟨y, m, q, o, b'⟩ := v
  obtain ⟨e, hR⟩ := I
  have e' : b = b' := e
  subst e'
  have hR' : cr_R w b o := hR
  unfold wpX_dueDays wpY_dueDays
  dsimp only
  refine cx_rule (fun c => br_f (by decide) ?_) (fun c => br_t rfl (cy_rule (fun g => absurd g c) (fun _ => br_f (by decide) ⟨rfl, rfl, hR⟩)))
  obtain ⟨r, hr, rfl⟩ := c
  by_cases z : v3 < 0
  · exact br_t z (cy_rule (fun _ => br_t rfl (br_t z ⟨rfl, rfl, hR⟩)) (fun g => absurd ⟨r, hr, rfl⟩ g))
  · refine br_f z ?_
    obtain ⟨c, hc, rfl⟩ := nI_of z
    by_cases z1 : nI c ≤ 1000
    · refine br_t z1 ?_
      have hc2 : c ≤ 1000 := (nI_leI hc (by decide)).mp z1
      refine pk_le c 0 (fun c0 => ?_) (fun c0 => ?_)
      · have ec : c = 0 := by omega
        subst ec
        refine ⟨1, br_t (by decide) (cy_rule (fun _ => br_t rfl (br_f z (br_t z1 ⟨1, br_t (by decide) (br_t (by decide) ⟨rfl, rfl, hR⟩)⟩))) (fun g => absurd ⟨r, hr, rfl⟩ g))⟩
      · by_cases z2 : v2 < 0
        · refine br_t z2 (cy_rule (fun _ => br_t rfl (br_f z (br_t z1 ⟨1, br_f (nI_nle c0 (by omega)) ?_⟩))) (fun g => absurd ⟨r, hr, rfl⟩ g))
          rw [Int32.add_zero]
          exact cy_day (fun g => absurd g (cf_neg (by decide) z2)) (fun _ => br_f (by decide) ⟨rfl, rfl, hR⟩)
        · obtain ⟨a, ha, rfl⟩ := nI_of z2
          refine br_f z2 ?_
          rw [show (146097 : Int32) - nI c = nI (146097 - c) by rw [show (146097 : Int32) = nI 146097 from rfl, pk_sub (by omega)]]
          refine pk_le a (146097 - c) (fun g => ?_) (fun g => ?_)
          · refine ⟨_, cx_dd48 hR' hr (show a + c ≤ 146097 by omega) ?_ (c + 1) 0 (by omega) (by omega)⟩
            refine cy_rule (fun _ => br_t rfl (br_f z (br_t z1 ⟨_, cy_dd27 hR' hr c0 (by omega) (fun _ _ _ => ⟨rfl, rfl, hR⟩) (c + 1) 0 (by omega) (by omega)⟩))) (fun g => absurd ⟨r, hr, rfl⟩ g)
          · refine cy_rule (fun _ => br_t rfl (br_f z (br_t z1 ⟨_, cy_dd27b c0 hc2 (by omega) ha ⟨rfl, rfl, hR⟩ (c + 1) 0 c0 (Or.inr rfl) (by omega)⟩))) (fun g => absurd ⟨r, hr, rfl⟩ g)
    · exact br_f z1 (cy_rule (fun _ => br_t rfl (br_f z (br_f z1 ⟨rfl, rfl, hR⟩))) (fun g => absurd ⟨r, hr, rfl⟩ g))
end
