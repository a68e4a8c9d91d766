/-! the searches' answers: the first and the last in a stretch, or -1; minutes: -2 -/
def cs_U (P : Nat → Bool) (lo hi : Nat) (r : Int32) : Prop :=
  (∃ d, lo ≤ d ∧ d < hi ∧ P d = true ∧ (∀ i, lo ≤ i → i < d → P i = false) ∧ r = nI d) ∨ ((∀ i, lo ≤ i → i < hi → P i = false) ∧ r = -1)
def cs_V (P : Nat → Bool) (lo hi : Nat) (r : Int32) : Prop :=
  (∃ d, lo ≤ d ∧ d < hi ∧ P d = true ∧ (∀ i, d < i → i < hi → P i = false) ∧ r = nI d) ∨ ((∀ i, lo ≤ i → i < hi → P i = false) ∧ r = -1)
def cs_A (D T : Nat → Bool) (m : Nat) : Bool := D (m / 1440) && T (m % 1440)
theorem cs_Aof {D T : Nat → Bool} (d t : Nat) (ht : t < 1440) : cs_A D T (1440 * d + t) = (D d && T t) := by
  unfold cs_A
  rw [show (1440 * d + t) / 1440 = d by omega, show (1440 * d + t) % 1440 = t by omega]
theorem cs_Af {D T : Nat → Bool} (i : Nat) (h : D (i / 1440) = false) : cs_A D T i = false := by
  unfold cs_A
  rw [h, Bool.false_and]
theorem cs_At {D T : Nat → Bool} (i : Nat) (h : T (i % 1440) = false) : cs_A D T i = false := by
  unfold cs_A
  rw [h, Bool.and_false]
def cs_N (A : Nat → Bool) (s : Nat) (r : Int64) : Prop :=
  (∃ m, s ≤ m ∧ m < 210379680 ∧ A m = true ∧ (∀ i, s ≤ i → i < m → A i = false) ∧ r = lN m) ∨ ((∀ i, s ≤ i → i < 210379680 → A i = false) ∧ r = -2)
def cs_P (A : Nat → Bool) (s : Nat) (r : Int64) : Prop :=
  (∃ m, m < s ∧ A m = true ∧ (∀ i, m < i → i < s → A i = false) ∧ r = lN m) ∨ ((∀ i, i < s → A i = false) ∧ r = -2)
theorem cs_N_u {A : Nat → Bool} {s : Nat} {r r' : Int64} (h : cs_N A s r) (h' : cs_N A s r') : r' = r := by
  rcases h with ⟨m, a, b, c, d, rfl⟩ | ⟨a, rfl⟩
  · rcases h' with ⟨m', a', b', c', d', rfl⟩ | ⟨a', rfl⟩
    · rcases Nat.lt_trichotomy m m' with z | z | z
      · have := d' m a z; rw [c] at this; exact absurd this (by decide)
      · rw [z]
      · have := d m' a' z; rw [c'] at this; exact absurd this (by decide)
    · have := a' m a b; rw [c] at this; exact absurd this (by decide)
  · rcases h' with ⟨m', a', b', c', d', rfl⟩ | ⟨a', rfl⟩
    · have := a m' a' b'; rw [c'] at this; exact absurd this (by decide)
    · rfl
theorem cs_P_u {A : Nat → Bool} {s : Nat} {r r' : Int64} (h : cs_P A s r) (h' : cs_P A s r') : r' = r := by
  rcases h with ⟨m, a, c, d, rfl⟩ | ⟨a, rfl⟩
  · rcases h' with ⟨m', a', c', d', rfl⟩ | ⟨a', rfl⟩
    · rcases Nat.lt_trichotomy m m' with z | z | z
      · have := d m' z a'; rw [c'] at this; exact absurd this (by decide)
      · rw [z]
      · have := d' m z a; rw [c] at this; exact absurd this (by decide)
    · have := a' m a; rw [c] at this; exact absurd this (by decide)
  · rcases h' with ⟨m', a', c', d', rfl⟩ | ⟨a', rfl⟩
    · have := a m' a'; rw [c'] at this; exact absurd this (by decide)
    · rfl
/-! the way by days: nothing below this day and time, and here it is -/
theorem cs_Nhit {D T : Nat → Bool} {s d t : Nat} (hs : s ≤ 1440 * d + t) (hd : d < 146097) (ht : t < 1440) (h : ∀ i, s ≤ i → i < 1440 * d + t → cs_A D T i = false) (hD : D d = true) (hT : T t = true) : cs_N (cs_A D T) s (lN (1440 * d + t)) :=
  Or.inl ⟨1440 * d + t, hs, by omega, by rw [cs_Aof d t ht, hD, hT]; rfl, h, rfl⟩
theorem cs_Nend {D T : Nat → Bool} {s : Nat} (h : ∀ i, s ≤ i → i < 1440 * 146097 → cs_A D T i = false) : cs_N (cs_A D T) s (-2) := Or.inr ⟨fun i a b => h i a (by omega), rfl⟩
theorem cs_Nt {D T : Nat → Bool} {s d t : Nat} (ht : t < 1440) (h : ∀ i, s ≤ i → i < 1440 * d + t → cs_A D T i = false) (hT : T t = false) : ∀ i, s ≤ i → i < 1440 * d + (t + 1) → cs_A D T i = false := by
  intro i a b
  rcases Nat.lt_or_ge i (1440 * d + t) with z | z
  · exact h i a z
  · exact cs_At i (by rw [show i % 1440 = t by omega]; exact hT)
theorem cs_Nd {D T : Nat → Bool} {s d t : Nat} (h : ∀ i, s ≤ i → i < 1440 * d + t → cs_A D T i = false) (hD : D d = false) : ∀ i, s ≤ i → i < 1440 * (d + 1) + 0 → cs_A D T i = false := by
  intro i a b
  rcases Nat.lt_or_ge i (1440 * d) with z | z
  · exact h i a (by omega)
  · exact cs_Af i (by rw [show i / 1440 = d by omega]; exact hD)
theorem cs_Phit {D T : Nat → Bool} {s d t : Nat} (hs : 1440 * d + t < s) (ht : t < 1440) (h : ∀ i, 1440 * d + t < i → i < s → cs_A D T i = false) (hD : D d = true) (hT : T t = true) : cs_P (cs_A D T) s (lN (1440 * d + t)) :=
  Or.inl ⟨1440 * d + t, hs, by rw [cs_Aof d t ht, hD, hT]; rfl, h, rfl⟩
theorem cs_Pend {D T : Nat → Bool} {s : Nat} (h : ∀ i, i < s → cs_A D T i = false) : cs_P (cs_A D T) s (-2) := Or.inr ⟨h, rfl⟩
/-! down: nothing at or above e = 1440 * d + t, t counted from 1 -/
theorem cs_Pt {D T : Nat → Bool} {s d t : Nat} (ht : t < 1440) (h : ∀ i, 1440 * d + (t + 1) ≤ i → i < s → cs_A D T i = false) (hT : T t = false) : ∀ i, 1440 * d + t ≤ i → i < s → cs_A D T i = false := by
  intro i a b
  rcases Nat.lt_or_ge i (1440 * d + (t + 1)) with z | z
  · exact cs_At i (by rw [show i % 1440 = t by omega]; exact hT)
  · exact h i z b
theorem cs_Pd {D T : Nat → Bool} {s d t : Nat} (ht : t ≤ 1440) (h : ∀ i, 1440 * d + t ≤ i → i < s → cs_A D T i = false) (hD : D d = false) : ∀ i, 1440 * d ≤ i → i < s → cs_A D T i = false := by
  intro i a b
  rcases Nat.lt_or_ge i (1440 * d + t) with z | z
  · exact cs_Af i (by rw [show i / 1440 = d by omega]; exact hD)
  · exact h i z b
/-! the way by a time, then by days -/
theorem cs_N1 {D T : Nat → Bool} {d t0 t : Nat} (hd : d < 146097) (h0 : t0 ≤ t) (ht : t < 1440) (hm : ∀ i, t0 ≤ i → i < t → T i = false) (hD : D d = true) (hT : T t = true) : cs_N (cs_A D T) (1440 * d + t0) (lN (1440 * d + t)) :=
  cs_Nhit (by omega) hd ht (fun i a b => cs_At i (hm _ (by omega) (by omega))) hD hT
theorem cs_N0 {D T : Nat → Bool} {d t0 : Nat} (h : D d = false ∨ ∀ i, t0 ≤ i → i < 1440 → T i = false) : ∀ i, 1440 * d + t0 ≤ i → i < 1440 * (d + 1) → cs_A D T i = false := by
  intro i a b
  rcases h with h | h
  · exact cs_Af i (by rw [show i / 1440 = d by omega]; exact h)
  · exact cs_At i (h _ (by omega) (by omega))
theorem cs_N2 {D T : Nat → Bool} {d0 t0 d t : Nat} (h : D d0 = false ∨ ∀ i, t0 ≤ i → i < 1440 → T i = false) (h0 : t0 < 1440) (h1 : d0 + 1 ≤ d) (hd : d < 146097) (hD : D d = true) (hm : ∀ i, d0 + 1 ≤ i → i < d → D i = false) (ht : t < 1440) (hT : T t = true) (hn : ∀ i, i < t → T i = false) : cs_N (cs_A D T) (1440 * d0 + t0) (lN (1440 * d + t)) := by
  refine cs_Nhit (by omega) hd ht (fun i a b => ?_) hD hT
  rcases Nat.lt_or_ge i (1440 * (d0 + 1)) with z | z
  · exact cs_N0 h i a z
  · rcases Nat.lt_or_ge i (1440 * d) with y | y
    · exact cs_Af i (hm _ (by omega) (by omega))
    · exact cs_At i (hn _ (by omega))
theorem cs_N3 {D T : Nat → Bool} {d0 t0 : Nat} (h : D d0 = false ∨ ∀ i, t0 ≤ i → i < 1440 → T i = false) (hm : ∀ i, d0 + 1 ≤ i → i < 146097 → D i = false) : cs_N (cs_A D T) (1440 * d0 + t0) (-2) := by
  refine cs_Nend (fun i a b => ?_)
  rcases Nat.lt_or_ge i (1440 * (d0 + 1)) with z | z
  · exact cs_N0 h i a z
  · exact cs_Af i (hm _ (by omega) (by omega))
theorem cs_P1 {D T : Nat → Bool} {d t0 t : Nat} (h0 : t ≤ t0) (ht0 : t0 < 1440) (hm : ∀ i, t < i → i < t0 + 1 → T i = false) (hD : D d = true) (hT : T t = true) : cs_P (cs_A D T) (1440 * d + t0 + 1) (lN (1440 * d + t)) :=
  cs_Phit (by omega) (by omega) (fun i a b => cs_At i (hm _ (by omega) (by omega))) hD hT
theorem cs_P0 {D T : Nat → Bool} {d t0 : Nat} (ht0 : t0 < 1440) (h : D d = false ∨ ∀ i, i < t0 + 1 → T i = false) : ∀ i, 1440 * d ≤ i → i < 1440 * d + t0 + 1 → cs_A D T i = false := by
  intro i a b
  rcases h with h | h
  · exact cs_Af i (by rw [show i / 1440 = d by omega]; exact h)
  · exact cs_At i (h _ (by omega))
theorem cs_P2 {D T : Nat → Bool} {d0 t0 d t : Nat} (h : D d0 = false ∨ ∀ i, i < t0 + 1 → T i = false) (h0 : t0 < 1440) (h1 : d < d0) (hD : D d = true) (hm : ∀ i, d < i → i < d0 → D i = false) (ht : t < 1440) (hT : T t = true) (hn : ∀ i, t < i → i < 1440 → T i = false) : cs_P (cs_A D T) (1440 * d0 + t0 + 1) (lN (1440 * d + t)) := by
  refine cs_Phit (by omega) ht (fun i a b => ?_) hD hT
  rcases Nat.lt_or_ge i (1440 * d0) with z | z
  · rcases Nat.lt_or_ge i (1440 * (d + 1)) with y | y
    · exact cs_At i (hn _ (by omega) (by omega))
    · exact cs_Af i (hm _ (by omega) (by omega))
  · exact cs_P0 h0 h i z b
theorem cs_P3 {D T : Nat → Bool} {d0 t0 : Nat} (h : D d0 = false ∨ ∀ i, i < t0 + 1 → T i = false) (h0 : t0 < 1440) (hm : ∀ i, i < d0 → D i = false) : cs_P (cs_A D T) (1440 * d0 + t0 + 1) (-2) := by
  refine cs_Pend (fun i a => ?_)
  rcases Nat.lt_or_ge i (1440 * d0) with z | z
  · exact cs_Af i (hm _ (by omega))
  · exact cs_P0 h0 h i z a
