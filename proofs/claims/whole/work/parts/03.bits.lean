/-! bits of a long, answers of boolean methods, the fields' ranges -/
def cb_b (w : Int64) (v : Nat) : Bool := w.toBitVec.getLsbD v
theorem cb_0 (v : Nat) : cb_b 0 v = false := BitVec.getLsbD_zero
theorem cb_sh : ∀ k, k < 64 → (((nI k).toInt64 &&& 63).toBitVec.smod 64).toNat = k := by decide +kernel
theorem cb_one : ∀ i, i < 64 → (1 : Int64).toBitVec.getLsbD i = decide (i = 0) := by decide +kernel
theorem cb_tp : ∀ l, l < 64 → ((1 : Int64) <<< ((nI l).toInt64 &&& 63)).toBitVec = BitVec.twoPow 64 l := by decide +kernel
theorem cb_has (w : Int64) {v : Nat} (hv : v < 64) : ((w >>> ((nI v).toInt64 &&& 63)) &&& 1) = if cb_b w v then 1 else 0 := by
  have e : (w >>> ((nI v).toInt64 &&& 63)).toBitVec = w.toBitVec.sshiftRight v := by
    show w.toBitVec.sshiftRight (((nI v).toInt64 &&& 63).toBitVec.smod 64).toNat = _
    rw [cb_sh v hv]
  have hb' : cb_b w v = w.toBitVec.getLsbD v := rfl
  rw [hb']
  cases hb : w.toBitVec.getLsbD v
  · rw [if_neg (by decide)]
    apply Int64.toBitVec_inj.mp
    rw [Int64.toBitVec_and, e]
    apply BitVec.eq_of_getLsbD_eq
    intro i hi
    show _ = (0#64).getLsbD i
    rw [BitVec.getLsbD_zero, BitVec.getLsbD_and, cb_one i hi, BitVec.getLsbD_sshiftRight]
    by_cases z : i = 0
    · subst z; rw [Nat.add_zero, if_pos hv, hb]; rfl
    · rw [decide_eq_false z, Bool.and_false]
  · rw [if_pos rfl]
    apply Int64.toBitVec_inj.mp
    rw [Int64.toBitVec_and, e]
    apply BitVec.eq_of_getLsbD_eq
    intro i hi
    rw [BitVec.getLsbD_and, cb_one i hi, BitVec.getLsbD_sshiftRight]
    by_cases z : i = 0
    · subst z; rw [Nat.add_zero, if_pos hv, hb]; rfl
    · rw [decide_eq_false z, Bool.and_false]
theorem cb_or (w : Int64) {v : Nat} (i : Nat) (hv : v < 64) : cb_b (w ||| ((1 : Int64) <<< ((nI v).toInt64 &&& 63))) i = (cb_b w i || decide (v = i)) := by
  unfold cb_b
  rw [Int64.toBitVec_or, BitVec.getLsbD_or, cb_tp v hv, BitVec.getLsbD_twoPow, decide_eq_true hv, Bool.true_and]
def cb_i (b : Bool) : Int32 := if b then 1 else 0
theorem cb_z {b : Bool} {A B : Prop} (f : b = false → A) (t : b = true → B) : (cb_i b = 0 → A) ∧ (¬ cb_i b = 0 → B) := by
  cases b
  · exact ⟨fun _ => f rfl, fun h => absurd rfl h⟩
  · exact ⟨fun h => absurd h (by decide), fun _ => t rfl⟩
theorem cb_01 (b : Bool) : cb_i b = 0 ∨ cb_i b = 1 := by cases b <;> decide
theorem cb_inj {a b : Bool} (h : cb_i a = cb_i b) : a = b := by
  revert h
  cases a <;> cases b <;> decide
theorem cb_c {p : Prop} {A B : Prop} [Decidable p] (t : p → A) (f : ¬ p → B) : (cb_i (decide p) = 0 → B) ∧ (¬ cb_i (decide p) = 0 → A) :=
  cb_z (fun h => f (of_decide_eq_false h)) (fun h => t (of_decide_eq_true h))
def cc_lo (f : Nat) : Nat := if f = 2 ∨ f = 3 then 1 else 0
def cc_hi (f : Nat) : Nat := if f = 0 then 59 else if f = 1 then 23 else if f = 2 then 31 else if f = 3 then 12 else 6
theorem cc_lo_b (f : Nat) : cc_lo f ≤ 1 := by unfold cc_lo; split <;> omega
theorem cc_hi_b (f : Nat) : 6 ≤ cc_hi f ∧ cc_hi f ≤ 59 := by
  unfold cc_hi
  split
  · omega
  · split
    · omega
    · split
      · omega
      · split <;> omega
/-! Int32 by its toInt -/
theorem ci_le {x y : Int32} : x ≤ y ↔ x.toInt ≤ y.toInt := Int32.le_iff_toInt_le
theorem ci_lt {x y : Int32} : x < y ↔ x.toInt < y.toInt := Int32.lt_iff_toInt_lt
theorem ci_0 : (0 : Int32).toInt = 0 := by decide
theorem ci_m1 : (-1 : Int32).toInt = -1 := by decide
theorem ci_neg {x : Int32} : x < 0 ↔ x.toInt < 0 := by rw [ci_lt, ci_0]
theorem ci_div0 {x : Int32} (d : Nat) (h : x < 0) (h0 : 0 < d) (hd : d < 2 ^ 31) : (x / nI d).toInt ≤ 0 := by
  have hx : x.toInt < 0 := ci_neg.mp h
  have e : (nI d).toInt = d := nI_toInt hd
  have ne : nI d ≠ -1 := by
    intro z
    rw [z, ci_m1] at e
    omega
  rw [Int32.toInt_div_of_ne_right _ _ ne, e]
  have h2 := Int.tdiv_nonneg (a := -x.toInt) (b := d) (by omega) (by omega)
  rw [show x.toInt = -(-x.toInt) by omega, Int.neg_tdiv]
  omega
theorem ci_nI {x : Int32} {n : Nat} (h : x.toInt = n) (hn : n < 2 ^ 31) : x = nI n := Int32.toInt_inj.mp (by rw [h, nI_toInt hn])
