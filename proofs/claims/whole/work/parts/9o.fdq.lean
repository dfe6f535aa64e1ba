/-! floor division, as the class and as the reference have it -/
section FDQS
theorem rmI_toInt (x y : Int32) : (x - x / y * y).toInt = x.toInt.tmod y.toInt := by
  have h1 : (x - x / y * y).toInt = (x.toInt - x.toInt.tdiv y.toInt * y.toInt).bmod (2 ^ 32) := by
    rw [Int32.toInt_sub, Int32.toInt_mul, Int32.toInt_div]
    simp
  rw [h1]
  have h2 : x.toInt - x.toInt.tdiv y.toInt * y.toInt = x.toInt.tmod y.toInt := by
    have := Int.tmod_add_tdiv_mul x.toInt y.toInt
    omega
  rw [h2]
  have a1 := Int32.toInt_lt x
  have a2 := Int32.le_toInt x
  have : (x.toInt.tmod y.toInt).natAbs ≤ x.toInt.natAbs := by
    rw [Int.natAbs_tmod]; exact Nat.mod_le _ _
  by_cases hx : x.toInt.tmod y.toInt ≤ 0
  · exact Int.bmod_eq_of_le (by omega) (by omega)
  · have : 0 ≤ x.toInt := by
      by_cases h0 : 0 ≤ x.toInt
      · exact h0
      · exfalso
        have q := Int.tmod_nonneg (a := -x.toInt) y.toInt (by omega)
        rw [Int.neg_tmod] at q
        omega
    exact Int.bmod_eq_of_le (by omega) (by omega)
theorem rmI_sgn (x y : Int32) (h : ¬ x - x / y * y = 0) : x - x / y * y < 0 ↔ x < 0 := by
  have h0 : x.toInt.tmod y.toInt ≠ 0 := fun q => h (Int32.toInt_inj.mp (by rw [rmI_toInt, q]; rfl))
  rw [Int32.lt_iff_toInt_lt, Int32.lt_iff_toInt_lt, rmI_toInt, Int32.toInt_zero]
  constructor
  · intro q
    by_cases hx : 0 ≤ x.toInt
    · have := Int.tmod_nonneg (a := x.toInt) y.toInt hx; omega
    · omega
  · intro q
    have := Int.tmod_nonneg (a := -x.toInt) y.toInt (by omega)
    rw [Int.neg_tmod] at this
    omega
theorem neg_msb (x : Int32) : x < 0 ↔ x.toBitVec.msb = true := by
  rw [Int32.lt_iff_toInt_lt, Int32.toInt_zero, BitVec.msb_eq_toInt, decide_eq_true_iff]
  rfl
theorem xor_sgn (x y : Int32) : (0 ≤ x ^^^ y) ↔ (x < 0 ↔ y < 0) := by
  have h : (0 ≤ x ^^^ y) ↔ ¬ (x ^^^ y < 0) := by rw [Int32.le_iff_toInt_le, Int32.lt_iff_toInt_lt]; omega
  rw [h, neg_msb, neg_msb, neg_msb, Int32.toBitVec_xor, BitVec.msb_xor]
  cases x.toBitVec.msb <;> cases y.toBitVec.msb <;> decide
theorem fdiv_q (x y : Int32) (hy : ¬ y = 0) : fdiv x y = qdiv x y := by
  unfold fdiv qdiv
  have e0 : x / y * y = x ↔ x - x / y * y = 0 := by
    constructor
    · intro q; rw [q, Int32.sub_self]
    · intro q
      have := congrArg (· + x / y * y) q
      simp only [Int32.sub_add_cancel, Int32.zero_add] at this
      exact this.symm
  have bi : ∀ p q : Prop, [Decidable p] → [Decidable q] → (bI (decide p) = bI (decide q) ↔ (p ↔ q)) := by
    intro p q _ _
    by_cases hp : p <;> by_cases hq : q <;> simp [hp, hq] <;> decide +kernel
  by_cases hr : x - x / y * y = 0
  · have hz : ¬ (¬ x - x / y * y = 0 ∧ ¬ bI (decide (x - x / y * y < 0)) = bI (decide (y < 0))) := fun q => q.1 hr
    rw [if_neg hz, if_pos (e0.mpr hr)]
    split <;> rfl
  · have hs := rmI_sgn x y hr
    have hb := bi (x - x / y * y < 0) (y < 0)
    by_cases hx : 0 ≤ x ^^^ y
    · have hz : ¬ (¬ x - x / y * y = 0 ∧ ¬ bI (decide (x - x / y * y < 0)) = bI (decide (y < 0))) := fun q => q.2 (hb.mpr (hs.trans ((xor_sgn x y).mp hx)))
      rw [if_pos hx, if_neg hz]
    · have hz : ¬ x - x / y * y = 0 ∧ ¬ bI (decide (x - x / y * y < 0)) = bI (decide (y < 0)) := ⟨hr, fun q => hx ((xor_sgn x y).mpr (hs.symm.trans (hb.mp q)))⟩
      rw [if_neg hx, if_neg (fun q => hr (e0.mp q)), if_pos hz]
end FDQS
