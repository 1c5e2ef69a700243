/-! LEAVES: numbers' own methods -/
theorem jle (x y : Int64) : (x ≤ y) = (x.toInt ≤ y.toInt) := propext Int64.le_iff_toInt_le
theorem jlt (x y : Int64) : (x < y) = (x.toInt < y.toInt) := propext Int64.lt_iff_toInt_lt
theorem jeq (x y : Int64) : (x = y) = (x.toInt = y.toInt) := propext Int64.toInt_inj.symm
theorem jrng (x : Int64) : -9223372036854775808 ≤ x.toInt ∧ x.toInt < 9223372036854775808 := ⟨by have := Int64.le_toInt x; omega, by have := Int64.toInt_lt x; omega⟩
theorem jP {x y : Int64} (h : -9223372036854775808 ≤ x.toInt + y.toInt ∧ x.toInt + y.toInt < 9223372036854775808) : (x + y).toInt = x.toInt + y.toInt := by
  rw [Int64.toInt_add, Int.bmod_def]; split <;> omega
theorem jM {x y : Int64} (h : -9223372036854775808 ≤ x.toInt - y.toInt ∧ x.toInt - y.toInt < 9223372036854775808) : (x - y).toInt = x.toInt - y.toInt := by
  rw [Int64.toInt_sub, Int.bmod_def]; split <;> omega
theorem jX {x y : Int64} (h : -9223372036854775808 ≤ x.toInt * y.toInt ∧ x.toInt * y.toInt < 9223372036854775808) : (x * y).toInt = x.toInt * y.toInt := by
  rw [Int64.toInt_mul, Int.bmod_def]; split <;> omega
theorem jN {x : Int64} (h : x.toInt ≠ -9223372036854775808) : (-x).toInt = -x.toInt := by
  have := jrng x
  rw [Int64.toInt_neg, Int.bmod_def]; split <;> omega
theorem jDt {x y : Int64} (h : y.toInt ≠ -1 ∨ x.toInt ≠ -9223372036854775808) : (x / y).toInt = x.toInt.tdiv y.toInt := by
  rcases h with h | h
  · rw [Int64.toInt_div_of_ne_right _ _ (fun e => h (by rw [e]; rfl))]
  · rw [Int64.toInt_div_of_ne_left _ _ (fun e => h (by rw [e]; rfl))]
theorem jRt {x y : Int64} : (x % y).toInt = x.toInt.tmod y.toInt := Int64.toInt_mod _ _
theorem j32 {x : Int64} (h : -2147483648 ≤ x.toInt ∧ x.toInt < 2147483648) : (Int64.toInt32 x).toInt = x.toInt := by
  rw [Int64.toInt_toInt32, Int.bmod_def]; split <;> omega
theorem sJ_max {d : Nat} {Φ : Po} {σ : Sg} {x y : Int32} (h : ∀ v : Int32, v.toInt = max x.toInt y.toInt → Φ (some (.int v)) σ) : wp true (d + 1) nJ_max [.int x, .int y] σ Φ := by
  apply wJ_max
  simp only [pI, pL, pR, pV, i10, ↓reduceIte, eJ_max_0, eJ_max_9, eJ_max_10]
  try simp only [cond, zB_1, zB_0, lg_cmp_ge, lg_cmp_le, lg_cmp_gt, lg_cmp_lt, lg_cmp_eq]
  try simp only [ne_eq, not_false_eq_true, true_and, and_true, ↓reduceIte, ile, ilt, ieq, jle, jlt, jeq, Int32.toInt_toInt64, Int32.reduceToInt, Int64.reduceToInt, Int.reduceNeg, Int.reduceEq, Int.reduceLT, Int.reduceLE, and_self, and_false, false_and]
  split
  · exact h _ (by omega)
  · exact h _ (by omega)
theorem sJ_min {d : Nat} {Φ : Po} {σ : Sg} {x y : Int32} (h : ∀ v : Int32, v.toInt = min x.toInt y.toInt → Φ (some (.int v)) σ) : wp true (d + 1) nJ_min [.int x, .int y] σ Φ := by
  apply wJ_min
  simp only [pI, pL, pR, pV, i10, ↓reduceIte, eJ_min_0, eJ_min_9, eJ_min_10]
  try simp only [cond, zB_1, zB_0, lg_cmp_ge, lg_cmp_le, lg_cmp_gt, lg_cmp_lt, lg_cmp_eq]
  try simp only [ne_eq, not_false_eq_true, true_and, and_true, ↓reduceIte, ile, ilt, ieq, jle, jlt, jeq, Int32.toInt_toInt64, Int32.reduceToInt, Int64.reduceToInt, Int.reduceNeg, Int.reduceEq, Int.reduceLT, Int.reduceLE, and_self, and_false, false_and]
  split
  · exact h _ (by omega)
  · exact h _ (by omega)
theorem sJ_maxL {d : Nat} {Φ : Po} {σ : Sg} {x y : Int64} (h : ∀ v : Int64, v.toInt = max x.toInt y.toInt → Φ (some (.long v)) σ) : wp true (d + 1) nJ_maxL [.long x, .long y] σ Φ := by
  apply wJ_maxL
  simp only [pI, pL, pR, pV, i10, ↓reduceIte, eJ_maxL_0, eJ_maxL_10, eJ_maxL_11]
  try simp only [cond, zB_1, zB_0, lg_cmp_ge, lg_cmp_le, lg_cmp_gt, lg_cmp_lt, lg_cmp_eq]
  try simp only [ne_eq, not_false_eq_true, true_and, and_true, ↓reduceIte, ile, ilt, ieq, jle, jlt, jeq, Int32.toInt_toInt64, Int32.reduceToInt, Int64.reduceToInt, Int.reduceNeg, Int.reduceEq, Int.reduceLT, Int.reduceLE, and_self, and_false, false_and]
  split
  · exact h _ (by omega)
  · exact h _ (by omega)
theorem sJ_minL {d : Nat} {Φ : Po} {σ : Sg} {x y : Int64} (h : ∀ v : Int64, v.toInt = min x.toInt y.toInt → Φ (some (.long v)) σ) : wp true (d + 1) nJ_minL [.long x, .long y] σ Φ := by
  apply wJ_minL
  simp only [pI, pL, pR, pV, i10, ↓reduceIte, eJ_minL_0, eJ_minL_10, eJ_minL_11]
  try simp only [cond, zB_1, zB_0, lg_cmp_ge, lg_cmp_le, lg_cmp_gt, lg_cmp_lt, lg_cmp_eq]
  try simp only [ne_eq, not_false_eq_true, true_and, and_true, ↓reduceIte, ile, ilt, ieq, jle, jlt, jeq, Int32.toInt_toInt64, Int32.reduceToInt, Int64.reduceToInt, Int.reduceNeg, Int.reduceEq, Int.reduceLT, Int.reduceLE, and_self, and_false, false_and]
  split
  · exact h _ (by omega)
  · exact h _ (by omega)
def iabs (x : Int) : Int := if 0 ≤ x then x else -x
theorem sJ_abs {d : Nat} {Φ : Po} {σ : Sg} {x : Int32} (hx : x.toInt ≠ -2147483648) (h : ∀ v : Int32, v.toInt = iabs x.toInt → Φ (some (.int v)) σ) : wp true (d + 1) nJ_abs [.int x] σ Φ := by
  apply wJ_abs
  simp only [pI, pL, pR, pV, i10, ↓reduceIte, eJ_abs_0, eJ_abs_9, eJ_abs_10]
  try simp only [cond, zB_1, zB_0, lg_cmp_ge, lg_cmp_le, lg_cmp_gt, lg_cmp_lt, lg_cmp_eq]
  try simp only [ne_eq, not_false_eq_true, true_and, and_true, ↓reduceIte, ile, ilt, ieq, jle, jlt, jeq, Int32.toInt_toInt64, Int32.reduceToInt, Int64.reduceToInt, Int.reduceNeg, Int.reduceEq, Int.reduceLT, Int.reduceLE, and_self, and_false, false_and]
  unfold iabs at h
  split
  · exact h _ (by rw [if_pos (by assumption)])
  · exact h _ (by rw [if_neg (by assumption), tN hx])
theorem xor_sign {x y : Int32} (hy : 0 ≤ y.toInt) : (0 ≤ (x ^^^ y).toInt) ↔ 0 ≤ x.toInt := by
  have e1 : (x ^^^ y).toBitVec.msb = decide ((x ^^^ y).toInt < 0) := BitVec.msb_eq_toInt
  have e2 : x.toBitVec.msb = decide (x.toInt < 0) := BitVec.msb_eq_toInt
  have e3 : y.toBitVec.msb = decide (y.toInt < 0) := BitVec.msb_eq_toInt
  rw [Int32.toBitVec_xor, BitVec.msb_xor, e2, e3, decide_eq_false (by omega : ¬ y.toInt < 0), Bool.xor_false] at e1
  have := decide_eq_decide.mp e1
  omega
theorem tmod_r {x y : Int} (hy : 0 < y) : -y < x.tmod y ∧ x.tmod y < y ∧ (0 ≤ x → 0 ≤ x.tmod y) ∧ (x ≤ 0 → x.tmod y ≤ 0) := by
  by_cases hx : 0 ≤ x
  · have a2 := Int.tmod_eq_emod_of_nonneg (b := y) hx
    have a3 := Int.emod_lt_of_pos x hy
    have a4 := Int.emod_nonneg x (by omega : y ≠ 0)
    have : x ≤ 0 → x = 0 := fun q => by omega
    refine ⟨by omega, by omega, by omega, fun q => ?_⟩
    rw [this q]
    simp
  · have a1 : (-x).tmod y = -(x.tmod y) := Int.neg_tmod ..
    have a2 := Int.tmod_eq_emod_of_nonneg (b := y) (by omega : 0 ≤ -x)
    have a3 := Int.emod_lt_of_pos (-x) hy
    have a4 := Int.emod_nonneg (-x) (by omega : y ≠ 0)
    omega
theorem ediv_of_tdiv {x y : Int} (hy : 0 < y) : x / y = (if x.tmod y < 0 then x.tdiv y - 1 else x.tdiv y) ∧ x % y = (if x.tmod y < 0 then x.tmod y + y else x.tmod y) := by
  have h := tmod_r (x := x) hy
  have hd : x = y * x.tdiv y + x.tmod y := (Int.mul_tdiv_add_tmod x y).symm
  refine (Int.ediv_emod_unique hy).mpr ?_
  split
  · refine ⟨?_, by omega, by omega⟩
    rw [Int.mul_sub]
    omega
  · exact ⟨by omega, by omega, by omega⟩
theorem sJ_floorDiv {d : Nat} {Φ : Po} {σ : Sg} {x y : Int32} (hy : 0 < y.toInt) (h : ∀ v : Int32, v.toInt = x.toInt / y.toInt → Φ (some (.int v)) σ) : wp true (d + 1) nJ_floorDiv [.int x, .int y] σ Φ := by
  apply wJ_floorDiv
  simp only [pI, pL, pR, pV, i10, ↓reduceIte, eJ_floorDiv_0, eJ_floorDiv_21]
  have hx := trng x
  have hyr := trng y
  have e1 : (x / y).toInt = x.toInt.tdiv y.toInt := tDt (by omega)
  have hm : y.toInt * x.toInt.tdiv y.toInt + x.toInt.tmod y.toInt = x.toInt := Int.mul_tdiv_add_tmod _ _
  have hr := tmod_r (x := x.toInt) hy
  have hq := (ediv_of_tdiv (x := x.toInt) hy).1
  have ha : (x.toInt.tdiv y.toInt).natAbs = x.toInt.natAbs / y.toInt.natAbs := Int.natAbs_tdiv _ _
  refine ⟨fun e => by rw [e] at hy; exact absurd hy (by decide), ?_⟩
  split
  next h0 =>
    rw [ile] at h0
    have h0 : 0 ≤ x.toInt := (xor_sign (by omega)).mp h0
    exact h _ (by rw [e1, hq, if_neg (by omega)])
  next h0 =>
    rw [ile] at h0
    have h0 : ¬ 0 ≤ x.toInt := fun q => h0 ((xor_sign (by omega)).mpr q)
    have ep : (x / y * y).toInt = y.toInt * x.toInt.tdiv y.toInt := by
      have : (x / y).toInt * y.toInt = y.toInt * x.toInt.tdiv y.toInt := by rw [e1, Int.mul_comm]
      rw [tX (by rw [this]; omega), this]
    split
    next h1 =>
      rw [ieq, ep] at h1
      exact h _ (by rw [e1, hq, if_neg (by omega)])
    next h1 =>
      rw [ieq, ep] at h1
      have hy2 : 2 ≤ y.toInt := by
        apply Classical.byContradiction
        intro q
        have e : y.toInt = 1 := by omega
        rw [e] at hm h1
        rw [Int.tmod_one] at hm
        omega
      have hdv : x.toInt.natAbs / y.toInt.natAbs ≤ x.toInt.natAbs / 2 := Nat.div_le_div_left (by omega) (by omega)
      exact h _ (by rw [tM (by rw [e1, tl1]; omega), e1, hq, if_pos (by omega)]; rfl)
