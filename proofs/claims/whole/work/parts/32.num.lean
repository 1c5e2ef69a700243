/-! NUMBERS: an Int32's integer, without conditions, for omega. -/
theorem ta (x y : Int32) : (x + y).toInt = (x.toInt + y.toInt + 2147483648) % 4294967296 - 2147483648 := by
  rw [Int32.toInt_add, Int.bmod_def]
  split <;> omega
theorem ts (x y : Int32) : (x - y).toInt = (x.toInt - y.toInt + 2147483648) % 4294967296 - 2147483648 := by
  rw [Int32.toInt_sub, Int.bmod_def]
  split <;> omega
theorem tm (x y : Int32) : (x * y).toInt = (x.toInt * y.toInt + 2147483648) % 4294967296 - 2147483648 := by
  rw [Int32.toInt_mul, Int.bmod_def]
  split <;> omega
theorem tn (x : Int32) : (-x).toInt = (-x.toInt + 2147483648) % 4294967296 - 2147483648 := by
  rw [Int32.toInt_neg, Int.bmod_def]
  split <;> omega
theorem tl0 : (0 : Int32).toInt = 0 := rfl
theorem tl1 : (1 : Int32).toInt = 1 := rfl
theorem tlm : (-1 : Int32).toInt = -1 := rfl
theorem tlit (n : Nat) : (OfNat.ofNat n : Int32).toInt = ((n : Int) + 2147483648) % 4294967296 - 2147483648 := by
  show (Int32.ofNat n).toInt = _
  rw [Int32.toInt_ofNat', Int.bmod_def]
  split <;> omega
theorem trng (x : Int32) : -2147483648 ≤ x.toInt ∧ x.toInt < 2147483648 := ⟨by have := Int32.le_toInt x; omega, by have := Int32.toInt_lt x; omega⟩
theorem ile (x y : Int32) : (x ≤ y) = (x.toInt ≤ y.toInt) := propext Int32.le_iff_toInt_le
theorem ilt (x y : Int32) : (x < y) = (x.toInt < y.toInt) := propext Int32.lt_iff_toInt_lt
theorem ieq (x y : Int32) : (x = y) = (x.toInt = y.toInt) := propext Int32.toInt_inj.symm
theorem ix_nat {x : Int32} {n : Nat} (h : x.toInt = (n : Int)) : ix x = n := by
  unfold ix
  rw [h]
  exact Int.toNat_natCast n
theorem ix_to {x : Int32} (h : 0 ≤ x.toInt) : ((ix x : Nat) : Int) = x.toInt := by
  unfold ix
  omega
theorem tests (w k : Int32) (h : 0 ≤ w.toInt ∧ w.toInt < 6) (hk : 0 ≤ k.toInt ∧ k.toInt < 8) : inb ((12 + 8 * w) + k) 4016 := by
  unfold inb
  simp only [ta, tm, tlit]
  omega
theorem sM_get {d : Nat} {Φ : Po} {σ : Sg} {w k : Int32} {n : Nat} (hn : n < 4016) (he : w.toInt * 8 + k.toInt + 12 = n) (hw : 0 ≤ w.toInt ∧ w.toInt < 1000) (hk : 0 ≤ k.toInt ∧ k.toInt < 8) (h : Φ (some (.int (gI σ 121 n))) σ) : wp true (d + 1) nM_get [.ref 120, .int w, .int k] σ Φ := by
  apply wM_get
  simp only [pI, pL, pR, pV, eM_get_0]
  have e : ((12 + 8 * w) + k).toInt = (n : Int) := by
    simp only [ta, tm, tlit]
    omega
  rw [ix_nat e]
  refine ⟨?_, h⟩
  unfold inb
  rw [e]
  omega
