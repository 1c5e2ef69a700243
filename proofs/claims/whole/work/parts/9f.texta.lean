/-! TEXTS: bytes, words -/
def isLt (c : Int) : Bool := decide ((97 ≤ c ∧ c ≤ 122) ∨ (65 ≤ c ∧ c ≤ 90))
def isDg (c : Int) : Bool := decide (48 ≤ c ∧ c ≤ 57)
def isBl (c : Int) : Bool := decide (c = 32 ∨ c = 10)
theorem isLt_e (c : Int) : (isLt c = true) = ((97 ≤ c ∧ c ≤ 122) ∨ (65 ≤ c ∧ c ≤ 90)) := propext decide_eq_true_iff
theorem isDg_e (c : Int) : (isDg c = true) = (48 ≤ c ∧ c ≤ 57) := propext decide_eq_true_iff
theorem isBl_e (c : Int) : (isBl c = true) = (c = 32 ∨ c = 10) := propext decide_eq_true_iff
/-- B is a tape of L bytes -/
def Tp (L : Nat) (B : Nat → Int) : Prop := L ≤ 300 ∧ (∀ i, i < L → 0 ≤ B i ∧ B i ≤ 255) ∧ (∀ i, L ≤ i → B i = -1)
def skF (B : Nat → Int) : Nat → Nat → Nat
  | 0, i => i
  | n + 1, i => if isBl (B i) = true then skF B n (i + 1) else i
def ltF (B : Nat → Int) : Nat → Nat → Nat
  | 0, i => i
  | n + 1, i => if isLt (B i) = true then ltF B n (i + 1) else i
def dgF (B : Nat → Int) : Nat → Nat → Nat
  | 0, i => i
  | n + 1, i => if isDg (B i) = true then dgF B n (i + 1) else i
def nmF (B : Nat → Int) : Nat → Nat → Int → Int
  | 0, _, a => a
  | n + 1, i, a => if isDg (B i) = true then nmF B n (i + 1) (min 10000 (a * 10 + B i - 48)) else a
/-- the last first -/
def mk (f : Nat → Int) : Nat → List Int
  | 0 => []
  | n + 1 => f n :: mk f n
theorem mk_len {f : Nat → Int} : ∀ n, (mk f n).length = n
  | 0 => rfl
  | n + 1 => by
    show (mk f n).length + 1 = n + 1
    rw [mk_len n]
theorem mk_cg {f g : Nat → Int} : ∀ n, (∀ j, j < n → f j = g j) → mk f n = mk g n
  | 0, _ => rfl
  | n + 1, h => by
    show f n :: mk f n = g n :: mk g n
    rw [h n (by omega), mk_cg n (fun j hj => h j (by omega))]
theorem mk_inj {f g : Nat → Int} : ∀ n, mk f n = mk g n → ∀ j, j < n → f j = g j
  | 0, _, j, hj => by omega
  | n + 1, h, j, hj => by
    have h : f n :: mk f n = g n :: mk g n := h
    injection h with h1 h2
    by_cases e : j = n
    · subst e; exact h1
    · exact mk_inj n h2 j (by omega)
theorem mk_eq {f g : Nat → Int} {n m : Nat} : (mk f n = mk g m) = (n = m ∧ ∀ j, j < m → f j = g j) := by
  refine propext ⟨fun h => ?_, fun h => ?_⟩
  · have e : n = m := by rw [← mk_len (f := f) n, h, mk_len]
    subst e
    exact ⟨rfl, mk_inj n h⟩
  · obtain ⟨rfl, h⟩ := h
    exact mk_cg n h
/-- the class's words -/
def sl (i : Nat) : Nat := bfN (tfV (wfS (90000 + i)))
def sp (i j : Nat) : Int := (bfB (tfV (wfS (90000 + i))) j).toInt
def spl (i : Nat) : List Int := mk (sp i) (sl i)
def ordF (l : List Int) : Nat → Nat → Nat
  | 0, _ => 41
  | n + 1, i => if spl i = l then i else ordF l n (i + 1)
def ordOf (l : List Int) : Nat := ordF l 42 0
theorem txK : ∀ i, i < 42 → wB (90000 + i) = true ∧ tB (wfS (90000 + i)) = true ∧ bB (tfV (wfS (90000 + i))) = true ∧ sl i ≤ 7 ∧ (Int32.ofNat (bfN (tfV (wfS (90000 + i)))) >>> ((0 : Int32) &&& 31)).toInt = sl i ∧ (Int32.ofNat (bfN (tfV (wfS (90000 + i))))).toInt = sl i := by decide +kernel
theorem chrK : ∀ i, i < 42 → ∀ j, j < 7 → (UInt32.toInt32 (Int32.toUInt32 ((bfB (tfV (wfS (90000 + i))) j) &&& 255) % 65536)).toInt = sp i j ∧ (UInt32.toInt32 (Int32.toUInt32 ((bfB (tfV (wfS (90000 + i))) j) &&& 255) % 65536)).toUInt32.toUInt16.toUInt32.toInt32 = UInt32.toInt32 (Int32.toUInt32 ((bfB (tfV (wfS (90000 + i))) j) &&& 255) % 65536) := by decide +kernel
theorem sS_length {d : Nat} {Φ : Po} {σ : Sg} {i : Nat} (hi : i < 42) (h : ∀ r : Int32, r.toInt = sl i → Φ (some (.int r)) σ) : wp true (d + 2) nS_length [.ref (wfS (90000 + i))] σ Φ := by
  obtain ⟨-, k2, k3, k4, k5, k6⟩ := txK i hi
  apply wS_length
  simp only [pI, pL, pR, pV, i10, ↓reduceIte, eS_length_0]
  rw [k2]
  simp only [cond, o_alen, k3]
  simp only [pI, pL, pR, pV, i10, ↓reduceIte, eS_length_5]
  rw [k2]
  simp only [cond]
  apply wS_coder
  simp only [pI, pL, pR, pV, i10, ↓reduceIte, eS_coder_0]
  rw [k2]
  simp only [cond]
  simp only [pI, pL, pR, pV, i10, ↓reduceIte, eS_coder_14]
  refine ⟨rfl, ?_⟩
  simp only [pI, pL, pR, pV, i10, ↓reduceIte, eS_length_9]
  exact h _ k5
theorem sS_charAt {d : Nat} {Φ : Po} {σ : Sg} {i j : Nat} {x1 : Int32} (hi : i < 42) (hj : j < sl i) (hx : x1.toInt = j) (h : ∀ r : Int32, r.toInt = sp i j → Φ (some (.int r)) σ) : wp true (d + 4) nS_charAt [.ref (wfS (90000 + i)), .int x1] σ Φ := by
  obtain ⟨-, k2, k3, k4, k5, k6⟩ := txK i hi
  obtain ⟨c1, c2⟩ := chrK i hi j (by omega)
  have ixj : ix x1 = j := ix_of hx
  apply wS_charAt
  simp only [pI, pL, pR, pV, i10, ↓reduceIte, eS_charAt_0]
  rw [k2]
  simp only [cond]
  apply wS_isLatin1
  simp only [pI, pL, pR, pV, i10, ↓reduceIte, eS_isLatin1_0]
  rw [k2]
  simp only [cond]
  simp only [pI, pL, pR, pV, i10, ↓reduceIte, eS_isLatin1_18]
  simp only [zB_1, cond]
  simp only [pI, pL, pR, pV, i10, ↓reduceIte, eS_charAt_4]
  rw [k2]
  simp only [cond]
  apply wU_charAt
  simp only [pI, pL, pR, pV, i10, ↓reduceIte, eU_charAt_0]
  simp only [o_alen, k3, cond]
  simp only [pI, pL, pR, pV, i10, ↓reduceIte, eU_charAt_3]
  apply wS_checkIndex
  simp only [pI, pL, pR, pV, i10, ↓reduceIte, eS_checkIndex_0]
  apply wP_checkIndex
  simp only [pI, pL, pR, pV, i10, ↓reduceIte, eP_checkIndex_0]
  simp only [ilt, hx, k6, tl0]
  rw [if_neg (by omega), if_pos (by omega)]
  simp only [pI, pL, pR, pV, i10, ↓reduceIte, eP_checkIndex_16]
  simp only [pI, pL, pR, pV, i10, ↓reduceIte, eS_checkIndex_8]
  simp only [pI, pL, pR, pV, i10, ↓reduceIte, eU_charAt_6]
  rw [k3, ixj]
  simp only [cond]
  have nar : ∀ x : Int32, x.toUInt32.toUInt16.toUInt32.toInt32 = x → narrow .char (.int x) = .int x := fun x q => by
    show Value.int x.toUInt32.toUInt16.toUInt32.toInt32 = Value.int x
    rw [q]
  refine ⟨⟨by omega, by show x1.toInt < ((sl i : Nat) : Int); omega⟩, nar _ c2, ?_⟩
  simp only [pI, pL, pR, pV, i10, ↓reduceIte, eS_charAt_15]
  exact ⟨nar _ c2, h _ c1⟩
