/-! THE REFERENCE: its accessors, by the core's cells -/
theorem sM_get {d : Nat} {Φ : Po} {σ : Sg} {w k : Int32} (n : Nat) {j : Nat} (hk : k.toInt = j) (hn : 12 + 8 * ix w + j = n) (hw : 0 ≤ w.toInt ∧ w.toInt < 6) (hj : j < 8) (h : ∀ v : Int32, v.toInt = rd σ 121 n → Φ (some (.int v)) σ) : wp true (d + 1) nM_get [.ref 120, .int w, .int k] σ Φ := by
  apply wM_get
  simp only [pI, pL, pR, pV, i10, ↓reduceIte, eM_get_0]
  have hx := ix_to hw.1
  have e : ((12 + 8 * w) + k).toInt = (n : Int) := by
    simp only [ta, tm, Int32.reduceToInt]
    omega
  rw [ix_nat e]
  refine ⟨?_, h _ rfl⟩
  unfold inb
  rw [e]
  omega
theorem sM_put {d : Nat} {Φ : Po} {σ : Sg} {w k v : Int32} (n : Nat) {j : Nat} (hk : k.toInt = j) (hn : 12 + 8 * ix w + j = n) (hw : 0 ≤ w.toInt ∧ w.toInt < 6) (hj : j < 8) (h : Φ none (sI σ 121 n v)) : wp true (d + 1) nM_put [.ref 120, .int w, .int k, .int v] σ Φ := by
  apply wM_put
  simp only [pI, pL, pR, pV, i10, ↓reduceIte, eM_put_0]
  have hx := ix_to hw.1
  have e : ((12 + 8 * w) + k).toInt = (n : Int) := by
    simp only [ta, tm, Int32.reduceToInt]
    omega
  rw [ix_nat e]
  refine ⟨?_, h⟩
  unfold inb
  rw [e]
  omega
theorem sM_of {d : Nat} {Φ : Po} {σ : Sg} {w k : Int32} (n : Nat) {j : Nat} (hk : k.toInt = j) (hn : 60 + 4 * ix w + j = n) (hw : 0 ≤ w.toInt ∧ w.toInt < 6) (hj : j < 4) (h : ∀ v : Int32, v.toInt = rd σ 121 n → Φ (some (.int v)) σ) : wp true (d + 1) nM_of [.ref 120, .int w, .int k] σ Φ := by
  apply wM_of
  simp only [pI, pL, pR, pV, i10, ↓reduceIte, eM_of_0]
  have hx := ix_to hw.1
  have e : ((60 + 4 * w) + k).toInt = (n : Int) := by
    simp only [ta, tm, Int32.reduceToInt]
    omega
  rw [ix_nat e]
  refine ⟨?_, h _ rfl⟩
  unfold inb
  rw [e]
  omega
theorem sM_lay {d : Nat} {Φ : Po} {σ : Sg} {w k v : Int32} (n : Nat) {j : Nat} (hk : k.toInt = j) (hn : 60 + 4 * ix w + j = n) (hw : 0 ≤ w.toInt ∧ w.toInt < 6) (hj : j < 4) (h : Φ none (sI σ 121 n v)) : wp true (d + 1) nM_lay [.ref 120, .int w, .int k, .int v] σ Φ := by
  apply wM_lay
  simp only [pI, pL, pR, pV, i10, ↓reduceIte, eM_lay_0]
  have hx := ix_to hw.1
  have e : ((60 + 4 * w) + k).toInt = (n : Int) := by
    simp only [ta, tm, Int32.reduceToInt]
    omega
  rw [ix_nat e]
  refine ⟨?_, h⟩
  unfold inb
  rw [e]
  omega
theorem ix6 {w : Int32} (h : 0 ≤ w.toInt ∧ w.toInt < 6) : ix w < 6 := by unfold ix; omega
theorem sM_getO {d : Nat} {Φ : Po} {σ : Sg} {w : Int32} (hw : 0 ≤ w.toInt ∧ w.toInt < 6) (h : ∀ v : Int32, v.toInt = mc σ 121 (ix w) → Φ (some (.int v)) σ) : wp true (d + 1) nM_get [.ref 120, .int w, .int 3] σ Φ :=
  sM_get (15 + 8 * ix w) (j := 3) rfl (by omega) hw (by omega) (fun v hv => h v (by have := ix6 hw; rw [hv, mc_at (by omega), mix_o this]))
theorem sM_putO {d : Nat} {Φ : Po} {σ : Sg} {w v : Int32} (hw : 0 ≤ w.toInt ∧ w.toInt < 6) (h : ∀ σ' : Sg, σ' = sI σ 121 (15 + 8 * ix w) v → mc σ' 121 = upc (mc σ 121) (ix w) v.toInt → Φ none σ') : wp true (d + 1) nM_put [.ref 120, .int w, .int 3, .int v] σ Φ :=
  sM_put (15 + 8 * ix w) (j := 3) rfl (by omega) hw (by omega) (h _ rfl (by have := ix6 hw; exact mc_sI (by omega) (mix_o this).symm))
theorem sM_getF {d : Nat} {Φ : Po} {σ : Sg} {w : Int32} (hw : 0 ≤ w.toInt ∧ w.toInt < 6) (h : ∀ v : Int32, v.toInt = mc σ 121 (6 + ix w) → Φ (some (.int v)) σ) : wp true (d + 1) nM_get [.ref 120, .int w, .int 4] σ Φ :=
  sM_get (16 + 8 * ix w) (j := 4) rfl (by omega) hw (by omega) (fun v hv => h v (by have := ix6 hw; rw [hv, mc_at (by omega), mix_f this]))
theorem sM_putF {d : Nat} {Φ : Po} {σ : Sg} {w v : Int32} (hw : 0 ≤ w.toInt ∧ w.toInt < 6) (h : ∀ σ' : Sg, σ' = sI σ 121 (16 + 8 * ix w) v → mc σ' 121 = upc (mc σ 121) (6 + ix w) v.toInt → Φ none σ') : wp true (d + 1) nM_put [.ref 120, .int w, .int 4, .int v] σ Φ :=
  sM_put (16 + 8 * ix w) (j := 4) rfl (by omega) hw (by omega) (h _ rfl (by have := ix6 hw; exact mc_sI (by omega) (mix_f this).symm))
theorem sM_getW {d : Nat} {Φ : Po} {σ : Sg} {w : Int32} (hw : 0 ≤ w.toInt ∧ w.toInt < 6) (h : ∀ v : Int32, v.toInt = mc σ 121 (12 + ix w) → Φ (some (.int v)) σ) : wp true (d + 1) nM_get [.ref 120, .int w, .int 1] σ Φ :=
  sM_get (13 + 8 * ix w) (j := 1) rfl (by omega) hw (by omega) (fun v hv => h v (by have := ix6 hw; rw [hv, mc_at (by omega), mix_w this]))
theorem sM_putW {d : Nat} {Φ : Po} {σ : Sg} {w v : Int32} (hw : 0 ≤ w.toInt ∧ w.toInt < 6) (h : ∀ σ' : Sg, σ' = sI σ 121 (13 + 8 * ix w) v → mc σ' 121 = upc (mc σ 121) (12 + ix w) v.toInt → Φ none σ') : wp true (d + 1) nM_put [.ref 120, .int w, .int 1, .int v] σ Φ :=
  sM_put (13 + 8 * ix w) (j := 1) rfl (by omega) hw (by omega) (h _ rfl (by have := ix6 hw; exact mc_sI (by omega) (mix_w this).symm))
theorem sM_getD {d : Nat} {Φ : Po} {σ : Sg} {w : Int32} (hw : 0 ≤ w.toInt ∧ w.toInt < 6) (h : ∀ v : Int32, v.toInt = mc σ 121 (18 + ix w) → Φ (some (.int v)) σ) : wp true (d + 1) nM_get [.ref 120, .int w, .int 2] σ Φ :=
  sM_get (14 + 8 * ix w) (j := 2) rfl (by omega) hw (by omega) (fun v hv => h v (by have := ix6 hw; rw [hv, mc_at (by omega), mix_d this]))
theorem sM_putD {d : Nat} {Φ : Po} {σ : Sg} {w v : Int32} (hw : 0 ≤ w.toInt ∧ w.toInt < 6) (h : ∀ σ' : Sg, σ' = sI σ 121 (14 + 8 * ix w) v → mc σ' 121 = upc (mc σ 121) (18 + ix w) v.toInt → Φ none σ') : wp true (d + 1) nM_put [.ref 120, .int w, .int 2, .int v] σ Φ :=
  sM_put (14 + 8 * ix w) (j := 2) rfl (by omega) hw (by omega) (h _ rfl (by have := ix6 hw; exact mc_sI (by omega) (mix_d this).symm))
theorem sM_getG {d : Nat} {Φ : Po} {σ : Sg} {w : Int32} (hw : 0 ≤ w.toInt ∧ w.toInt < 6) (h : ∀ v : Int32, v.toInt = mc σ 121 (24 + ix w) → Φ (some (.int v)) σ) : wp true (d + 1) nM_get [.ref 120, .int w, .int 5] σ Φ :=
  sM_get (17 + 8 * ix w) (j := 5) rfl (by omega) hw (by omega) (fun v hv => h v (by have := ix6 hw; rw [hv, mc_at (by omega), mix_g this]))
theorem sM_putG {d : Nat} {Φ : Po} {σ : Sg} {w v : Int32} (hw : 0 ≤ w.toInt ∧ w.toInt < 6) (h : ∀ σ' : Sg, σ' = sI σ 121 (17 + 8 * ix w) v → mc σ' 121 = upc (mc σ 121) (24 + ix w) v.toInt → Φ none σ') : wp true (d + 1) nM_put [.ref 120, .int w, .int 5, .int v] σ Φ :=
  sM_put (17 + 8 * ix w) (j := 5) rfl (by omega) hw (by omega) (h _ rfl (by have := ix6 hw; exact mc_sI (by omega) (mix_g this).symm))
theorem sM_ofP {d : Nat} {Φ : Po} {σ : Sg} {w : Int32} (hw : 0 ≤ w.toInt ∧ w.toInt < 6) (h : ∀ v : Int32, v.toInt = mc σ 121 (30 + ix w) → Φ (some (.int v)) σ) : wp true (d + 1) nM_of [.ref 120, .int w, .int 1] σ Φ :=
  sM_of (61 + 4 * ix w) (j := 1) rfl (by omega) hw (by omega) (fun v hv => h v (by have := ix6 hw; rw [hv, mc_at (by omega), mix_p this]))
theorem sM_layP {d : Nat} {Φ : Po} {σ : Sg} {w v : Int32} (hw : 0 ≤ w.toInt ∧ w.toInt < 6) (h : ∀ σ' : Sg, σ' = sI σ 121 (61 + 4 * ix w) v → mc σ' 121 = upc (mc σ 121) (30 + ix w) v.toInt → Φ none σ') : wp true (d + 1) nM_lay [.ref 120, .int w, .int 1, .int v] σ Φ :=
  sM_lay (61 + 4 * ix w) (j := 1) rfl (by omega) hw (by omega) (h _ rfl (by have := ix6 hw; exact mc_sI (by omega) (mix_p this).symm))
theorem sM_ofT {d : Nat} {Φ : Po} {σ : Sg} {w : Int32} (hw : 0 ≤ w.toInt ∧ w.toInt < 6) (h : ∀ v : Int32, v.toInt = mc σ 121 (36 + ix w) → Φ (some (.int v)) σ) : wp true (d + 1) nM_of [.ref 120, .int w, .int 2] σ Φ :=
  sM_of (62 + 4 * ix w) (j := 2) rfl (by omega) hw (by omega) (fun v hv => h v (by have := ix6 hw; rw [hv, mc_at (by omega), mix_t this]))
theorem sM_layT {d : Nat} {Φ : Po} {σ : Sg} {w v : Int32} (hw : 0 ≤ w.toInt ∧ w.toInt < 6) (h : ∀ σ' : Sg, σ' = sI σ 121 (62 + 4 * ix w) v → mc σ' 121 = upc (mc σ 121) (36 + ix w) v.toInt → Φ none σ') : wp true (d + 1) nM_lay [.ref 120, .int w, .int 2, .int v] σ Φ :=
  sM_lay (62 + 4 * ix w) (j := 2) rfl (by omega) hw (by omega) (h _ rfl (by have := ix6 hw; exact mc_sI (by omega) (mix_t this).symm))
theorem sM_isIn {d : Nat} {Φ : Po} {σ : Sg} {v a b : Int32} (h1 : a.toInt ≤ v.toInt ∧ v.toInt ≤ b.toInt → Φ (some (.int 1)) σ) (h0 : ¬ (a.toInt ≤ v.toInt ∧ v.toInt ≤ b.toInt) → Φ (some (.int 0)) σ) : wp true (d + 1) nM_isIn [.int v, .int a, .int b] σ Φ := by
  apply wM_isIn
  simp only [pI, pL, pR, pV, i10, ↓reduceIte, eM_isIn_0, eM_isIn_14, eM_isIn_15]
  try simp only [cond, zB_1, zB_0, lg_cmp_ge, lg_cmp_le, lg_cmp_gt, lg_cmp_lt, lg_cmp_eq]
  try simp only [ne_eq, not_false_eq_true, true_and, and_true, ↓reduceIte, ile, ilt, ieq, jle, jlt, jeq, Int32.toInt_toInt64, Int32.reduceToInt, Int64.reduceToInt, Int.reduceNeg, Int.reduceEq, Int.reduceLT, Int.reduceLE, and_self, and_false, false_and]
  split
  · exact h0 (by omega)
  · split
    · exact h0 (by omega)
    · exact h1 (by omega)
theorem sM_cut {d : Nat} {Φ : Po} {σ : Sg} {v : Int64} {a b : Int32} (hab : a.toInt ≤ b.toInt) (h : ∀ r : Int32, r.toInt = clamp a.toInt b.toInt v.toInt → Φ (some (.int r)) σ) : wp true (d + 1) nM_cut [.long v, .int a, .int b] σ Φ := by
  apply wM_cut
  simp only [pI, pL, pR, pV, i10, ↓reduceIte, eM_cut_0, eM_cut_11, eM_cut_22, eM_cut_24]
  try simp only [cond, zB_1, zB_0, lg_cmp_ge, lg_cmp_le, lg_cmp_gt, lg_cmp_lt, lg_cmp_eq]
  try simp only [ne_eq, not_false_eq_true, true_and, and_true, ↓reduceIte, ile, ilt, ieq, jle, jlt, jeq, Int32.toInt_toInt64, Int32.reduceToInt, Int64.reduceToInt, Int.reduceNeg, Int.reduceEq, Int.reduceLT, Int.reduceLE, and_self, and_false, false_and]
  unfold clamp at h
  have := trng a
  have := trng b
  split
  · split
    · exact h _ (by rw [j32 (by omega), if_neg (by omega), if_neg (by omega)])
    · exact h _ (by rw [if_neg (by omega), if_pos (by omega)])
  · exact h _ (by rw [if_pos (by omega)])
theorem sM_isWind {d : Nat} {Φ : Po} {σ : Sg} {w : Int32} (hn : 0 ≤ rd σ 121 0 ∧ rd σ 121 0 ≤ 6) (h1 : 0 ≤ w.toInt ∧ w.toInt < rd σ 121 0 → Φ (some (.int 1)) σ) (h0 : ¬ (0 ≤ w.toInt ∧ w.toInt < rd σ 121 0) → Φ (some (.int 0)) σ) : wp true (d + 2) nM_isWind [.ref 120, .int w] σ Φ := by
  apply wM_isWind
  simp only [pI, pL, pR, pV, i10, ↓reduceIte, eM_isWind_0, eM_isWind_13]
  refine ⟨⟨by decide, by decide⟩, ?_⟩
  have e : (gI σ 121 (ix 0) - 1).toInt = rd σ 121 0 - 1 := by
    rw [tM (by show _ ≤ rd σ 121 0 - 1 ∧ rd σ 121 0 - 1 < _; omega)]
    rfl
  refine sM_isIn (fun q => ?_) (fun q => ?_)
  · simp only [pI, pL, pR, pV, i10, ↓reduceIte, eM_isWind_0, eM_isWind_13]
    try simp only [cond, zB_1, zB_0, lg_cmp_ge, lg_cmp_le, lg_cmp_gt, lg_cmp_lt, lg_cmp_eq]
    try simp only [ne_eq, not_false_eq_true, true_and, and_true, ↓reduceIte, ile, ilt, ieq, jle, jlt, jeq, Int32.toInt_toInt64, Int32.reduceToInt, Int64.reduceToInt, Int.reduceNeg, Int.reduceEq, Int.reduceLT, Int.reduceLE, and_self, and_false, false_and]
    rw [e] at q
    exact h1 ⟨q.1, by omega⟩
  · simp only [pI, pL, pR, pV, i10, ↓reduceIte, eM_isWind_0, eM_isWind_13]
    try simp only [cond, zB_1, zB_0, lg_cmp_ge, lg_cmp_le, lg_cmp_gt, lg_cmp_lt, lg_cmp_eq]
    try simp only [ne_eq, not_false_eq_true, true_and, and_true, ↓reduceIte, ile, ilt, ieq, jle, jlt, jeq, Int32.toInt_toInt64, Int32.reduceToInt, Int64.reduceToInt, Int.reduceNeg, Int.reduceEq, Int.reduceLT, Int.reduceLE, and_self, and_false, false_and]
    rw [e] at q
    refine h0 (fun z => q ⟨z.1, by omega⟩)
theorem sM_isVillage {d : Nat} {Φ : Po} {σ : Sg} {w : Int32} (hn : 0 ≤ rd σ 121 1 ∧ rd σ 121 1 ≤ 6) (h1 : 0 ≤ w.toInt ∧ w.toInt < rd σ 121 1 → Φ (some (.int 1)) σ) (h0 : ¬ (0 ≤ w.toInt ∧ w.toInt < rd σ 121 1) → Φ (some (.int 0)) σ) : wp true (d + 2) nM_isVillage [.ref 120, .int w] σ Φ := by
  apply wM_isVillage
  simp only [pI, pL, pR, pV, i10, ↓reduceIte, eM_isVillage_0, eM_isVillage_13]
  refine ⟨⟨by decide, by decide⟩, ?_⟩
  have e : (gI σ 121 (ix 1) - 1).toInt = rd σ 121 1 - 1 := by
    rw [tM (by show _ ≤ rd σ 121 1 - 1 ∧ rd σ 121 1 - 1 < _; omega)]
    rfl
  refine sM_isIn (fun q => ?_) (fun q => ?_)
  · simp only [pI, pL, pR, pV, i10, ↓reduceIte, eM_isVillage_0, eM_isVillage_13]
    try simp only [cond, zB_1, zB_0, lg_cmp_ge, lg_cmp_le, lg_cmp_gt, lg_cmp_lt, lg_cmp_eq]
    try simp only [ne_eq, not_false_eq_true, true_and, and_true, ↓reduceIte, ile, ilt, ieq, jle, jlt, jeq, Int32.toInt_toInt64, Int32.reduceToInt, Int64.reduceToInt, Int.reduceNeg, Int.reduceEq, Int.reduceLT, Int.reduceLE, and_self, and_false, false_and]
    rw [e] at q
    exact h1 ⟨q.1, by omega⟩
  · simp only [pI, pL, pR, pV, i10, ↓reduceIte, eM_isVillage_0, eM_isVillage_13]
    try simp only [cond, zB_1, zB_0, lg_cmp_ge, lg_cmp_le, lg_cmp_gt, lg_cmp_lt, lg_cmp_eq]
    try simp only [ne_eq, not_false_eq_true, true_and, and_true, ↓reduceIte, ile, ilt, ieq, jle, jlt, jeq, Int32.toInt_toInt64, Int32.reduceToInt, Int64.reduceToInt, Int.reduceNeg, Int.reduceEq, Int.reduceLT, Int.reduceLE, and_self, and_false, false_and]
    rw [e] at q
    refine h0 (fun z => q ⟨z.1, by omega⟩)
/-! THE REFERENCE'S LAWS -/
def MCode (σ : Sg) (t : Nat) : Nat → List (Int × Int) → Prop
  | _, [] => True
  | i, (o, v) :: r => (rd σ 123 (705 * t + 97 + 2 * i) = o ∧ rd σ 123 (705 * t + 98 + 2 * i) = v) ∧ MCode σ t (i + 1) r
def MxL (σ : Sg) (t l : Nat) (x : Option (List (Int × Int))) : Prop := match x with
  | none => ∀ k : Nat, (k : Int) < rd σ 123 (705 * t) → rd σ 123 (705 * t + 1 + 4 * k) ≠ l
  | some ops => ∃ k : Nat, (k : Int) < rd σ 123 (705 * t) ∧ rd σ 123 (705 * t + 1 + 4 * k) = l ∧ (∀ j, j < k → rd σ 123 (705 * t + 1 + 4 * j) ≠ l) ∧ 0 ≤ rd σ 123 (705 * t + 2 + 4 * k) ∧ rd σ 123 (705 * t + 3 + 4 * k) = rd σ 123 (705 * t + 2 + 4 * k) + ops.length ∧ rd σ 123 (705 * t + 3 + 4 * k) ≤ 300 ∧ MCode σ t (rd σ 123 (705 * t + 2 + 4 * k)).toNat ops
def MT (σ : Sg) (E : En) : Prop := (-1 ≤ rd σ 121 3 ∧ rd σ 121 3 < 4) ∧ (rd σ 121 3 = -1 → ∀ l, eL E l = none) ∧ (∀ t : Nat, t < 4 → rd σ 121 3 = t → (0 ≤ rd σ 123 (705 * t) ∧ rd σ 123 (705 * t) ≤ 24) ∧ ∀ l, l < 5 → MxL σ t l (eL E l))
/-- the reference's world holds E -/
def ME (σ : Sg) (E : En) : Prop := rd σ 121 0 = eN E ∧ rd σ 121 1 = eV E ∧ (∀ w, w < 6 → rd σ 121 (12 + 8 * w) = eQ E w) ∧ (∀ v, v < 6 → rd σ 121 (60 + 4 * v) = eR E v) ∧ MT σ E ∧ LwOk E
theorem MCode.fr {S : List (Nat × Nat × Nat)} {σ σ' : Sg} (h : Fr S σ σ') {t : Nat} (e : ∀ k, inS S 123 k = false) : ∀ (ops : List (Int × Int)) (i : Nat), MCode σ t i ops → MCode σ' t i ops
  | [], _, _ => trivial
  | (o, v) :: r, i, ⟨⟨h1, h3⟩, h2⟩ => ⟨⟨(h.rd (e _)).trans h1, (h.rd (e _)).trans h3⟩, MCode.fr h e r (i + 1) h2⟩
theorem MxL.fr {S : List (Nat × Nat × Nat)} {σ σ' : Sg} (h : Fr S σ σ') {t l : Nat} (e : ∀ k, inS S 123 k = false) {x : Option (List (Int × Int))} (g : MxL σ t l x) : MxL σ' t l x := by
  have r : ∀ k, rd σ' 123 k = rd σ 123 k := fun k => h.rd (e k)
  cases x with
  | none =>
    intro k hk
    rw [r] at hk ⊢
    exact g k hk
  | some ops =>
    obtain ⟨k, h1, h2, h3, h4, h5, h6, h7⟩ := g
    refine ⟨k, ?_, ?_, ?_, ?_, ?_, ?_, ?_⟩
    · rw [r]; exact h1
    · rw [r]; exact h2
    · intro j hj; rw [r]; exact h3 j hj
    · rw [r]; exact h4
    · rw [r, r]; exact h5
    · rw [r]; exact h6
    · rw [r]; exact MCode.fr h e _ _ h7
theorem ME.of {σ σ' : Sg} {E : En} (e1 : rd σ' 121 0 = rd σ 121 0 ∧ rd σ' 121 1 = rd σ 121 1 ∧ rd σ' 121 3 = rd σ 121 3) (e2 : ∀ w, w < 6 → rd σ' 121 (12 + 8 * w) = rd σ 121 (12 + 8 * w)) (e3 : ∀ v, v < 6 → rd σ' 121 (60 + 4 * v) = rd σ 121 (60 + 4 * v)) (e4 : ∀ k, rd σ' 123 k = rd σ 123 k) (g : ME σ E) : ME σ' E := by
  obtain ⟨g1, g2, g3, g4, ⟨g5, g6, g7⟩, g8⟩ := g
  have cd : ∀ (ops : List (Int × Int)) (t i : Nat), MCode σ t i ops → MCode σ' t i ops := by
    intro ops
    induction ops with
    | nil => intro _ _ _; trivial
    | cons p r ih =>
      intro t i hh
      obtain ⟨o, v⟩ := p
      obtain ⟨⟨h1, h2⟩, h3⟩ := hh
      exact ⟨⟨(e4 _).trans h1, (e4 _).trans h2⟩, ih _ _ h3⟩
  refine ⟨e1.1.trans g1, e1.2.1.trans g2, fun w hw => (e2 w hw).trans (g3 w hw), fun v hv => (e3 v hv).trans (g4 v hv), ⟨?_, ?_, ?_⟩, g8⟩
  · rw [e1.2.2]; exact g5
  · rw [e1.2.2]; exact g6
  · rw [e1.2.2]
    intro t ht hr
    obtain ⟨q1, q2⟩ := g7 t ht hr
    refine ⟨by rw [e4]; exact q1, fun l hl => ?_⟩
    have g := q2 l hl
    cases hx : eL E l with
    | none =>
      rw [hx] at g
      intro k hk
      rw [e4] at hk ⊢
      exact g k hk
    | some ops =>
      rw [hx] at g
      obtain ⟨k, h1, h2, h3, h4, h5, h6, h7⟩ := g
      refine ⟨k, ?_, ?_, ?_, ?_, ?_, ?_, ?_⟩
      · rw [e4]; exact h1
      · rw [e4]; exact h2
      · intro j hj; rw [e4]; exact h3 j hj
      · rw [e4]; exact h4
      · rw [e4, e4]; exact h5
      · rw [e4]; exact h6
      · rw [e4]; exact cd _ _ _ h7
abbrev FML : List (Nat × Nat × Nat) := [(126, 0, 8), (127, 0, 330), (128, 0, 330)]
theorem inS3 {a k : Nat} (h : a ≠ 126 ∧ a ≠ 127 ∧ a ≠ 128) : inS FML a k = false := by
  unfold inS FML
  simp only [List.any_cons, List.any_nil, Bool.or_false, Bool.or_eq_false_iff, Bool.and_eq_false_iff]
  refine ⟨Or.inl ?_, Or.inl ?_, Or.inl ?_⟩ <;> exact nbeq (by omega)
theorem fml_rd {σ σ' : Sg} (h : Fr FML σ σ') {a k : Nat} (ha : a ≠ 126 ∧ a ≠ 127 ∧ a ≠ 128) : rd σ' a k = rd σ a k := h.rd (inS3 ha)
theorem fml_mc {σ σ' : Sg} (h : Fr FML σ σ') : mc σ' 121 = mc σ 121 := Fr_mc h (fun _ _ => inS3 (by omega))
theorem fml_ME {σ σ' : Sg} {E : En} (h : Fr FML σ σ') (g : ME σ E) : ME σ' E := ME.of ⟨fml_rd h (by omega), fml_rd h (by omega), fml_rd h (by omega)⟩ (fun _ _ => fml_rd h (by omega)) (fun _ _ => fml_rd h (by omega)) (fun _ => fml_rd h (by omega)) g
theorem f126 {σ : Sg} {n : Nat} {v : Int32} (h : n < 8) : Fr FML σ (sI σ 126 n v) := Fr.sI (inS_r (lo := 0) (hi := 8) (by simp) ⟨Nat.zero_le _, h⟩)
theorem f128 {σ : Sg} {n : Nat} {v : Int32} (h : n < 330) : Fr FML σ (sI σ 128 n v) := Fr.sI (inS_r (lo := 0) (hi := 330) (by simp) ⟨Nat.zero_le _, h⟩)
theorem f127 {σ : Sg} {n : Nat} {v : Int64} (h : n < 330) : Fr FML σ (sL σ 127 n v) := Fr.sL (inS_r (lo := 0) (hi := 330) (by simp) ⟨Nat.zero_le _, h⟩)
/-- what names are -/
def NmL (σ : Sg) (E : En) (c : Co) (w v f : Int) (m : Nat) : Prop := ∀ j : Nat, j < m → rd σ 126 j = nmv E c w v f j
theorem sM_name {d : Nat} {Φ : Po} {σ : Sg} {E : En} {c : Co} {w o f : Int32} (hO : Ok E c) (hE : ME σ E) (hc : mc σ 121 = c) (hw : 0 ≤ w.toInt ∧ w.toInt < eN E) (ho : o.toInt = c (ix w)) (v : Int) (h : ∀ σ' : Sg, Fr FML σ σ' → NmL σ' E c w.toInt v f.toInt 6 → (∀ j, 6 ≤ j → rd σ' 126 j = rd σ 126 j) → Φ none σ') : wp true (d + 2) nM_name [.ref 120, .int w, .int o, .int f] σ Φ := by
  apply wM_name
  simp only [pI, pL, pR, pV, i10, ↓reduceIte, eM_name_0]
  have hn := hO.1
  have hw' : 0 ≤ w.toInt ∧ w.toInt < 6 := by omega
  have hw6 := ix6 hw'
  have hwt : w.toInt.toNat = ix w := rfl
  refine ⟨⟨by decide, by decide⟩, ⟨by decide, by decide⟩, ?_⟩
  refine sM_get (12 + 8 * ix w) (j := 0) rfl (by omega) hw' (by omega) (fun x1 h1 => ?_)
  simp only [pI, pL, pR, pV, i10, ↓reduceIte, eM_name_24]
  refine ⟨⟨by decide, by decide⟩, ⟨by decide, by decide⟩, ?_⟩
  refine sM_getD hw' (fun x2 h2 => ?_)
  simp only [pI, pL, pR, pV, i10, ↓reduceIte, eM_name_43]
  refine ⟨⟨by decide, by decide⟩, ?_⟩
  refine sM_getW hw' (fun x3 h3 => ?_)
  simp only [pI, pL, pR, pV, i10, ↓reduceIte, eM_name_55]
  refine ⟨⟨by decide, by decide⟩, ⟨by decide, by decide⟩, ?_⟩
  have hF0 : Fr FML σ (sI σ 126 0 (gI σ 121 8)) := f126 (by omega)
  have hF1 : Fr FML σ (sI (sI (sI σ 126 0 (gI σ 121 8)) 126 1 x1) 126 2 o) := (hF0.tr (f126 (by omega))).tr (f126 (by omega))
  have hF2 : Fr FML σ (sI (sI (sI (sI σ 126 0 (gI σ 121 8)) 126 1 x1) 126 2 o) 126 3 x2) := hF1.tr (f126 (by omega))
  have h1 : x1.toInt = eQ E (ix w) := by
    rw [h1]
    exact (fml_rd hF0 (by omega)).trans (hE.2.2.1 _ hw6)
  have h2 : x2.toInt = c (18 + ix w) := by
    rw [h2, ← hc]
    exact congrFun (fml_mc hF1) _
  have h3 : x3.toInt = c (12 + ix w) := by
    rw [h3, ← hc]
    exact congrFun (fml_mc hF2) _
  have h0 : rd σ 121 8 = c 42 := by rw [← hc]; rfl
  refine h _ ((hF2.tr (f126 (n := 4) (v := x3) (by omega))).tr (f126 (n := 5) (v := f) (by omega))) (fun j hj => ?_) (fun j hj => ?_)
  · have j6 : j = 0 ∨ j = 1 ∨ j = 2 ∨ j = 3 ∨ j = 4 ∨ j = 5 := by omega
    have nn : ¬ (w.toInt < 0) := by omega
    rcases j6 with rfl | rfl | rfl | rfl | rfl | rfl
    · exact h0
    · refine h1.trans ?_
      unfold nmv
      rw [if_neg nn, hwt]
      rfl
    · refine ho.trans ?_
      unfold nmv
      rw [if_neg nn, hwt]
      rfl
    · refine h2.trans ?_
      unfold nmv
      rw [if_neg nn, hwt]
      rfl
    · refine h3.trans ?_
      unfold nmv
      rw [if_neg nn, hwt]
      rfl
    · rfl
  · show rd (sI (sI (sI (sI (sI (sI σ 126 0 (gI σ 121 8)) 126 1 x1) 126 2 o) 126 3 x2) 126 4 x3) 126 5 f) 126 j = _
    rw [rdne2 (by omega), rdne2 (by omega), rdne2 (by omega), rdne2 (by omega), rdne2 (by omega), rdne2 (by omega)]
theorem lM_nameVillage {d : Nat} {Φ : Po} {E : En} {c : Co} {w v f : Int32} {σ0 : Sg} (hO : Ok E c) (hE : ME σ0 E) (hc : mc σ0 121 = c) (hw : w.toInt = -1 ∨ (0 ≤ w.toInt ∧ w.toInt < eN E)) (hv : 0 ≤ v.toInt ∧ v.toInt < eV E) (hf0 : w.toInt = -1 → f.toInt = 0) (h : ∀ σ' : Sg, Fr FML σ0 σ' → NmL σ' E c w.toInt v.toInt f.toInt 8 → Φ none σ') :
    ∀ (n : Nat) (σ : Sg) (x : Int32), x.toInt + n = 6 → 1 ≤ x.toInt → Fr FML σ0 σ → (∀ j : Nat, 1 ≤ j → (j : Int) < x.toInt → rd σ 126 j = 0) → bM_nameVillage_3 true NOB (wp true (d + 2)) Φ (kM_nameVillage (d + 2) Φ) [.ref 120, .int w, .int v, .int f, .int x] [] σ
  | 0, σ, x, hx, hx1, hF, hz => by
    simp only [pI, pL, pR, pV, i10, ↓reduceIte, eM_nameVillage_3, eM_nameVillage_24]
    simp only [ile]
    rw [if_pos (by rw [show (6 : Int32).toInt = 6 from rfl]; omega)]
    have hn := hO.1
    have hnv := hO.2.1
    have hvw : 0 ≤ v.toInt ∧ v.toInt < 6 := by omega
    have hv6 := ix6 hvw
    have cn : (w = -1) = (w.toInt = -1) := by rw [ieq]; rfl
    have hvt : v.toInt.toNat = ix v := rfl
    simp only [cn]
    have day : (gI σ 121 (ix 8)).toInt = c 42 := by
      show rd σ 121 8 = _
      rw [fml_rd hF (by omega), ← hc]
      rfl
    refine ⟨⟨by decide, by decide⟩, ⟨by decide, by decide⟩, ?_⟩
    have hF1 : Fr FML σ0 (sI σ 126 (ix 0) (gI σ 121 (ix 8))) := hF.tr (f126 (by decide))
    have fin : ∀ σ1 : Sg, Fr FML σ0 σ1 → NmL σ1 E c w.toInt v.toInt f.toInt 6 → bM_nameVillage_54 true NOB (wp true (d + 2)) Φ (kM_nameVillage (d + 2) Φ) [.ref 120, .int w, .int v, .int f, .int x] [] σ1 := by
      intro σ1 hF1 hN
      simp only [pI, pL, pR, pV, i10, ↓reduceIte, eM_nameVillage_54]
      refine sM_of (60 + 4 * ix v) (j := 0) rfl (by omega) hvw (by omega) (fun y1 h1 => ?_)
      simp only [pI, pL, pR, pV, i10, ↓reduceIte, eM_nameVillage_66]
      refine ⟨⟨by decide, by decide⟩, ?_⟩
      refine sM_ofP hvw (fun y2 h2 => ?_)
      simp only [pI, pL, pR, pV, i10, ↓reduceIte, eM_nameVillage_79]
      refine ⟨⟨by decide, by decide⟩, ?_⟩
      have hF2 : Fr FML σ0 (sI σ1 126 (ix 6) y1) := hF1.tr (f126 (by decide))
      refine h _ (hF2.tr (f126 (n := 7) (v := y2) (by omega))) (fun j hj => ?_)
      have nv : ¬ (v.toInt < 0) := by omega
      have j8 : j < 6 ∨ j = 6 ∨ j = 7 := by omega
      rcases j8 with j8 | rfl | rfl
      · show rd (sI (sI σ1 126 6 y1) 126 7 y2) 126 j = _
        rw [rdne2 (by omega), rdne2 (by omega)]
        exact hN j j8
      · show y1.toInt = _
        rw [h1, fml_rd hF1 (by omega), hE.2.2.2.1 _ hv6]
        unfold nmv
        rw [if_neg nv, hvt]
        rfl
      · show y2.toInt = _
        rw [h2, fml_mc hF2, hc]
        unfold nmv
        simp only [if_neg nv, hvt]
        rfl
    split
    next hq =>
      refine fin _ hF1 (fun j hj => ?_)
      have j6 : j = 0 ∨ j = 5 ∨ (1 ≤ j ∧ j < 5) := by omega
      rcases j6 with rfl | rfl | ⟨j1, j5⟩
      · exact day
      · show rd (sI σ 126 0 (gI σ 121 8)) 126 5 = _
        rw [rdne2 (by omega), hz 5 (by omega) (by omega)]
        exact (hf0 hq).symm
      · show rd (sI σ 126 0 (gI σ 121 8)) 126 j = _
        rw [rdne2 (by omega), hz j (by omega) (by omega), hq]
        have : j = 1 ∨ j = 2 ∨ j = 3 ∨ j = 4 := by omega
        rcases this with rfl | rfl | rfl | rfl <;> rfl
    next hq =>
      have hw' : 0 ≤ w.toInt ∧ w.toInt < eN E := by omega
      refine sM_getO (by omega) (fun o ho => ?_)
      simp only [pI, pL, pR, pV, i10, ↓reduceIte, eM_nameVillage_50]
      rw [fml_mc hF1, hc] at ho
      refine sM_name hO (fml_ME hF1 hE) ((fml_mc hF1).trans hc) hw' ho v.toInt (fun σ2 hF2 hN _ => ?_)
      simp only [pI, pL, pR, pV, i10, ↓reduceIte, eM_nameVillage_50]
      exact fin σ2 (hF1.tr hF2) hN
  | n + 1, σ, x, hx, hx1, hF, hz => by
    simp only [pI, pL, pR, pV, i10, ↓reduceIte, eM_nameVillage_3]
    simp only [ile]
    rw [if_neg (by rw [show (6 : Int32).toInt = 6 from rfl]; omega)]
    refine ⟨⟨by omega, by omega⟩, ?_⟩
    have hxx := ix_to (x := x) (by omega)
    refine hM_nameVillage_3 _ _ _ _ _ (lM_nameVillage hO hE hc hw hv hf0 h n _ (x + 1) ?_ ?_ (hF.tr (f126 (by omega))) ?_)
    · rw [t1 (by omega)]; omega
    · rw [t1 (by omega)]; omega
    · intro j h1 h2
      rw [t1 (by omega)] at h2
      by_cases e : j = ix x
      · rw [e, rdeq]; rfl
      · rw [rdne2 e]
        exact hz j h1 (by omega)
theorem sM_nameVillage {d : Nat} {Φ : Po} {E : En} {c : Co} {w v f : Int32} {σ : Sg} (hO : Ok E c) (hE : ME σ E) (hc : mc σ 121 = c) (hw : w.toInt = -1 ∨ (0 ≤ w.toInt ∧ w.toInt < eN E)) (hv : 0 ≤ v.toInt ∧ v.toInt < eV E) (hf0 : w.toInt = -1 → f.toInt = 0) (h : ∀ σ' : Sg, Fr FML σ σ' → NmL σ' E c w.toInt v.toInt f.toInt 8 → Φ none σ') : wp true (d + 3) nM_nameVillage [.ref 120, .int w, .int v, .int f] σ Φ := by
  apply wM_nameVillage
  simp only [pI, pL, pR, pV, i10, ↓reduceIte, eM_nameVillage_0]
  exact lM_nameVillage hO hE hc hw hv hf0 h 5 σ 1 rfl (by decide) Fr.rf (fun j h1 h2 => by have : (1 : Int32).toInt = 1 := rfl; omega)
theorem sM_clip {d : Nat} {Φ : Po} {σ : Sg} {x : Int64} (h : ∀ r : Int64, r.toInt = clip x.toInt → Φ (some (.long r)) σ) : wp true (d + 1) nM_clip [.long x] σ Φ := by
  apply wM_clip
  simp only [pI, pL, pR, pV, i10, ↓reduceIte, eM_clip_0, eM_clip_14, eM_clip_28, eM_clip_29]
  try simp only [cond, zB_1, zB_0, lg_cmp_ge, lg_cmp_le, lg_cmp_gt, lg_cmp_lt, lg_cmp_eq]
  try simp only [ne_eq, not_false_eq_true, true_and, and_true, ↓reduceIte, ile, ilt, ieq, jle, jlt, jeq, Int32.toInt_toInt64, Int32.reduceToInt, Int64.reduceToInt, Int.reduceNeg, Int.reduceEq, Int.reduceLT, Int.reduceLE, and_self, and_false, false_and]
  unfold clip at h
  split
  · split
    · exact h _ (by rw [if_neg (by omega), if_neg (by omega)])
    · exact h _ (by rw [if_pos (by omega)]; rfl)
  · exact h _ (by rw [if_neg (by omega), if_pos (by omega)]; rfl)
theorem sM_two {d : Nat} {Φ : Po} {σ : Sg} {k : Int32} {x y : Int64} {o : Int} (hk : k.toInt = o) (ho : 4 ≤ o ∧ o ≤ 7) (hx : -1000000 ≤ x.toInt ∧ x.toInt ≤ 1000000) (hy : -1000000 ≤ y.toInt ∧ y.toInt ≤ 1000000) (h : ∀ r : Int64, r.toInt = clip (tw o x.toInt y.toInt) → Φ (some (.long r)) σ) : wp true (d + 2) nM_two [.int k, .long x, .long y] σ Φ := by
  apply wM_two
  simp only [pI, pL, pR, pV, i10, ↓reduceIte, eM_two_0, eM_two_28, eM_two_34, eM_two_35, eM_two_41, eM_two_42, eM_two_48, eM_two_49, eM_two_59, eM_two_65]
  rw [hk]
  have j : o = 4 ∨ o = 5 ∨ o = 6 ∨ o = 7 := by omega
  rcases j with rfl | rfl | rfl | rfl
  · simp only [Int.reduceEq, ↓reduceIte]
    refine sM_clip (fun r hr => ?_)
    simp only [pI, pL, pR, pV, i10, ↓reduceIte, eM_two_0, eM_two_28, eM_two_34, eM_two_35, eM_two_41, eM_two_42, eM_two_48, eM_two_49, eM_two_59, eM_two_65]
    exact h _ (by rw [hr, jP (by omega)]; rfl)
  · simp only [Int.reduceEq, ↓reduceIte]
    refine sM_clip (fun r hr => ?_)
    simp only [pI, pL, pR, pV, i10, ↓reduceIte, eM_two_0, eM_two_28, eM_two_34, eM_two_35, eM_two_41, eM_two_42, eM_two_48, eM_two_49, eM_two_59, eM_two_65]
    exact h _ (by rw [hr, jM (by omega)]; rfl)
  · simp only [Int.reduceEq, ↓reduceIte]
    refine sM_clip (fun r hr => ?_)
    simp only [pI, pL, pR, pV, i10, ↓reduceIte, eM_two_0, eM_two_28, eM_two_34, eM_two_35, eM_two_41, eM_two_42, eM_two_48, eM_two_49, eM_two_59, eM_two_65]
    have p1 : (x.toInt * y.toInt).natAbs = x.toInt.natAbs * y.toInt.natAbs := Int.natAbs_mul _ _
    have p2 : x.toInt.natAbs * y.toInt.natAbs ≤ 1000000 * 1000000 := Nat.mul_le_mul (by omega) (by omega)
    exact h _ (by rw [hr, jX (by omega)]; rfl)
  · simp only [Int.reduceEq, ↓reduceIte]
    have e7 : tw 7 x.toInt y.toInt = if y.toInt = 0 then 0 else x.toInt.tdiv y.toInt := rfl
    try simp only [cond, zB_1, zB_0, lg_cmp_ge, lg_cmp_le, lg_cmp_gt, lg_cmp_lt, lg_cmp_eq]
    try simp only [ne_eq, not_false_eq_true, true_and, and_true, ↓reduceIte, ile, ilt, ieq, jle, jlt, jeq, Int32.toInt_toInt64, Int32.reduceToInt, Int64.reduceToInt, Int.reduceNeg, Int.reduceEq, Int.reduceLT, Int.reduceLE, and_self, and_false, false_and]
    split
    next z => exact h _ (by rw [e7, if_pos z]; rfl)
    next z =>
      refine ⟨z, ?_⟩
      refine sM_clip (fun r hr => ?_)
      simp only [pI, pL, pR, pV, i10, ↓reduceIte, eM_two_0, eM_two_28, eM_two_34, eM_two_35, eM_two_41, eM_two_42, eM_two_48, eM_two_49, eM_two_59, eM_two_65]
      exact h _ (by rw [hr, e7, if_neg z, jDt (Or.inr (by omega))])
theorem sM_isAsked {d : Nat} {Φ : Po} {σ : Sg} {k : Int32} {x y : Int64} {o : Int} (hk : k.toInt = o) (ho : 10 ≤ o ∧ o ≤ 15) (h : ∀ r : Int32, r.toInt = bi (cmq o x.toInt y.toInt) → Φ (some (.int r)) σ) : wp true (d + 1) nM_isAsked [.int k, .long x, .long y] σ Φ := by
  apply wM_isAsked
  simp only [pI, pL, pR, pV, i10, ↓reduceIte, eM_isAsked_0, eM_isAsked_16, eM_isAsked_20, eM_isAsked_36, eM_isAsked_40, eM_isAsked_56, eM_isAsked_60, eM_isAsked_76, eM_isAsked_80, eM_isAsked_96, eM_isAsked_100, eM_isAsked_110, eM_isAsked_111]
  try simp only [cond, zB_1, zB_0, lg_cmp_ge, lg_cmp_le, lg_cmp_gt, lg_cmp_lt, lg_cmp_eq]
  try simp only [ne_eq, not_false_eq_true, true_and, and_true, ↓reduceIte, ile, ilt, ieq, jle, jlt, jeq, Int32.toInt_toInt64, Int32.reduceToInt, Int64.reduceToInt, Int.reduceNeg, Int.reduceEq, Int.reduceLT, Int.reduceLE, and_self, and_false, false_and]
  rw [hk]
  have j : o = 10 ∨ o = 11 ∨ o = 12 ∨ o = 13 ∨ o = 14 ∨ o = 15 := by omega
  rcases j with rfl | rfl | rfl | rfl | rfl | rfl <;> simp only [Int.reduceEq, ↓reduceIte]
  · have e7 : cmq 10 x.toInt y.toInt = decide (x.toInt < y.toInt) := rfl
    split
    · exact h _ (by rw [e7, decide_eq_false (by omega)]; rfl)
    · exact h _ (by rw [e7, decide_eq_true (by omega)]; rfl)
  · have e7 : cmq 11 x.toInt y.toInt = decide (x.toInt ≤ y.toInt) := rfl
    split
    · exact h _ (by rw [e7, decide_eq_false (by omega)]; rfl)
    · exact h _ (by rw [e7, decide_eq_true (by omega)]; rfl)
  · have e7 : cmq 12 x.toInt y.toInt = decide (y.toInt < x.toInt) := rfl
    split
    · exact h _ (by rw [e7, decide_eq_false (by omega)]; rfl)
    · exact h _ (by rw [e7, decide_eq_true (by omega)]; rfl)
  · have e7 : cmq 13 x.toInt y.toInt = decide (y.toInt ≤ x.toInt) := rfl
    split
    · exact h _ (by rw [e7, decide_eq_false (by omega)]; rfl)
    · exact h _ (by rw [e7, decide_eq_true (by omega)]; rfl)
  · have e7 : cmq 14 x.toInt y.toInt = decide (x.toInt = y.toInt) := rfl
    split
    · exact h _ (by rw [e7, decide_eq_true (by omega)]; rfl)
    · exact h _ (by rw [e7, decide_eq_false (by omega)]; rfl)
  · have e7 : cmq 15 x.toInt y.toInt = decide (x.toInt ≠ y.toInt) := rfl
    split
    · exact h _ (by rw [e7, decide_eq_false (by omega)]; rfl)
    · exact h _ (by rw [e7, decide_eq_true (by omega)]; rfl)
theorem sM_joined {d : Nat} {Φ : Po} {σ : Sg} {k x y : Int32} (hk : k.toInt = 21 ∨ k.toInt = 22) (hx : x.toInt = 0 ∨ x.toInt = 1) (hy : y.toInt = 0 ∨ y.toInt = 1) (h : ∀ r : Int32, r.toInt = (if k.toInt = 21 then min x.toInt y.toInt else max x.toInt y.toInt) → Φ (some (.int r)) σ) : wp true (d + 1) nM_joined [.int k, .int x, .int y] σ Φ := by
  apply wM_joined
  simp only [pI, pL, pR, pV, i10, ↓reduceIte, eM_joined_0, eM_joined_18, eM_joined_22, eM_joined_30, eM_joined_34, eM_joined_35]
  try simp only [cond, zB_1, zB_0, lg_cmp_ge, lg_cmp_le, lg_cmp_gt, lg_cmp_lt, lg_cmp_eq]
  try simp only [ne_eq, not_false_eq_true, true_and, and_true, ↓reduceIte, ile, ilt, ieq, jle, jlt, jeq, Int32.toInt_toInt64, Int32.reduceToInt, Int64.reduceToInt, Int.reduceNeg, Int.reduceEq, Int.reduceLT, Int.reduceLE, and_self, and_false, false_and]
  rcases hk with hk | hk <;> rw [hk] at h ⊢ <;> simp only [Int.reduceEq, ↓reduceIte] at h ⊢ <;> repeat' split
  all_goals exact h _ (by simp only [Int32.reduceToInt]; omega)
theorem sM_rounded {d : Nat} {Φ : Po} {σ : Sg} {x y : Int64} (hx : -1000000 ≤ x.toInt ∧ x.toInt ≤ 1000000) (hy : -1000000 ≤ y.toInt ∧ y.toInt ≤ 1000000) (h : ∀ r : Int64, r.toInt = rnd x.toInt (iabs y.toInt) → Φ (some (.long r)) σ) : wp true (d + 1) nM_rounded [.long x, .long y] σ Φ := by
  apply wM_rounded
  simp only [pI, pL, pR, pV, i10, ↓reduceIte, eM_rounded_0, eM_rounded_11]
  try simp only [cond, zB_1, zB_0, lg_cmp_ge, lg_cmp_le, lg_cmp_gt, lg_cmp_lt, lg_cmp_eq]
  try simp only [ne_eq, not_false_eq_true, true_and, and_true, ↓reduceIte, ile, ilt, ieq, jle, jlt, jeq, Int32.toInt_toInt64, Int32.reduceToInt, Int64.reduceToInt, Int.reduceNeg, Int.reduceEq, Int.reduceLT, Int.reduceLE, and_self, and_false, false_and]
  have key : ∀ z : Int64, z.toInt = iabs y.toInt → bM_rounded_12 true NOB (wp true d) Φ (kM_rounded d Φ) [.long x, .retAddr 0, .long y, .retAddr 0, .retAddr 0, .retAddr 0, .retAddr 0, .retAddr 0] [.long z] σ := by
    intro z hz
    rw [← hz] at h
    have hz0 : 0 ≤ z.toInt ∧ z.toInt ≤ 1000000 := by
      rw [hz]; unfold iabs; split <;> omega
    simp only [pI, pL, pR, pV, i10, ↓reduceIte, eM_rounded_0, eM_rounded_11, eM_rounded_12, eM_rounded_23, eM_rounded_42, eM_rounded_46, eM_rounded_70, eM_rounded_74]
    try simp only [cond, zB_1, zB_0, lg_cmp_ge, lg_cmp_le, lg_cmp_gt, lg_cmp_lt, lg_cmp_eq]
    try simp only [ne_eq, not_false_eq_true, true_and, and_true, ↓reduceIte, ile, ilt, ieq, jle, jlt, jeq, Int32.toInt_toInt64, Int32.reduceToInt, Int64.reduceToInt, Int.reduceNeg, Int.reduceEq, Int.reduceLT, Int.reduceLE, and_self, and_false, false_and]
    unfold rnd at h
    split
    next e => exact h _ (by rw [if_pos e])
    next e =>
      rw [if_neg e] at h
      have hp : 0 < z.toInt := by omega
      have hr := tmod_r (x := x.toInt) hp
      have he := (ediv_of_tdiv (x := x.toInt) hp).2
      have hq := Int.emod_add_mul_ediv x.toInt z.toInt
      rw [Int.mul_comm] at hq
      refine ⟨e, ?_⟩
      have m1 : (x % z).toInt = x.toInt.tmod z.toInt := jRt
      have m2 : (x % z + z).toInt = x.toInt.tmod z.toInt + z.toInt := by rw [jP (by rw [m1]; omega), m1]
      have fin : ∀ u : Int64, u.toInt = x.toInt % z.toInt → (if (2 * u).toInt < z.toInt then Φ (some (.long (x - u))) σ else Φ (some (.long (x - u + z))) σ) := by
        intro u hu
        have u0 := Int.emod_nonneg x.toInt e
        have u1 := Int.emod_lt_of_pos x.toInt hp
        have e2 : (2 * u).toInt = 2 * u.toInt := by rw [jX (by rw [show (2 : Int64).toInt = 2 from rfl]; omega)]; rfl
        have e3 : (x - u).toInt = x.toInt - u.toInt := jM (by omega)
        have e4 : (x - u + z).toInt = x.toInt - u.toInt + z.toInt := by rw [jP (by rw [e3]; omega), e3]
        rw [e2]
        split
        · exact h _ (by rw [e3, if_pos (by omega)]; omega)
        · exact h _ (by rw [e4, if_neg (by omega)]; omega)
      rw [m1]
      split
      next z0 =>
        refine ⟨e, ?_⟩
        exact fin _ (by rw [m1, he, if_neg (by omega)])
      next z0 =>
        refine ⟨e, ?_⟩
        exact fin _ (by rw [m2, he, if_pos (by omega)])
  unfold iabs at key
  split
  · exact key _ (by rw [if_pos (by omega)])
  · exact key _ (by rw [if_neg (by omega), jN (by omega)])
theorem sM_debtOf {d : Nat} {Φ : Po} {σ : Sg} {E : En} {c : Co} {x : Int64} (hO : Ok E c) (hE : ME σ E) (hc : mc σ 121 = c) (hx : -1000000 ≤ x.toInt ∧ x.toInt ≤ 1000000) (h : ∀ r : Int64, r.toInt = dbt E c x.toInt → Φ (some (.long r)) σ) : wp true (d + 2) nM_debtOf [.ref 120, .long x] σ Φ := by
  apply wM_debtOf
  simp only [pI, pL, pR, pV, i10, ↓reduceIte, eM_debtOf_0, eM_debtOf_29, eM_debtOf_30]
  try simp only [cond, zB_1, zB_0, lg_cmp_ge, lg_cmp_le, lg_cmp_gt, lg_cmp_lt, lg_cmp_eq]
  try simp only [ne_eq, not_false_eq_true, true_and, and_true, ↓reduceIte, ile, ilt, ieq, jle, jlt, jeq, Int32.toInt_toInt64, Int32.reduceToInt, Int64.reduceToInt, Int.reduceNeg, Int.reduceEq, Int.reduceLT, Int.reduceLE, and_self, and_false, false_and]
  have hn := hO.1
  have e0 : (gI σ 121 (ix 0)).toInt = eN E := hE.1
  unfold dbt at h
  rw [e0]
  split
  · exact h _ (by rw [if_neg (by omega)]; rfl)
  · refine ⟨⟨by decide, by decide⟩, ?_⟩
    split
    · exact h _ (by rw [if_neg (by omega)]; rfl)
    · have ew : (Int64.toInt32 x).toInt = x.toInt := j32 (by omega)
      refine sM_getO (by omega) (fun r hr => ?_)
      simp only [pI, pL, pR, pV, i10, ↓reduceIte, eM_debtOf_25, eM_debtOf_30]
      refine h _ ?_
      rw [Int32.toInt_toInt64, if_pos (by omega), hr, hc]
      unfold ix
      rw [ew]
