/-! HOW OFTEN -/
def cntF (w : Int) (a : Nat → Int) : Nat → Nat
  | 0 => 0
  | i + 1 => cntF w a i + if bookF i 1 a = w then 1 else 0
theorem cntF_b (w : Int) (a : Nat → Int) : ∀ i : Nat, cntF w a i ≤ i
  | 0 => Nat.le_refl _
  | i + 1 => by
    have := cntF_b w a i
    unfold cntF
    split <;> omega
def oftF (w : Int) (a : Nat → Int) : Int := if w = -1 ∨ (0 ≤ w ∧ w < a 0) then cntF w a (min 30 (a 10)).toNat else -2
theorem p_often (x : Int32) : PairI Rel nX_often nM_often [.int x] := by
  have l1 : (-1 : Int32).toInt = -1 := rfl
  have l0 : (0 : Int32).toInt = 0 := rfl
  have k1 : (1 : Int32).toInt = 1 := rfl
  have cN : (x = -1) = (x.toInt = -1) := by rw [ieq]; rfl
  refine qryI (fun _ _ a => oftF x.toInt a) (fun lws σ Φ hR h => ?_) (fun lws σ Φ hR h => ?_)
  · obtain ⟨w1, w2, w3⟩ := hR.wr
    have s0 : rd σ 1 4 = rd σ 121 0 := hR.1.1.1
    obtain ⟨P, hP⟩ : ∃ P : Nat, (P : Int) = min 30 (rd σ 121 10) := ⟨(min 30 (rd σ 121 10)).toNat, by omega⟩
    have hPn : (min 30 (rd σ 121 10)).toNat = P := by omega
    have lp : (x.toInt = -1 ∨ (0 ≤ x.toInt ∧ x.toInt < rd σ 121 0)) → ∀ (m i : Nat) (x2 x3 : Int32), i + m = P → x3.toInt = i → x2.toInt = cntF x.toInt (rd σ 121) i → bX_often_23 true NOB (wp true 12) Φ (kX_often 12 Φ) [.ref 0, .int x, .int x2, .int x3] [] σ := by
      intro hx m
      induction m with
      | zero =>
        intro i x2 x3 hi h3 h2
        simp only [pI, pL, pR, pV, i10, ↓reduceIte, eX_often_23]
        refine sW_pages (fun v hv => ?_)
        simp only [pI, pL, pR, pV, i10, ↓reduceIte, eX_often_31]
        simp only [ile, hv, w1, h3]
        rw [if_pos (by omega)]
        simp only [pI, pL, pR, pV, i10, ↓reduceIte, eX_often_56]
        refine h _ σ Fr.rf ?_
        unfold oftF
        obtain rfl : i = P := by omega
        rw [hPn, if_pos hx, h2]
      | succ m ih =>
        intro i x2 x3 hi h3 h2
        have hb := cntF_b x.toInt (rd σ 121) i
        have e : cntF x.toInt (rd σ 121) (i + 1) = cntF x.toInt (rd σ 121) i + if bookF i 1 (rd σ 121) = x.toInt then 1 else 0 := rfl
        have h3' : (x3 + 1).toInt = (i + 1 : Nat) := by rw [t1 (by omega), h3]; omega
        simp only [pI, pL, pR, pV, i10, ↓reduceIte, eX_often_23]
        refine sW_pages (fun v hv => ?_)
        simp only [pI, pL, pR, pV, i10, ↓reduceIte, eX_often_31]
        simp only [ile, hv, w1, h3]
        rw [if_neg (by omega)]
        refine sW_page hR (by omega) (by decide) (fun u hu => ?_)
        rw [h3, k1] at hu
        simp only [pI, pL, pR, pV, i10, ↓reduceIte, eX_often_43]
        simp only [ieq, hu]
        split
        next z =>
          simp only [pI, pL, pR, pV, i10, ↓reduceIte, eX_often_50]
          exact hX_often_23 _ _ _ _ _ (ih (i + 1) (x2 + 1) (x3 + 1) (by omega) h3' (by rw [e, if_pos z, t1 (by omega), h2]; omega))
        next z =>
          simp only [pI, pL, pR, pV, i10, ↓reduceIte, eX_often_50]
          exact hX_often_23 _ _ _ _ _ (ih (i + 1) x2 (x3 + 1) (by omega) h3' (by rw [e, if_neg z, h2]; omega))
    apply wX_often
    simp only [pI, pL, pR, pV, i10, ↓reduceIte, eX_often_0]
    simp only [cN]
    split
    next z =>
      simp only [pI, pL, pR, pV, i10, ↓reduceIte, eX_often_19]
      exact lp (Or.inl z) P 0 0 0 (by omega) rfl rfl
    next z =>
      refine sW_isWind (fun q => ?_) (fun q => ?_)
      · rw [s0] at q
        simp only [pI, pL, pR, pV, i10, ↓reduceIte, eX_often_13]
        try rw [if_neg (by decide)]
        simp only [pI, pL, pR, pV, i10, ↓reduceIte, eX_often_19]
        exact lp (Or.inr q) P 0 0 0 (by omega) rfl rfl
      · rw [s0] at q
        simp only [pI, pL, pR, pV, i10, ↓reduceIte, eX_often_13]
        try rw [if_pos rfl]
        refine h _ σ Fr.rf ?_
        unfold oftF
        rw [if_neg (by omega)]
        rfl
  · obtain ⟨w1, w2, w3⟩ := hR.wr
    have b0 := hR.1.1.2.2.2.2.1
    obtain ⟨P, hP⟩ : ∃ P : Nat, (P : Int) = min 30 (rd σ 121 10) := ⟨(min 30 (rd σ 121 10)).toNat, by omega⟩
    have hPn : (min 30 (rd σ 121 10)).toNat = P := by omega
    have lp : (x.toInt = -1 ∨ (0 ≤ x.toInt ∧ x.toInt < rd σ 121 0)) → ∀ (m i : Nat) (x2 x3 : Int32), i + m = P → x3.toInt = i → x2.toInt = cntF x.toInt (rd σ 121) i → bM_often_20 true NOB (wp true 12) Φ (kM_often 12 Φ) [.ref 120, .int x, .int x2, .int x3] [] σ := by
      intro hx m
      induction m with
      | zero =>
        intro i x2 x3 hi h3 h2
        simp only [pI, pL, pR, pV, i10, ↓reduceIte, eM_often_20]
        refine sM_shown (fun v hv => ?_)
        simp only [pI, pL, pR, pV, i10, ↓reduceIte, eM_often_25]
        simp only [ile, hv, h3]
        rw [if_pos (by omega)]
        simp only [pI, pL, pR, pV, i10, ↓reduceIte, eM_often_52]
        refine h _ σ Fr.rf ?_
        unfold oftF
        obtain rfl : i = P := by omega
        rw [hPn, if_pos hx, h2]
      | succ m ih =>
        intro i x2 x3 hi h3 h2
        have hb := cntF_b x.toInt (rd σ 121) i
        have e : cntF x.toInt (rd σ 121) (i + 1) = cntF x.toInt (rd σ 121) i + if bookF i 1 (rd σ 121) = x.toInt then 1 else 0 := rfl
        have h3' : (x3 + 1).toInt = (i + 1 : Nat) := by rw [t1 (by omega), h3]; omega
        simp only [pI, pL, pR, pV, i10, ↓reduceIte, eM_often_20]
        refine sM_shown (fun v hv => ?_)
        simp only [pI, pL, pR, pV, i10, ↓reduceIte, eM_often_25]
        simp only [ile, hv, h3]
        rw [if_neg (by omega)]
        refine sM_entry hR (by omega) (by decide) (fun u hu => ?_)
        rw [h3, k1] at hu
        simp only [pI, pL, pR, pV, i10, ↓reduceIte, eM_often_35]
        simp only [ieq, hu]
        split
        next z =>
          simp only [pI, pL, pR, pV, i10, ↓reduceIte, eM_often_44]
          exact hM_often_20 _ _ _ _ _ (ih (i + 1) (x2 + 1) (x3 + 1) (by omega) h3' (by rw [e, if_pos z, t1 (by omega), h2]; omega))
        next z =>
          simp only [pI, pL, pR, pV, i10, ↓reduceIte, eM_often_43, eM_often_44]
          exact hM_often_20 _ _ _ _ _ (ih (i + 1) (x2 + 0) (x3 + 1) (by omega) h3' (by rw [e, if_neg z, tP (by rw [l0]; omega), h2, l0]; omega))
    apply wM_often
    simp only [pI, pL, pR, pV, i10, ↓reduceIte, eM_often_0]
    simp only [cN]
    split
    next z =>
      simp only [pI, pL, pR, pV, i10, ↓reduceIte, eM_often_16]
      exact lp (Or.inl z) P 0 0 0 (by omega) rfl rfl
    next z =>
      refine sM_isWind b0 (fun q => ?_) (fun q => ?_)
      · simp only [pI, pL, pR, pV, i10, ↓reduceIte, eM_often_10]
        try rw [if_neg (by decide)]
        simp only [pI, pL, pR, pV, i10, ↓reduceIte, eM_often_16]
        exact lp (Or.inr q) P 0 0 0 (by omega) rfl rfl
      · simp only [pI, pL, pR, pV, i10, ↓reduceIte, eM_often_10]
        try rw [if_pos rfl]
        refine h _ σ Fr.rf ?_
        unfold oftF
        rw [if_neg (by omega)]
        rfl
