/-! THE WORST DAY -/
def wIdx (a : Nat → Int) : Nat → Int
  | 0 => -1
  | i + 1 => if wIdx a i = -1 then i else if bookF i 3 a ≤ bookF (wIdx a i) 3 a then wIdx a i else i
theorem wIdx_b (a : Nat → Int) : ∀ i : Nat, -1 ≤ wIdx a i ∧ wIdx a i < i
  | 0 => by
    show (-1 : Int) ≤ -1 ∧ (-1 : Int) < ((0 : Nat) : Int)
    decide
  | i + 1 => by
    have := wIdx_b a i
    unfold wIdx
    split
    · omega
    split <;> omega
theorem bookF_0 {a : Nat → Int} {i : Int} (h : 0 ≤ i ∧ i < min 30 (a 10)) : 0 ≤ bookF i 3 a := by
  unfold bookF
  rw [if_neg (by omega), if_pos ⟨h, by decide⟩]
  try rw [if_neg (by decide)]
  try rw [if_neg (by decide)]
  try rw [if_neg (by decide)]
  omega
def worstF (a : Nat → Int) : Int := if wIdx a (min 30 (a 10)).toNat = -1 then -1 else bookF (wIdx a (min 30 (a 10)).toNat) 0 a
theorem p_worstDay : PairI Rel nX_worstDay nM_worstDay [] := by
  have l1 : (-1 : Int32).toInt = -1 := rfl
  have l0 : (0 : Int32).toInt = 0 := rfl
  have l3 : (3 : Int32).toInt = 3 := rfl
  refine qryI (fun _ _ a => worstF a) (fun lws σ Φ hR h => ?_) (fun lws σ Φ hR h => ?_)
  · obtain ⟨w1, w2, w3⟩ := hR.wr
    obtain ⟨P, hP⟩ : ∃ P : Nat, (P : Int) = min 30 (rd σ 121 10) := ⟨(min 30 (rd σ 121 10)).toNat, by omega⟩
    have hPn : (min 30 (rd σ 121 10)).toNat = P := by omega
    have lp : ∀ (m i : Nat) (x1 x2 x3 : Int32), i + m = P → x3.toInt = i → x1.toInt = (if wIdx (rd σ 121) i = -1 then -1 else bookF (wIdx (rd σ 121) i) 0 (rd σ 121)) → x2.toInt = (if wIdx (rd σ 121) i = -1 then -1 else bookF (wIdx (rd σ 121) i) 3 (rd σ 121)) → bX_worstDay_6 true NOB (wp true 12) Φ (kX_worstDay 12 Φ) [.ref 0, .int x1, .int x2, .int x3] [] σ := by
      intro m
      induction m with
      | zero =>
        intro i x1 x2 x3 hi h3 h1 h2
        simp only [pI, pL, pR, pV, i10, ↓reduceIte, eX_worstDay_6]
        refine sW_pages (fun v hv => ?_)
        simp only [pI, pL, pR, pV, i10, ↓reduceIte, eX_worstDay_14]
        simp only [ile, hv, w1, h3]
        rw [if_pos (by omega)]
        simp only [pI, pL, pR, pV, i10, ↓reduceIte, eX_worstDay_56]
        refine h _ σ Fr.rf ?_
        unfold worstF
        rw [h1, hPn]
        obtain rfl : i = P := by omega
        rfl
      | succ m ih =>
        intro i x1 x2 x3 hi h3 h1 h2
        have hb := wIdx_b (rd σ 121) i
        simp only [pI, pL, pR, pV, i10, ↓reduceIte, eX_worstDay_6]
        refine sW_pages (fun v hv => ?_)
        simp only [pI, pL, pR, pV, i10, ↓reduceIte, eX_worstDay_14]
        simp only [ile, hv, w1, h3]
        rw [if_neg (by omega)]
        refine sW_page hR (by omega) (by decide) (fun u hu => ?_)
        rw [h3, l3] at hu
        simp only [pI, pL, pR, pV, i10, ↓reduceIte, eX_worstDay_26]
        have pos := bookF_0 (a := rd σ 121) (i := i) (by omega)
        have e : wIdx (rd σ 121) (i + 1) = if wIdx (rd σ 121) i = -1 then (i : Int) else if bookF i 3 (rd σ 121) ≤ bookF (wIdx (rd σ 121) i) 3 (rd σ 121) then wIdx (rd σ 121) i else i := rfl
        have h3' : (x3 + 1).toInt = (i + 1 : Nat) := by rw [t1 (by omega), h3]; omega
        simp only [ile, hu, h2]
        have e' : wIdx (rd σ 121) (i + 1) = (i : Int) ∨ wIdx (rd σ 121) (i + 1) = wIdx (rd σ 121) i := by
          rw [e]
          split
          · exact Or.inl rfl
          split
          · exact Or.inr rfl
          · exact Or.inl rfl
        by_cases q : wIdx (rd σ 121) i ≠ -1 ∧ bookF i 3 (rd σ 121) ≤ bookF (wIdx (rd σ 121) i) 3 (rd σ 121)
        · rw [if_neg q.1] at e h1 h2 ⊢
          rw [if_pos q.2] at e ⊢
          simp only [pI, pL, pR, pV, i10, ↓reduceIte, eX_worstDay_50]
          refine hX_worstDay_6 _ _ _ _ _ (ih (i + 1) x1 x2 (x3 + 1) (by omega) h3' ?_ ?_)
          · rw [e, if_neg q.1]; exact h1
          · rw [e, if_neg q.1]; exact h2
        · have eI : wIdx (rd σ 121) (i + 1) = i := by
            rw [e]
            by_cases y : wIdx (rd σ 121) i = -1
            · rw [if_pos y]
            · rw [if_neg y, if_neg (fun w => q ⟨y, w⟩)]
          rw [if_neg (by
            by_cases y : wIdx (rd σ 121) i = -1
            · rw [if_pos y]; omega
            · rw [if_neg y]; exact fun w => q ⟨y, w⟩)]
          refine sW_page hR (by omega) (by decide) (fun r hr => ?_)
          rw [h3, l0] at hr
          simp only [pI, pL, pR, pV, i10, ↓reduceIte, eX_worstDay_39]
          refine sW_page hR (by omega) (by decide) (fun s hs => ?_)
          rw [h3, l3] at hs
          simp only [pI, pL, pR, pV, i10, ↓reduceIte, eX_worstDay_49, eX_worstDay_50]
          refine hX_worstDay_6 _ _ _ _ _ (ih (i + 1) r s (x3 + 1) (by omega) h3' ?_ ?_)
          · rw [eI, if_neg (by omega)]; exact hr
          · rw [eI, if_neg (by omega)]; exact hs
    apply wX_worstDay
    simp only [pI, pL, pR, pV, i10, ↓reduceIte, eX_worstDay_0]
    exact lp P 0 (-1) (-1) 0 (by omega) rfl rfl rfl
  · obtain ⟨w1, w2, w3⟩ := hR.wr
    obtain ⟨P, hP⟩ : ∃ P : Nat, (P : Int) = min 30 (rd σ 121 10) := ⟨(min 30 (rd σ 121 10)).toNat, by omega⟩
    have hPn : (min 30 (rd σ 121 10)).toNat = P := by omega
    have lp : ∀ (m i : Nat) (x1 x2 : Int32), i + m = P → x2.toInt = i → x1.toInt = wIdx (rd σ 121) i → bM_worstDay_4 true NOB (wp true 12) Φ (kM_worstDay 12 Φ) [.ref 120, .int x1, .int x2] [] σ := by
      intro m
      induction m with
      | zero =>
        intro i x1 x2 hi h2 h1
        have hb := wIdx_b (rd σ 121) i
        simp only [pI, pL, pR, pV, i10, ↓reduceIte, eM_worstDay_4]
        refine sM_shown (fun v hv => ?_)
        simp only [pI, pL, pR, pV, i10, ↓reduceIte, eM_worstDay_9]
        simp only [ile, hv, h2]
        rw [if_pos (by omega)]
        obtain rfl : i = P := by omega
        simp only [pI, pL, pR, pV, i10, ↓reduceIte, eM_worstDay_40]
        simp only [ieq, h1, l1]
        split
        next z =>
          simp only [pI, pL, pR, pV, i10, ↓reduceIte, eM_worstDay_55]
          refine h _ σ Fr.rf ?_
          unfold worstF
          rw [hPn, if_pos z]
          rfl
        next z =>
          simp only [pI, pL, pR, pV, i10, ↓reduceIte, eM_worstDay_49]
          refine sM_entry hR (by omega) (by decide) (fun r hr => ?_)
          simp only [pI, pL, pR, pV, i10, ↓reduceIte, eM_worstDay_55]
          refine h _ σ Fr.rf ?_
          unfold worstF
          rw [hPn, if_neg z, hr, h1, l0]
      | succ m ih =>
        intro i x1 x2 hi h2 h1
        have hb := wIdx_b (rd σ 121) i
        have e : wIdx (rd σ 121) (i + 1) = if wIdx (rd σ 121) i = -1 then (i : Int) else if bookF i 3 (rd σ 121) ≤ bookF (wIdx (rd σ 121) i) 3 (rd σ 121) then wIdx (rd σ 121) i else i := rfl
        have h2' : (x2 + 1).toInt = (i + 1 : Nat) := by rw [t1 (by omega), h2]; omega
        simp only [pI, pL, pR, pV, i10, ↓reduceIte, eM_worstDay_4]
        refine sM_shown (fun v hv => ?_)
        simp only [pI, pL, pR, pV, i10, ↓reduceIte, eM_worstDay_9]
        simp only [ile, ieq, hv, h2, h1, l1]
        rw [if_neg (by omega)]
        split
        next z =>
          simp only [pI, pL, pR, pV, i10, ↓reduceIte, eM_worstDay_32, eM_worstDay_34]
          exact hM_worstDay_4 _ _ _ _ _ (ih (i + 1) x2 (x2 + 1) (by omega) h2' (by rw [e, if_pos z, h2]))
        next z =>
          refine sM_entry hR (by omega) (by decide) (fun u hu => ?_)
          rw [h2, l3] at hu
          simp only [pI, pL, pR, pV, i10, ↓reduceIte, eM_worstDay_23]
          refine sM_entry hR (by omega) (by decide) (fun r hr => ?_)
          rw [h1, l3] at hr
          simp only [pI, pL, pR, pV, i10, ↓reduceIte, eM_worstDay_29]
          simp only [ile, hu, hr]
          split
          next y =>
            simp only [pI, pL, pR, pV, i10, ↓reduceIte, eM_worstDay_34]
            exact hM_worstDay_4 _ _ _ _ _ (ih (i + 1) x1 (x2 + 1) (by omega) h2' (by rw [e, if_neg z, if_pos y, h1]))
          next y =>
            simp only [pI, pL, pR, pV, i10, ↓reduceIte, eM_worstDay_32, eM_worstDay_34]
            exact hM_worstDay_4 _ _ _ _ _ (ih (i + 1) x2 (x2 + 1) (by omega) h2' (by rw [e, if_neg z, if_neg y, h2]))
    apply wM_worstDay
    simp only [pI, pL, pR, pV, i10, ↓reduceIte, eM_worstDay_0]
    exact lp P 0 (-1) 0 (by omega) rfl rfl
