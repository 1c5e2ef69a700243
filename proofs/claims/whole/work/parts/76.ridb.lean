/-! STRENGTHS, WHOSE WIND -/
def qStr (w : Int32) (E : En) (c : Co) (a : Nat → Int) : Int := if 0 ≤ w.toInt ∧ w.toInt < eN E then (strF E c a (ix w)).toInt else -1
theorem p_strengths (w : Int32) : PairI Rel nX_strengths nM_strengths [.int w] := by
  refine qryJ (qStr w) (fun lws σ Φ hR h => ?_) (fun lws σ Φ hR h => ?_)
  · apply wX_strengths
    simp only [pI, pL, pR, pV, i10, ↓reduceIte, eX_strengths_0]
    obtain ⟨e4, -, -, -, -, -⟩ := hR.n
    unfold qStr at h
    refine sW_isWind (fun q => ?_) (fun q => ?_)
    · rw [e4] at q
      rw [if_pos q] at h
      simp only [pI, pL, pR, pV, i10, ↓reduceIte, eX_strengths_8]
      refine sZ_str (Wd.i hR) q (fun σ' hF => ?_)
      simp only [pI, pL, pR, pV, i10, ↓reduceIte, eX_strengths_19, eX_strengths_23]
      exact h _ _ (F109x hF).fi rfl
    · rw [e4] at q
      rw [if_neg q] at h
      simp only [pI, pL, pR, pV, i10, ↓reduceIte, eX_strengths_8, eX_strengths_22, eX_strengths_23]
      exact h _ _ Fr.rf.fi rfl
  · apply wM_strengths
    simp only [pI, pL, pR, pV, i10, ↓reduceIte, eM_strengths_0]
    obtain ⟨-, -, e0, -, b0, -⟩ := hR.n
    unfold qStr at h
    refine sM_isWind b0 (fun q => ?_) (fun q => ?_)
    · rw [e0] at q
      rw [if_pos q] at h
      simp only [pI, pL, pR, pV, i10, ↓reduceIte, eM_strengths_5]
      refine sM_str (Wd.i hR) q (fun σ' hF => ?_)
      simp only [pI, pL, pR, pV, i10, ↓reduceIte, eM_strengths_13, eM_strengths_17]
      exact h _ _ (FMLm hF).fi rfl
    · rw [e0] at q
      rw [if_neg q] at h
      simp only [pI, pL, pR, pV, i10, ↓reduceIte, eM_strengths_5, eM_strengths_16, eM_strengths_17]
      exact h _ _ Fr.rf.fi rfl
def wndS (E : En) (c : Co) (a : Nat → Int) : Nat → Int32
  | 0 => 0
  | n + 1 => if strF E c a n = 0 then wndS E c a n else wndS E c a n ||| (1 <<< (Int32.ofNat n &&& 31))
theorem p_whoseWind : PairI Rel nX_whoseWind nM_whoseWind [] := by
  refine qryJ (fun E c a => (wndS E c a (eN E)).toInt) (fun lws σ Φ hR h => ?_) (fun lws σ Φ hR h => ?_)
  · apply wX_whoseWind
    simp only [pI, pL, pR, pV, i10, ↓reduceIte, eX_whoseWind_0]
    apply wZ_fittingWinds
    simp only [pI, pL, pR, pV, i10, ↓reduceIte, eZ_fittingWinds_0]
    have g0 := Wd.i hR
    generalize EE lws σ = E at h g0
    generalize mc σ 121 = c at h g0
    generalize rd σ 121 = a at h g0
    have lp : ∀ (n m : Nat) (σ' : Sg) (s x : Int32), m + n = eN E → x.toInt = m → Fr F109 σ σ' → Wd lws E c a σ' → s = wndS E c a m → bZ_fittingWinds_4 true NOB (wp true 11) (pI (bX_whoseWind_7 true NOB (wp true 12) Φ (kX_whoseWind 12 Φ)) [.ref 0] []) (kZ_fittingWinds 11 (pI (bX_whoseWind_7 true NOB (wp true 12) Φ (kX_whoseWind 12 Φ)) [.ref 0] [])) [.ref 115, .int s, .int x] [] σ' := by
      intro n
      induction n with
      | zero =>
        intro m σ' s x hm hx hF g hs
        obtain ⟨n1, -⟩ := g.nv
        simp only [pI, pL, pR, pV, i10, ↓reduceIte, eZ_fittingWinds_4, eZ_fittingWinds_35]
        simp only [ile, n1, hx]
        rw [if_pos (by omega), hs]
        obtain rfl : m = eN E := by omega
        simp only [pI, pL, pR, pV, i10, ↓reduceIte, eX_whoseWind_7]
        exact h _ _ (F109x hF).fi rfl
      | succ n ih =>
        intro m σ' s x hm hx hF g hs
        obtain ⟨n1, -, -, -, -, -, n6, -⟩ := g.nv
        simp only [pI, pL, pR, pV, i10, ↓reduceIte, eZ_fittingWinds_4]
        simp only [ile, n1, hx]
        rw [if_neg (by omega)]
        have hix : ix x = m := ix_of hx
        have hx1 : (x + 1).toInt = ((m + 1 : Nat) : Int) := by rw [tq1 x (by omega), hx]; omega
        have ex : x = Int32.ofNat m := ofN hx (by omega)
        refine sZ_str g (by omega) (fun σ1 hF1 => ?_)
        have g1 : Wd lws E c a σ1 := g.x (F109x hF1).fi
        simp only [pI, pL, pR, pV, i10, ↓reduceIte, eZ_fittingWinds_20]
        have eS : wndS E c a (m + 1) = if strF E c a m = 0 then wndS E c a m else wndS E c a m ||| (1 <<< (Int32.ofNat m &&& 31)) := rfl
        rw [hix]
        split
        next z =>
          simp only [pI, pL, pR, pV, i10, ↓reduceIte, eZ_fittingWinds_29]
          exact hZ_fittingWinds_4 _ _ _ _ _ (ih (m + 1) σ1 _ (x + 1) (by omega) hx1 (hF.tr hF1) g1 (by rw [eS, if_pos z, hs]))
        next z =>
          simp only [pI, pL, pR, pV, i10, ↓reduceIte, eZ_fittingWinds_29]
          exact hZ_fittingWinds_4 _ _ _ _ _ (ih (m + 1) σ1 _ (x + 1) (by omega) hx1 (hF.tr hF1) g1 (by rw [eS, if_neg z, hs, ex]))
    exact lp (eN E) 0 σ 0 0 (by omega) rfl Fr.rf g0 rfl
  · apply wM_whoseWind
    simp only [pI, pL, pR, pV, i10, ↓reduceIte, eM_whoseWind_0]
    have g0 := Wd.i hR
    generalize EE lws σ = E at h g0
    generalize mc σ 121 = c at h g0
    generalize rd σ 121 = a at h g0
    have lp : ∀ (n m : Nat) (σ' : Sg) (s x : Int32), m + n = eN E → x.toInt = m → Fr FML σ σ' → Wd lws E c a σ' → s = wndS E c a m → bM_whoseWind_4 true NOB (wp true 12) Φ (kM_whoseWind 12 Φ) [.ref 120, .int s, .int x] [] σ' := by
      intro n
      induction n with
      | zero =>
        intro m σ' s x hm hx hF g hs
        obtain ⟨-, -, n1, -⟩ := g.nv
        have n1' : (gI σ' 121 (ix 0)).toInt = eN E := n1
        simp only [pI, pL, pR, pV, i10, ↓reduceIte, eM_whoseWind_4, eM_whoseWind_38]
        simp only [ile, n1', hx]
        rw [if_pos (by omega), hs]
        obtain rfl : m = eN E := by omega
        exact ⟨⟨by decide, by decide⟩, h _ _ (FMLm hF).fi rfl⟩
      | succ n ih =>
        intro m σ' s x hm hx hF g hs
        obtain ⟨-, -, n1, -, -, -, n6, -⟩ := g.nv
        have n1' : (gI σ' 121 (ix 0)).toInt = eN E := n1
        simp only [pI, pL, pR, pV, i10, ↓reduceIte, eM_whoseWind_4]
        simp only [ile, n1', hx]
        rw [if_neg (by omega)]
        refine ⟨⟨by decide, by decide⟩, ?_⟩
        have hix : ix x = m := ix_of hx
        have hx1 : (x + 1).toInt = ((m + 1 : Nat) : Int) := by rw [tq1 x (by omega), hx]; omega
        have ex : x = Int32.ofNat m := ofN hx (by omega)
        refine sM_str g (by omega) (fun σ1 hF1 => ?_)
        have g1 : Wd lws E c a σ1 := g.m (FMLm hF1).fi
        simp only [pI, pL, pR, pV, i10, ↓reduceIte, eM_whoseWind_20]
        have eS : wndS E c a (m + 1) = if strF E c a m = 0 then wndS E c a m else wndS E c a m ||| (1 <<< (Int32.ofNat m &&& 31)) := rfl
        rw [hix]
        split
        next z =>
          simp only [pI, pL, pR, pV, i10, ↓reduceIte, eM_whoseWind_29, eM_whoseWind_30]
          exact hM_whoseWind_4 _ _ _ _ _ (ih (m + 1) σ1 _ (x + 1) (by omega) hx1 (hF.tr hF1) g1 (by rw [eS, if_pos z, hs, or0]))
        next z =>
          simp only [pI, pL, pR, pV, i10, ↓reduceIte, eM_whoseWind_30]
          exact hM_whoseWind_4 _ _ _ _ _ (ih (m + 1) σ1 _ (x + 1) (by omega) hx1 (hF.tr hF1) g1 (by rw [eS, if_neg z, hs, ex]))
    exact lp (eN E) 0 σ 0 0 (by omega) rfl Fr.rf g0 rfl
