theorem p_kind (f : Int32) : PairI Rel nX_kind nM_kind [.int f] := by
  intro σ hR Φ h
  obtain ⟨lws, hR⟩ := hR
  obtain ⟨⟨g1, g2, g3, g4, g5, g6, g7, g8, g9⟩, gI', gT, gF⟩ := hR
  have hR : R lws σ := ⟨⟨g1, g2, g3, g4, g5, g6, g7, g8, g9⟩, gI', gT, gF⟩
  obtain ⟨a1, a2, a3, a4⟩ := g6
  have a1 : rd σ 1 16 = rd σ 121 7 := a1
  have a3 : ∀ k, k < 5 → rd σ 40 k = rd σ 121 (141 + k) := a3
  have cN : (f = -1) = (f.toInt = -1) := by rw [ieq]; rfl
  have SS : Ls := [(1, 16, 17), (40, 0, 5), (121, 7, 8), (121, 141, 146)]
  have put : ∀ σ2 : Sg, Ei [(1, 16, 17), (40, 0, 5), (121, 7, 8), (121, 141, 146)] σ σ2 → G6 0 121 σ2 → R lws σ2 := fun σ2 hS hg => RD_one hR hS (by decide +kernel) (by decide +kernel) (by decide +kernel) ⟨G1.of (hS.eqc (by decide +kernel)) g1, G2.of (hS.eqc (by decide +kernel)) g2, G3.of (hS.eqc (by decide +kernel)) g3, G4.of (hS.eqc (by decide +kernel)) g4, G5.of (hS.eqc (by decide +kernel)) g5, hg, G7.of (hS.eqc (by decide +kernel)) g7, G8.of (hS.eqc (by decide +kernel)) g8, G9.of (hS.eqc (by decide +kernel)) g9⟩
  apply wX_kind
  simp only [pI, pL, pR, pV, i10, ↓reduceIte, eX_kind_0]
  simp only [cN]
  split
  next z =>
    refine h 0 _ ((Fr.sI (S := [(1, 16, 17)]) (by decide)).sm (by decide)) (fun Ψ hΨ => ?_)
    apply wM_kind
    simp only [pI, pL, pR, pV, i10, ↓reduceIte, eM_kind_0]
    simp only [cN]
    rw [if_pos z]
    refine ⟨⟨by decide, by decide⟩, hΨ _ ((Fr.sI (S := [(121, 7, 8)]) (by decide)).sm (by decide)) ⟨lws, put _ ((Fr.sI (by decide)).tr (Fr.sI (by decide))).ei ⟨?_, ?_, fun k hk => ?_, fun k hk => ?_⟩⟩⟩
    · show rd _ 1 16 = _
      rw [rdne (by omega), rdeq, show ix 7 = 7 from rfl, rdeq]
    · rw [show ix 7 = 7 from rfl, rdeq]; decide
    · show rd _ 40 k = _
      rw [rdne (by omega), rdne (by omega), show ix 7 = 7 from rfl, rdne2 (by omega), rdne (by omega)]
      exact a3 k hk
    · rw [show ix 7 = 7 from rfl, rdeq] at hk
      have : (0 : Int32).toInt = 0 := rfl
      omega
  next z =>
    have no : ¬ ((1 ≤ f.toInt ∧ f.toInt ≤ 99) ∧ rd σ 121 7 ≠ 5) → Φ (some (.int (-2))) σ := fun q => by
      refine h _ σ ⟨fun _ => rfl, rfl⟩ (fun Ψ hΨ => ?_)
      have fin := hΨ σ ⟨fun _ => rfl, rfl⟩ ⟨lws, hR⟩
      apply wM_kind
      simp only [pI, pL, pR, pV, i10, ↓reduceIte, eM_kind_0]
      simp only [cN]
      rw [if_neg z]
      simp only [pI, pL, pR, pV, i10, ↓reduceIte, eM_kind_15]
      refine sM_isIn (fun y => ?_) (fun y => ?_)
      · simp only [pI, pL, pR, pV, i10, ↓reduceIte, eM_kind_22, eM_kind_36]
        rw [tl1, show (99 : Int32).toInt = 99 from rfl] at y
        have c5 : (gI σ 121 (ix 7) = 5) = (rd σ 121 7 = 5) := by rw [ieq]; rfl
        simp only [c5]
        rw [if_pos (Classical.byContradiction (fun x => q ⟨y, x⟩))]
        exact ⟨⟨by decide, by decide⟩, fin⟩
      · simp only [pI, pL, pR, pV, i10, ↓reduceIte, eM_kind_22, eM_kind_36]
        exact fin
    simp only [pI, pL, pR, pV, i10, ↓reduceIte, eX_kind_15, eX_kind_37]
    simp only [ilt, tl1, show (99 : Int32).toInt = 99 from rfl]
    split
    next y => exact no (fun x => by omega)
    next y =>
      split
      next y2 => exact no (fun x => by omega)
      next y2 =>
        have c5 : (gI σ 1 16).toInt = (5 : Int32).toInt ↔ rd σ 121 7 = 5 := by rw [show (gI σ 1 16).toInt = rd σ 121 7 from a1]; rfl
        split
        next x => exact no (fun w => by
          have : (gI σ 1 16).toInt = (5 : Int32).toInt := by first | exact x | (rw [x])
          exact w.2 (c5.mp this))
        next x =>
          have hx : rd σ 121 7 ≠ 5 := fun e => x (by first | exact c5.mpr e | exact eqv (c5.mpr e))
          simp only [pI, pL, pR, pV, i10, ↓reduceIte, eX_kind_40]
          have e14 : (gI σ 1 16).toInt = rd σ 121 7 := a1
          have i14 : ix (gI σ 1 16) = (rd σ 121 7).toNat := by unfold ix; rw [e14]
          generalize hq : (rd σ 121 7).toNat = q at i14
          have hq5 : q < 5 := by omega
          have hqi : (q : Int) = rd σ 121 7 := by omega
          rw [i14, gIeq, gIne (by omega)]
          refine ⟨⟨by omega, by omega⟩, ?_⟩
          have fX : Fr [(1, 16, 17), (40, 0, 5), (121, 7, 8), (121, 141, 146)] σ (sI (sI σ 40 q f) 1 16 (gI σ 1 16 + 1)) := (Fr.sI (inS_r (lo := 0) (hi := 5) (by simp) (by omega))).tr (Fr.sI (by decide))
          refine h _ _ (fX.sm (by decide)) (fun Ψ hΨ => ?_)
          apply wM_kind
          simp only [pI, pL, pR, pV, i10, ↓reduceIte, eM_kind_0]
          simp only [cN]
          rw [if_neg z]
          simp only [pI, pL, pR, pV, i10, ↓reduceIte, eM_kind_15]
          refine sM_isIn (fun _ => ?_) (fun w => absurd ⟨by rw [tl1]; omega, by rw [show (99 : Int32).toInt = 99 from rfl]; omega⟩ w)
          simp only [pI, pL, pR, pV, i10, ↓reduceIte, eM_kind_22]
          have m6 : gI (sI (sI σ 40 q f) 1 16 (gI σ 1 16 + 1)) 121 7 = gI σ 121 7 := by rw [gIne (by omega), gIne (by omega)]
          have e6 : (gI σ 121 7).toInt = rd σ 121 7 := rfl
          have c5' : (gI σ 121 7 = 5) = (rd σ 121 7 = 5) := by rw [ieq]; rfl
          rw [show ix 7 = 7 from rfl, m6]
          simp only [c5']
          rw [if_neg hx]
          refine ⟨⟨by decide, by decide⟩, ?_⟩
          simp only [pI, pL, pR, pV, i10, ↓reduceIte, eM_kind_39]
          have i141 : (141 + gI σ 121 7).toInt = 141 + rd σ 121 7 := by rw [tk (n := 141) rfl (by rw [e6]; omega), e6]; rfl
          have i141x : ix (141 + gI σ 121 7) = 141 + q := ix_of (by omega)
          rw [show ix 7 = 7 from rfl, m6, i141x, gIeq, gIne2 (by omega), m6]
          refine ⟨⟨by decide, by decide⟩, ⟨by omega, by omega⟩, ⟨by decide, by decide⟩, ⟨by decide, by decide⟩, ⟨by decide, by decide⟩, ?_⟩
          have ev : gI σ 121 7 + 1 = gI σ 1 16 + 1 := by
            rw [show gI σ 121 7 = gI σ 1 16 from eqv (by rw [e14, e6])]
          have fM : Fr [(1, 16, 17), (40, 0, 5), (121, 7, 8), (121, 141, 146)] (sI (sI σ 40 q f) 1 16 (gI σ 1 16 + 1)) (sI (sI (sI (sI σ 40 q f) 1 16 (gI σ 1 16 + 1)) 121 (141 + q) f) 121 7 (gI σ 121 7 + 1)) := (Fr.sI (inS_r (lo := 141) (hi := 146) (by simp) (by omega))).tr (Fr.sI (by decide))
          have n1 : (gI σ 121 7 + 1).toInt = rd σ 121 7 + 1 := by rw [t1 (by rw [e6]; omega), e6]
          have hg : G6 0 121 (sI (sI (sI (sI σ 40 q f) 1 16 (gI σ 1 16 + 1)) 121 (141 + q) f) 121 7 (gI σ 121 7 + 1)) := by
            refine ⟨?_, ?_, fun k hk => ?_, fun k hk => ?_⟩
            · show rd _ 1 16 = _
              rw [rdne (by omega), rdne (by omega), rdeq, rdeq, ev]
            · rw [rdeq, n1]; omega
            · have hl : rd (sI (sI (sI (sI σ 40 q f) 1 16 (gI σ 1 16 + 1)) 121 (141 + q) f) 121 7 (gI σ 121 7 + 1)) 40 k = rd (sI σ 40 q f) 40 k := by rw [rdne (by omega), rdne (by omega), rdne (by omega)]
              have hr : rd (sI (sI (sI (sI σ 40 q f) 1 16 (gI σ 1 16 + 1)) 121 (141 + q) f) 121 7 (gI σ 121 7 + 1)) 121 (141 + k) = rd (sI (sI (sI σ 40 q f) 1 16 (gI σ 1 16 + 1)) 121 (141 + q) f) 121 (141 + k) := rdne2 (by omega)
              refine hl.trans (Eq.trans ?_ hr.symm)
              by_cases e : k = q
              · rw [e, rdeq, rdeq]
              · rw [rdne2 e]
                refine (a3 k hk).trans (Eq.symm ?_)
                rw [rdne2 (by omega), rdne (by omega), rdne (by omega)]
            · rw [rdeq, n1] at hk
              rw [rdne2 (by omega)]
              by_cases e : k = q
              · subst e; rw [rdeq]; omega
              · rw [rdne2 (by omega), rdne (by omega), rdne (by omega)]; exact a4 k (by omega)
          have fin := hΨ _ (fM.sm (by decide)) ⟨lws, put _ (fX.tr fM).ei hg⟩
          rw [ev] at fin ⊢
          exact fin
theorem p_is (k : Int32) : PairI Rel nX_is nM_is [.int k] := by
  refine qryI (fun _ c _ => if k.toInt = 0 then c 42 else if k.toInt = 1 then c 43 else -2) (fun lws σ Φ hR h => ?_) (fun lws σ Φ hR h => ?_)
  · apply wX_is
    simp only [pI, pL, pR, pV, i10, ↓reduceIte, eX_is_0, eX_is_15, eX_is_33, eX_is_35]
    have c0 : (k = 0) = (k.toInt = 0) := by rw [ieq]; rfl
    have c1 : (k = 1) = (k.toInt = 1) := by rw [ieq]; rfl
    simp only [c0, c1]
    have at2 : ∀ j, j < 44 → (gI σ 2 j).toInt = mc σ 121 j := fun j hj => by rw [← hR.rc]; exact (rc_at hj).symm
    split
    next z => exact ⟨⟨by decide, by decide⟩, h _ _ Fr.rf (by rw [if_pos z]; exact at2 42 (by omega))⟩
    next z =>
      split
      next y => exact ⟨⟨by decide, by decide⟩, h _ _ Fr.rf (by rw [if_neg z, if_pos y]; exact at2 43 (by omega))⟩
      next y => exact h _ _ Fr.rf (by rw [if_neg z, if_neg y]; rfl)
  · apply wM_is
    simp only [pI, pL, pR, pV, i10, ↓reduceIte, eM_is_0]
    refine sM_isIn (fun q => ?_) (fun q => ?_)
    · rw [tl0, tl1] at q
      simp only [pI, pL, pR, pV, i10, ↓reduceIte, eM_is_6, eM_is_23]
      have a1 : ix (8 + k) = 8 + ix k := ixk (n := 8) rfl (by omega)
      rw [a1]
      refine ⟨inb_k (n := 8) rfl (by omega) (by omega), h _ _ Fr.rf ?_⟩
      have j : k.toInt = 0 ∨ k.toInt = 1 := by omega
      rcases j with z | z
      · rw [if_pos z, show ix k = 0 from ix_of z]; rfl
      · rw [if_neg (by omega), if_pos z, show ix k = 1 from ix_of z]; rfl
    · rw [tl0, tl1] at q
      simp only [pI, pL, pR, pV, i10, ↓reduceIte, eM_is_6, eM_is_21, eM_is_23]
      exact h _ _ Fr.rf (by rw [if_neg (by omega), if_neg (by omega)]; rfl)
theorem p_fault (k : Int32) : PairI Rel nX_fault nM_fault [.int k] := by
  intro σ hR Φ h
  obtain ⟨lws, hR⟩ := hR
  have f0 : gI σ 83 13 = gI σ 120 5 := eqv hR.2.2.2.2.2.2.1
  have f1 : gI σ 83 14 = gI σ 120 6 := eqv hR.2.2.2.2.2.2.2.1
  have fin : ∀ v : Int32, (∀ Ψ : Po, Ψ (some (.int v)) σ → wp true 13 nM_fault [.ref 120, .int k] σ Ψ) → Φ (some (.int v)) σ := fun v hv => h v σ ⟨fun _ => rfl, rfl⟩ (fun Ψ hΨ => hv Ψ (hΨ σ ⟨fun _ => rfl, rfl⟩ ⟨lws, hR⟩))
  apply wX_fault
  simp only [pI, pL, pR, pV, i10, ↓reduceIte, eX_fault_0, eX_fault_12, eX_fault_27, eX_fault_28]
  split
  next z =>
    refine fin _ (fun Ψ hΨ => ?_)
    apply wM_fault
    simp only [pI, pL, pR, pV, i10, ↓reduceIte, eM_fault_0, eM_fault_11, eM_fault_23, eM_fault_24]
    rw [if_pos z, ← f0]
    exact hΨ
  next z =>
    split
    next y =>
      refine fin _ (fun Ψ hΨ => ?_)
      apply wM_fault
      simp only [pI, pL, pR, pV, i10, ↓reduceIte, eM_fault_0, eM_fault_11, eM_fault_23, eM_fault_24]
      rw [if_neg z, if_pos y, ← f1]
      exact hΨ
    next y =>
      refine fin _ (fun Ψ hΨ => ?_)
      apply wM_fault
      simp only [pI, pL, pR, pV, i10, ↓reduceIte, eM_fault_0, eM_fault_11, eM_fault_23, eM_fault_24]
      rw [if_neg z, if_neg y]
      exact hΨ
theorem p_about (k : Int32) : PairI Rel nX_about nM_about [.int k] := by
  intro σ hR Φ h
  obtain ⟨lws, hR⟩ := hR
  have fin : ∀ v : Int32, (∀ Ψ : Po, Ψ (some (.int v)) σ → wp true 13 nM_about [.ref 120, .int k] σ Ψ) → Φ (some (.int v)) σ := fun v hv => h v σ ⟨fun _ => rfl, rfl⟩ (fun Ψ hΨ => hv Ψ (hΨ σ ⟨fun _ => rfl, rfl⟩ ⟨lws, hR⟩))
  obtain ⟨⟨g1, g2, g3, g4, g5, g6, g7, g8, g9⟩, gI', gT, gF⟩ := hR
  have e0 : gI σ 1 4 = gI σ 121 0 := eqv g1.1
  have e1 : gI σ 1 6 = gI σ 121 1 := eqv g1.2.1
  have e2 : gI σ 1 9 = gI σ 121 2 := eqv g3.1
  have e3 : gI σ 1 10 = gI σ 121 3 := eqv g3.2.1
  have e4 : gI σ 1 3 = gI σ 121 4 := eqv g9.1
  have e5 : gI σ 1 11 = gI σ 121 5 := eqv g4.1
  have e6 : gI σ 1 14 = gI σ 121 6 := eqv g5.1
  have e7 : gI σ 1 16 = gI σ 121 7 := eqv g6.1
  have e8 : gI σ 0 4 = gI σ 120 4 := eqv gF.1
  have low : ∀ n : Nat, n < 8 → k.toInt = n → ∀ Ψ : Po, Ψ (some (.int (gI σ 121 n))) σ → wp true 13 nM_about [.ref 120, .int k] σ Ψ := fun n hn hk Ψ hΨ => by
    apply wM_about
    simp only [pI, pL, pR, pV, i10, ↓reduceIte, eM_about_0]
    refine sM_isIn (fun q => ?_) (fun q => absurd ⟨by rw [tl0]; omega, by rw [show (7 : Int32).toInt = 7 from rfl]; omega⟩ q)
    simp only [pI, pL, pR, pV, i10, ↓reduceIte, eM_about_7, eM_about_34]
    rw [show ix k = n from ix_of hk]
    exact ⟨⟨by omega, by omega⟩, hΨ⟩
  have cn : ∀ z : Int32, (k = z) = (k.toInt = z.toInt) := fun z => by rw [ieq]
  apply wX_about
  simp only [pI, pL, pR, pV, i10, ↓reduceIte, eX_about_0, eX_about_52, eX_about_60, eX_about_68, eX_about_76, eX_about_84, eX_about_92, eX_about_100, eX_about_108, eX_about_116, eX_about_121]
  split
  next z => exact fin _ (fun Ψ hΨ => low 0 (by omega) z Ψ (by rw [e0] at hΨ; exact hΨ))
  next z0 =>
  split
  next z => exact fin _ (fun Ψ hΨ => low 1 (by omega) z Ψ (by rw [e1] at hΨ; exact hΨ))
  next z1 =>
  split
  next z => exact fin _ (fun Ψ hΨ => low 2 (by omega) z Ψ (by rw [e2] at hΨ; exact hΨ))
  next z2 =>
  split
  next z => exact fin _ (fun Ψ hΨ => low 3 (by omega) z Ψ (by rw [e3] at hΨ; exact hΨ))
  next z3 =>
  split
  next z => exact fin _ (fun Ψ hΨ => low 4 (by omega) z Ψ (by rw [e4] at hΨ; exact hΨ))
  next z4 =>
  split
  next z => exact fin _ (fun Ψ hΨ => low 5 (by omega) z Ψ (by rw [e5] at hΨ; exact hΨ))
  next z5 =>
  split
  next z => exact fin _ (fun Ψ hΨ => low 6 (by omega) z Ψ (by rw [e6] at hΨ; exact hΨ))
  next z6 =>
  split
  next z => exact fin _ (fun Ψ hΨ => low 7 (by omega) z Ψ (by rw [e7] at hΨ; exact hΨ))
  next z7 =>
  have hi : ∀ (v : Int32), (∀ Ψ : Po, Ψ (some (.int v)) σ → bM_about_19 true NOB (wp true 12) Ψ (kM_about 12 Ψ) [.ref 120, .int k] [] σ) → ∀ Ψ : Po, Ψ (some (.int v)) σ → wp true 13 nM_about [.ref 120, .int k] σ Ψ := fun v hv Ψ hΨ => by
    apply wM_about
    simp only [pI, pL, pR, pV, i10, ↓reduceIte, eM_about_0]
    refine sM_isIn (fun q => ?_) (fun q => ?_)
    · rw [tl0, show (7 : Int32).toInt = 7 from rfl] at q
      omega
    · simp only [pI, pL, pR, pV, i10, ↓reduceIte, eM_about_7]
      exact hv Ψ hΨ
  split
  next z =>
    refine fin _ (hi _ (fun Ψ hΨ => ?_))
    simp only [pI, pL, pR, pV, i10, ↓reduceIte, eM_about_19, eM_about_34]
    rw [if_pos (eqv z : k = 8), ← e8]
    exact hΨ
  next z =>
    refine fin _ (hi _ (fun Ψ hΨ => ?_))
    simp only [pI, pL, pR, pV, i10, ↓reduceIte, eM_about_19, eM_about_32, eM_about_34]
    rw [if_neg (fun e : k = 8 => z (by rw [e]; rfl))]
    exact hΨ
theorem p_end (n : Int32) : PairI Rel nX_end nM_end [.int n] := by
  intro σ hR Φ h
  obtain ⟨lws, hR⟩ := hR
  have gF := hR.2.2.2
  obtain ⟨f1, f2, f3, f4, f5, f6, f7⟩ := gF
  have e4 : (gI σ 0 4).toInt = rd σ 120 4 := f1
  have e4m : (gI σ 120 4).toInt = rd σ 120 4 := rfl
  have no : ¬ (0 ≤ n.toInt ∧ n.toInt ≤ rd σ 120 4) → Φ (some (.int (-1))) σ := fun q => by
    refine h _ σ ⟨fun _ => rfl, rfl⟩ (fun Ψ hΨ => ?_)
    have fin := hΨ σ ⟨fun _ => rfl, rfl⟩ ⟨lws, hR⟩
    apply wM_end
    simp only [pI, pL, pR, pV, i10, ↓reduceIte, eM_end_0]
    refine sM_isIn (fun z => absurd ⟨z.1, by rw [e4m] at z; exact z.2⟩ q) (fun z => ?_)
    simp only [pI, pL, pR, pV, i10, ↓reduceIte, eM_end_9]
    exact fin
  apply wX_end
  simp only [pI, pL, pR, pV, i10, ↓reduceIte, eX_end_0, eX_end_12]
  simp only [ilt, ile, tl0, e4]
  split
  next z => exact no (fun x => by omega)
  next z =>
    split
    next y =>
      simp only [pI, pL, pR, pV, i10, ↓reduceIte, eX_end_14]
      have fX : Fr [(0, 4, 5), (120, 4, 5)] σ (sI σ 0 4 n) := Fr.sI (by decide)
      refine h n _ (fX.sm (by decide)) (fun Ψ hΨ => ?_)
      apply wM_end
      simp only [pI, pL, pR, pV, i10, ↓reduceIte, eM_end_0]
      refine sM_isIn (fun _ => ?_) (fun w => absurd ⟨by rw [tl0]; omega, by rw [gIne (by omega), e4m]; exact y⟩ w)
      simp only [pI, pL, pR, pV, i10, ↓reduceIte, eM_end_9, eM_end_14]
      have fM : Fr [(0, 4, 5), (120, 4, 5)] (sI σ 0 4 n) (sI (sI σ 0 4 n) 120 4 n) := Fr.sI (by decide)
      have hS := (fX.tr fM).ei
      refine hΨ _ (fM.sm (by decide)) ⟨lws, RA.of (hS.eqc (by decide +kernel)) hR.1, RA.of (hS.eqc (by decide +kernel)) hR.2.1, RT.of (hS.eqc (by decide +kernel)) hR.2.2.1, ?_, ?_, fun k hk hq => ?_, ?_, ?_, ?_, ?_⟩
      · rw [rdne (by omega), rdeq, rdeq]
      · rw [rdeq]; omega
      · rw [rdeq] at hq
        rw [rdne (by omega), rdne (by omega), rdne (by omega), rdne (by omega)]
        exact f3 k hk (by omega)
      · rw [rdne (by omega), rdne (by omega), rdne2 (by omega), rdne (by omega)]; exact f4
      · rw [rdne (by omega), rdne (by omega), rdne2 (by omega), rdne (by omega)]; exact f5
      · rw [rdne2 (by omega), rdne (by omega)]; exact f6
      · rw [rdne (by omega), rdne (by omega), rdne (by omega), rdne (by omega)]; exact f7
    next y => exact no (fun x => by omega)
theorem p_by (t : Int32) : PairI Rel nX_by nM_by [.int t] := by
  intro σ hR Φ h
  obtain ⟨lws, hR⟩ := hR
  obtain ⟨⟨g1, g2, g3, g4, g5, g6, g7, g8, g9⟩, gI', gT, gF⟩ := hR
  have hR : R lws σ := ⟨⟨g1, g2, g3, g4, g5, g6, g7, g8, g9⟩, gI', gT, gF⟩
  obtain ⟨b1, b2, b3, b4⟩ := g3
  have b1 : rd σ 1 9 = rd σ 121 2 := b1
  have lastT : (gI σ 121 2 - 1).toInt = rd σ 121 2 - 1 := by
    have : (gI σ 121 2).toInt = rd σ 121 2 := rfl
    rw [tM (by rw [this, tl1]; omega), this]
    rfl
  have yes : -1 ≤ t.toInt ∧ t.toInt < rd σ 121 2 → Φ (some (.int 1)) (sI σ 1 10 t) := fun q => by
    have fX : Fr [(1, 10, 11), (121, 3, 4)] σ (sI σ 1 10 t) := Fr.sI (by decide)
    refine h 1 _ (fX.sm (by decide)) (fun Ψ hΨ => ?_)
    apply wM_by
    simp only [pI, pL, pR, pV, i10, ↓reduceIte, eM_by_0]
    have m2 : gI (sI σ 1 10 t) 121 2 = gI σ 121 2 := gIne (by omega)
    rw [show ix 2 = 2 from rfl, m2]
    refine ⟨⟨by decide, by decide⟩, ?_⟩
    refine sM_isIn (fun _ => ?_) (fun w => absurd ⟨by rw [tlm]; exact q.1, by rw [lastT]; omega⟩ w)
    simp only [pI, pL, pR, pV, i10, ↓reduceIte, eM_by_13, eM_by_18]
    refine ⟨⟨by decide, by decide⟩, ?_⟩
    have fM : Fr [(1, 10, 11), (121, 3, 4)] (sI σ 1 10 t) (sI (sI σ 1 10 t) 121 (ix 3) t) := Fr.sI (by decide)
    have hS := (fX.tr fM).ei
    refine hΨ _ (fM.sm (by decide)) ⟨lws, RD_one hR hS (by decide +kernel) (by decide +kernel) (by decide +kernel) ⟨G1.of (hS.eqc (by decide +kernel)) g1, G2.of (hS.eqc (by decide +kernel)) g2, ?_, G4.of (hS.eqc (by decide +kernel)) g4, G5.of (hS.eqc (by decide +kernel)) g5, G6.of (hS.eqc (by decide +kernel)) g6, G7.of (hS.eqc (by decide +kernel)) g7, G8.of (hS.eqc (by decide +kernel)) g8, G9.of (hS.eqc (by decide +kernel)) g9⟩⟩
    refine ⟨?_, ?_, ?_, ?_⟩
    · show rd _ 1 9 = _
      rw [rdne (by omega), rdne2 (by omega), show ix 3 = 3 from rfl, rdne2 (by omega), rdne (by omega)]; exact b1
    · show rd _ 1 10 = _
      rw [rdne (by omega), rdeq, show ix 3 = 3 from rfl, rdeq]
    · rw [show ix 3 = 3 from rfl, rdne2 (by omega), rdne (by omega)]; exact b3
    · rw [show ix 3 = 3 from rfl, rdeq, rdne2 (by omega), rdne (by omega)]; exact q
  have no : ¬ (-1 ≤ t.toInt ∧ t.toInt < rd σ 121 2) → Φ (some (.int 0)) σ := fun q => by
    refine h 0 σ ⟨fun _ => rfl, rfl⟩ (fun Ψ hΨ => ?_)
    have fin := hΨ σ ⟨fun _ => rfl, rfl⟩ ⟨lws, hR⟩
    apply wM_by
    simp only [pI, pL, pR, pV, i10, ↓reduceIte, eM_by_0]
    refine ⟨⟨by decide, by decide⟩, ?_⟩
    refine sM_isIn (fun z => absurd ⟨z.1, by have := z.2; rw [show ix 2 = 2 from rfl, lastT] at this; omega⟩ q) (fun z => ?_)
    simp only [pI, pL, pR, pV, i10, ↓reduceIte, eM_by_13]
    exact fin
  apply wX_by
  simp only [pI, pL, pR, pV, i10, ↓reduceIte, eX_by_0]
  have cN : (t = -1) = (t.toInt = -1) := by rw [ieq]; rfl
  simp only [cN]
  split
  next z =>
    simp only [pI, pL, pR, pV, i10, ↓reduceIte, eX_by_18]
    exact yes (by omega)
  next z =>
    refine sW_isText (fun q => ?_) (fun q => ?_)
    · simp only [pI, pL, pR, pV, i10, ↓reduceIte, eX_by_13, eX_by_18]
      exact yes (by omega)
    · simp only [pI, pL, pR, pV, i10, ↓reduceIte, eX_by_13]
      exact no (fun x => q (by omega))
