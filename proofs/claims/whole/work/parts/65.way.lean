/-! WAYS, WHAT WAS TAKEN -/
theorem p_way (x1 x2 x3 : Int32) : PairI Rel nX_way nM_way [.int x1, .int x2, .int x3] := by
  intro σ hR Φ h
  obtain ⟨lws, hR⟩ := hR
  obtain ⟨⟨g1, g2, g3, g4, g5, g6, g7, g8, g9⟩, gI', gT, gF⟩ := hR
  have hR : R lws σ := ⟨⟨g1, g2, g3, g4, g5, g6, g7, g8, g9⟩, gI', gT, gF⟩
  have s1 : rd σ 1 6 = rd σ 121 1 := g1.2.1
  have b1 := g1.2.2.2.2.2
  have g2 : ∀ i, i < 36 → rd σ 36 i = rd σ 121 (84 + i) ∧ 0 ≤ rd σ 121 (84 + i) ∧ rd σ 121 (84 + i) ≤ 99 := g2
  have l0 : (0 : Int32).toInt = 0 := rfl
  have l99 : (99 : Int32).toInt = 99 := rfl
  have put : ∀ σ2 : Sg, Ei [(36, 0, 36), (121, 84, 120)] σ σ2 → G2 0 121 σ2 → R lws σ2 := fun σ2 hS hg => RD_one hR hS (by decide +kernel) (by decide +kernel) (by decide +kernel) ⟨G1.of (hS.eqc (by decide +kernel)) g1, hg, G3.of (hS.eqc (by decide +kernel)) g3, G4.of (hS.eqc (by decide +kernel)) g4, G5.of (hS.eqc (by decide +kernel)) g5, G6.of (hS.eqc (by decide +kernel)) g6, G7.of (hS.eqc (by decide +kernel)) g7, G8.of (hS.eqc (by decide +kernel)) g8, G9.of (hS.eqc (by decide +kernel)) g9⟩
  have mno : ∀ (Ψ : Po) (τ : Sg), Ψ (some (.int 0)) τ → bM_way_31 true NOB (wp true 12) Ψ (kM_way 12 Ψ) [.ref 120, .int x1, .int x2, .int x3] [] τ := fun Ψ τ q => by
    simp only [pI, pL, pR, pV, i10, ↓reduceIte, eM_way_31]
    exact q
  apply wX_way
  simp only [pI, pL, pR, pV, i10, ↓reduceIte, eX_way_0]
  apply wW_tellWay
  have no : (¬ ((0 ≤ x1.toInt ∧ x1.toInt < rd σ 121 1) ∧ (0 ≤ x2.toInt ∧ x2.toInt < rd σ 121 1) ∧ x1.toInt ≠ x2.toInt ∧ (0 ≤ x3.toInt ∧ x3.toInt ≤ 99))) → bW_tellWay_31 true NOB (wp true 11) (pI (bX_way_10 true NOB (wp true 12) Φ (kX_way 12 Φ)) [.ref 0, .int x1, .int x2, .int x3] []) (kW_tellWay 11 (pI (bX_way_10 true NOB (wp true 12) Φ (kX_way 12 Φ)) [.ref 0, .int x1, .int x2, .int x3] [])) [.ref 1, .int x1, .int x2, .int x3] [] σ := fun q => by
    simp only [pI, pL, pR, pV, i10, ↓reduceIte, eW_tellWay_31]
    simp only [pI, pL, pR, pV, i10, ↓reduceIte, eX_way_10]
    simp only [cond, zB_0]
    refine h _ σ ⟨fun _ => rfl, rfl⟩ (fun Ψ hΨ => ?_)
    have fin := hΨ σ ⟨fun _ => rfl, rfl⟩ ⟨lws, hR⟩
    apply wM_way
    simp only [pI, pL, pR, pV, i10, ↓reduceIte, eM_way_0]
    refine sM_isVillage b1 (fun q1 => ?_) (fun q1 => ?_)
    rotate_left
    · simp only [pI, pL, pR, pV, i10, ↓reduceIte, eM_way_5]
      try rw [if_pos rfl]
      exact mno Ψ σ fin
    simp only [pI, pL, pR, pV, i10, ↓reduceIte, eM_way_5]
    try rw [if_neg (by decide)]
    refine sM_isVillage b1 (fun q2 => ?_) (fun q2 => ?_)
    rotate_left
    · simp only [pI, pL, pR, pV, i10, ↓reduceIte, eM_way_13]
      try rw [if_pos rfl]
      exact mno Ψ σ fin
    simp only [pI, pL, pR, pV, i10, ↓reduceIte, eM_way_13]
    try rw [if_neg (by decide)]
    simp only [ieq]
    split
    next => exact mno Ψ σ fin
    next q3 =>
      refine sM_isIn (fun q4 => ?_) (fun q4 => ?_)
      · rw [l0, l99] at q4
        exact absurd ⟨q1, q2, q3, q4⟩ q
      · simp only [pI, pL, pR, pV, i10, ↓reduceIte, eM_way_28]
        try rw [if_pos rfl]
        exact mno Ψ σ fin
  simp only [pI, pL, pR, pV, i10, ↓reduceIte, eW_tellWay_0]
  refine sW_isVillage (fun q1 => ?_) (fun q1 => ?_)
  rotate_left
  · simp only [pI, pL, pR, pV, i10, ↓reduceIte, eW_tellWay_5]
    try rw [if_pos rfl]
    exact no (by omega)
  simp only [pI, pL, pR, pV, i10, ↓reduceIte, eW_tellWay_5]
  try rw [if_neg (by decide)]
  refine sW_isVillage (fun q2 => ?_) (fun q2 => ?_)
  rotate_left
  · simp only [pI, pL, pR, pV, i10, ↓reduceIte, eW_tellWay_13]
    try rw [if_pos rfl]
    exact no (by omega)
  simp only [pI, pL, pR, pV, i10, ↓reduceIte, eW_tellWay_13]
  try rw [if_neg (by decide)]
  rw [s1] at q1 q2
  simp only [ieq, ilt, ile, l0, l99]
  split
  next => exact no (by omega)
  next q3 =>
    split
    next => exact no (by omega)
    next q4 =>
      split
      next q5 =>
        simp only [pI, pL, pR, pV, i10, ↓reduceIte, eW_tellWay_33]
        generalize hA : ix x1 = a
        generalize hB : ix x2 = b
        have xa : x1.toInt = a := by unfold ix at hA; omega
        have xb : x2.toInt = b := by unfold ix at hB; omega
        have l6 : (6 : Int32).toInt = 6 := rfl
        have l84 : (84 : Int32).toInt = 84 := rfl
        have y1 : (x1 * 6).toInt = 6 * a := by rw [tX (by rw [l6, xa]; omega), l6, xa]; omega
        have y2 : (x2 * 6).toInt = 6 * b := by rw [tX (by rw [l6, xb]; omega), l6, xb]; omega
        have z1 : (6 * x1).toInt = 6 * a := by rw [tX (by rw [l6, xa]; omega), l6, xa]
        have z2 : (6 * x2).toInt = 6 * b := by rw [tX (by rw [l6, xb]; omega), l6, xb]
        have u1 : (x1 * 6 + x2).toInt = (6 * a + b : Nat) := by rw [tP (by omega), y1, xb]; omega
        have u2 : (x2 * 6 + x1).toInt = (6 * b + a : Nat) := by rw [tP (by omega), y2, xa]; omega
        have v0 : (84 + 6 * x1).toInt = 84 + 6 * a := by rw [tP (by omega), z1, l84]
        have w0 : (84 + 6 * x2).toInt = 84 + 6 * b := by rw [tP (by omega), z2, l84]
        have v1 : (84 + 6 * x1 + x2).toInt = (84 + (6 * a + b) : Nat) := by rw [tP (by omega), v0, xb]; omega
        have v2 : (84 + 6 * x2 + x1).toInt = (84 + (6 * b + a) : Nat) := by rw [tP (by omega), w0, xa]; omega
        have i1 : ix (x1 * 6 + x2) = 6 * a + b := ix_of u1
        have i2 : ix (x2 * 6 + x1) = 6 * b + a := ix_of u2
        have j1 : ix (84 + 6 * x1 + x2) = 84 + (6 * a + b) := ix_of v1
        have j2 : ix (84 + 6 * x2 + x1) = 84 + (6 * b + a) := ix_of v2
        rw [i1, i2]
        refine ⟨⟨by omega, by omega⟩, ⟨by omega, by omega⟩, ?_⟩
        simp only [pI, pL, pR, pV, i10, ↓reduceIte, eX_way_10]
        simp only [cond, zB_1]
        have fX : Fr [(36, 0, 36), (121, 84, 120)] σ (sI (sI σ 36 (6 * a + b) x3) 36 (6 * b + a) x3) := (Fr.sI (inS_r (lo := 0) (hi := 36) (by simp) (by omega))).tr (Fr.sI (inS_r (lo := 0) (hi := 36) (by simp) (by omega)))
        generalize hs : sI (sI σ 36 (6 * a + b) x3) 36 (6 * b + a) x3 = s at fX
        have s36 : ∀ i, rd s 36 i = if i = 6 * b + a then x3.toInt else if i = 6 * a + b then x3.toInt else rd σ 36 i := fun i => by
          rw [← hs]
          by_cases c1 : i = 6 * b + a
          · rw [if_pos c1, c1, rdeq]
          rw [if_neg c1, rdne2 c1]
          by_cases c2 : i = 6 * a + b
          · rw [if_pos c2, c2, rdeq]
          rw [if_neg c2, rdne2 c2]
        have s121 : ∀ i, rd s 121 i = rd σ 121 i := fun i => by rw [← hs, rdne (by omega), rdne (by omega)]
        refine h _ s (fX.sm (by decide)) (fun Ψ hΨ => ?_)
        apply wM_way
        simp only [pI, pL, pR, pV, i10, ↓reduceIte, eM_way_0]
        refine sM_isVillage (by rw [s121]; exact b1) (fun _ => ?_) (fun y => absurd (by rw [s121]; exact q1) y)
        simp only [pI, pL, pR, pV, i10, ↓reduceIte, eM_way_5]
        try rw [if_neg (by decide)]
        refine sM_isVillage (by rw [s121]; exact b1) (fun _ => ?_) (fun y => absurd (by rw [s121]; exact q2) y)
        simp only [pI, pL, pR, pV, i10, ↓reduceIte, eM_way_13]
        try rw [if_neg (by decide)]
        simp only [ieq]
        rw [if_neg q3]
        refine sM_isIn (fun _ => ?_) (fun y => absurd (by rw [l0, l99]; omega) y)
        simp only [pI, pL, pR, pV, i10, ↓reduceIte, eM_way_28]
        try rw [if_neg (by decide)]
        simp only [pI, pL, pR, pV, i10, ↓reduceIte, eM_way_33]
        rw [j1, j2]
        refine ⟨⟨by omega, by omega⟩, ⟨by omega, by omega⟩, ?_⟩
        have fY : Fr [(36, 0, 36), (121, 84, 120)] s (sI (sI s 121 (84 + (6 * a + b)) x3) 121 (84 + (6 * b + a)) x3) := (Fr.sI (inS_r (lo := 84) (hi := 120) (by simp) (by omega))).tr (Fr.sI (inS_r (lo := 84) (hi := 120) (by simp) (by omega)))
        refine hΨ _ (fY.sm (by decide)) ⟨lws, put _ (fX.tr fY).ei (fun i hi => ?_)⟩
        show rd _ 36 i = _ ∧ _
        rw [rdne (by omega), rdne (by omega), s36]
        by_cases c1 : i = 6 * b + a
        · rw [if_pos c1, c1, rdeq]
          omega
        rw [if_neg c1, rdne2 (by omega)]
        by_cases c2 : i = 6 * a + b
        · rw [if_pos c2, c2, rdeq]
          omega
        rw [if_neg c2, rdne2 (by omega), s121]
        exact g2 i hi
      next => exact no (by omega)
theorem p_took (x1 x2 : Int32) : PairI Rel nX_took nM_took [.int x1, .int x2] := by
  intro σ hR Φ h
  obtain ⟨lws, hR⟩ := hR
  obtain ⟨⟨g1, g2, g3, g4, g5, g6, g7, g8, g9⟩, gI', gT, gF⟩ := hR
  have hR : R lws σ := ⟨⟨g1, g2, g3, g4, g5, g6, g7, g8, g9⟩, gI', gT, gF⟩
  have s1 : rd σ 1 6 = rd σ 121 1 := g1.2.1
  have b1 := g1.2.2.2.2.2
  obtain ⟨a1, a2, a3, a4⟩ := g4
  have a1 : rd σ 1 11 = rd σ 121 5 := a1
  have a3 : ∀ k, k < 8 → rd σ 37 k = rd σ 121 (120 + 2 * k) ∧ rd σ 38 k = rd σ 121 (121 + 2 * k) := a3
  have l0 : (0 : Int32).toInt = 0 := rfl
  have l99 : (99 : Int32).toInt = 99 := rfl
  have cN : (x1 = -1) = (x1.toInt = -1) := by rw [ieq]; rfl
  have put : ∀ σ2 : Sg, Ei [(1, 11, 12), (37, 0, 8), (38, 0, 8), (121, 5, 6), (121, 120, 136)] σ σ2 → G4 0 121 σ2 → R lws σ2 := fun σ2 hS hg => RD_one hR hS (by decide +kernel) (by decide +kernel) (by decide +kernel) ⟨G1.of (hS.eqc (by decide +kernel)) g1, G2.of (hS.eqc (by decide +kernel)) g2, G3.of (hS.eqc (by decide +kernel)) g3, hg, G5.of (hS.eqc (by decide +kernel)) g5, G6.of (hS.eqc (by decide +kernel)) g6, G7.of (hS.eqc (by decide +kernel)) g7, G8.of (hS.eqc (by decide +kernel)) g8, G9.of (hS.eqc (by decide +kernel)) g9⟩
  apply wX_took
  simp only [pI, pL, pR, pV, i10, ↓reduceIte, eX_took_0]
  simp only [cN]
  split
  next z =>
    refine h 0 _ ((Fr.sI (S := [(1, 11, 12)]) (by decide)).sm (by decide)) (fun Ψ hΨ => ?_)
    apply wM_took
    simp only [pI, pL, pR, pV, i10, ↓reduceIte, eM_took_0]
    simp only [cN]
    rw [if_pos z]
    refine ⟨⟨by decide, by decide⟩, hΨ _ ((Fr.sI (S := [(121, 5, 6)]) (by decide)).sm (by decide)) ⟨lws, put _ ((Fr.sI (by decide)).tr (Fr.sI (by decide))).ei ⟨?_, ?_, fun k hk => ?_, fun k hk => ?_⟩⟩⟩
    · show rd _ 1 11 = _
      rw [rdne (by omega), rdeq, show ix 5 = 5 from rfl, rdeq]
    · rw [show ix 5 = 5 from rfl, rdeq]; decide
    · show rd _ 37 k = _ ∧ rd _ 38 k = _
      have f : ∀ x y, x ≠ 1 → (x ≠ 121 ∨ y ≠ 5) → rd (sI (sI σ 1 11 0) 121 (ix 5) 0) x y = rd σ x y := fun x y h1 h2 => by
        rcases h2 with h2 | h2
        · rw [rdne h2, rdne h1]
        · rw [show ix 5 = 5 from rfl, rdne2 h2, rdne h1]
      rw [f 37 k (by omega) (by omega), f 38 k (by omega) (by omega), f 121 (120 + 2 * k) (by omega) (by omega), f 121 (121 + 2 * k) (by omega) (by omega)]
      exact a3 k hk
    · rw [show ix 5 = 5 from rfl, rdeq] at hk
      omega
  next z =>
    have no : (¬ ((0 ≤ x1.toInt ∧ x1.toInt < rd σ 121 1) ∧ (0 ≤ x2.toInt ∧ x2.toInt ≤ 99) ∧ rd σ 121 5 ≠ 8)) → bX_took_48 true NOB (wp true 12) Φ (kX_took 12 Φ) [.ref 0, .int x1, .int x2] [] σ := fun q => by
      simp only [pI, pL, pR, pV, i10, ↓reduceIte, eX_took_48]
      refine h _ σ ⟨fun _ => rfl, rfl⟩ (fun Ψ hΨ => ?_)
      have fin := hΨ σ ⟨fun _ => rfl, rfl⟩ ⟨lws, hR⟩
      have mno : bM_took_43 true NOB (wp true 12) Ψ (kM_took 12 Ψ) [.ref 120, .int x1, .int x2] [] σ := by
        simp only [pI, pL, pR, pV, i10, ↓reduceIte, eM_took_43]
        exact fin
      apply wM_took
      simp only [pI, pL, pR, pV, i10, ↓reduceIte, eM_took_0]
      simp only [cN]
      rw [if_neg z]
      simp only [pI, pL, pR, pV, i10, ↓reduceIte, eM_took_14]
      refine sM_isVillage b1 (fun q1 => ?_) (fun q1 => ?_)
      rotate_left
      · simp only [pI, pL, pR, pV, i10, ↓reduceIte, eM_took_19]
        try rw [if_pos rfl]
        exact mno
      simp only [pI, pL, pR, pV, i10, ↓reduceIte, eM_took_19]
      try rw [if_neg (by decide)]
      refine sM_isIn (fun q2 => ?_) (fun q2 => ?_)
      rotate_left
      · simp only [pI, pL, pR, pV, i10, ↓reduceIte, eM_took_29]
        try rw [if_pos rfl]
        exact mno
      simp only [pI, pL, pR, pV, i10, ↓reduceIte, eM_took_29]
      try rw [if_neg (by decide)]
      rw [l0, l99] at q2
      have c8 : (gI σ 121 (ix 5) = 8) = (rd σ 121 5 = 8) := by rw [ieq]; rfl
      simp only [c8]
      rw [if_pos (Classical.byContradiction (fun x => q ⟨q1, q2, x⟩))]
      exact ⟨⟨by decide, by decide⟩, mno⟩
    simp only [pI, pL, pR, pV, i10, ↓reduceIte, eX_took_15]
    refine sW_isVillage (fun q1 => ?_) (fun q1 => ?_)
    rotate_left
    · simp only [pI, pL, pR, pV, i10, ↓reduceIte, eX_took_23]
      try rw [if_pos rfl]
      exact no (by omega)
    simp only [pI, pL, pR, pV, i10, ↓reduceIte, eX_took_23]
    try rw [if_neg (by decide)]
    rw [s1] at q1
    have e11 : (gI σ 1 11).toInt = rd σ 121 5 := a1
    simp only [ilt, l0, l99]
    split
    next => exact no (by omega)
    next q2 =>
      split
      next => exact no (by omega)
      next q3 =>
        have c8 : (gI σ 1 11 = 8) = (rd σ 121 5 = 8) := by rw [ieq, e11]; rfl
        simp only [c8]
        split
        next q => exact no (fun w => w.2.2 q)
        next q4 =>
          simp only [pI, pL, pR, pV, i10, ↓reduceIte, eX_took_51]
          have i11 : ix (gI σ 1 11) = (rd σ 121 5).toNat := by unfold ix; rw [e11]
          generalize hq : (rd σ 121 5).toNat = q at i11
          have hq8 : q < 8 := by omega
          have hqi : (q : Int) = rd σ 121 5 := by omega
          have k1 : gI (sI σ 37 q x1) 1 11 = gI σ 1 11 := gIne (by omega)
          have k2 : gI (sI (sI σ 37 q x1) 38 q x2) 1 11 = gI σ 1 11 := by rw [gIne (by omega), gIne (by omega)]
          rw [i11, k1, i11, k2, gIeq]
          refine ⟨⟨by omega, by omega⟩, ⟨by omega, by omega⟩, ?_⟩
          have fX : Fr [(1, 11, 12), (37, 0, 8), (38, 0, 8), (121, 5, 6), (121, 120, 136)] σ (sI (sI (sI σ 37 q x1) 38 q x2) 1 11 (gI σ 1 11 + 1)) := ((Fr.sI (inS_r (lo := 0) (hi := 8) (by simp) (by omega))).tr (Fr.sI (inS_r (a := 38) (lo := 0) (hi := 8) (by simp) (by omega)))).tr (Fr.sI (by decide))
          generalize hs : sI (sI (sI σ 37 q x1) 38 q x2) 1 11 (gI σ 1 11 + 1) = s at fX
          have s121 : ∀ i, gI s 121 i = gI σ 121 i := fun i => by rw [← hs, gIne (by omega), gIne (by omega), gIne (by omega)]
          have r121 : ∀ i, rd s 121 i = rd σ 121 i := fun i => by show (gI s 121 i).toInt = _; rw [s121]; rfl
          refine h _ s (fX.sm (by decide)) (fun Ψ hΨ => ?_)
          apply wM_took
          simp only [pI, pL, pR, pV, i10, ↓reduceIte, eM_took_0]
          simp only [cN]
          rw [if_neg z]
          simp only [pI, pL, pR, pV, i10, ↓reduceIte, eM_took_14]
          refine sM_isVillage (by rw [r121]; exact b1) (fun _ => ?_) (fun y => absurd (by rw [r121]; exact q1) y)
          simp only [pI, pL, pR, pV, i10, ↓reduceIte, eM_took_19]
          try rw [if_neg (by decide)]
          refine sM_isIn (fun _ => ?_) (fun y => absurd (by rw [l0, l99]; omega) y)
          simp only [pI, pL, pR, pV, i10, ↓reduceIte, eM_took_29]
          try rw [if_neg (by decide)]
          have i5 : ix 5 = 5 := rfl
          have e5 : (gI σ 121 5).toInt = rd σ 121 5 := rfl
          have c8' : (gI σ 121 5 = 8) = (rd σ 121 5 = 8) := by rw [ieq]; rfl
          rw [i5, s121]
          simp only [c8']
          rw [if_neg q4]
          refine ⟨⟨by decide, by decide⟩, ?_⟩
          simp only [pI, pL, pR, pV, i10, ↓reduceIte, eM_took_46]
          have l2 : (2 : Int32).toInt = 2 := rfl
          have l120 : (120 : Int32).toInt = 120 := rfl
          have m2 : (2 * gI σ 121 5).toInt = 2 * q := by rw [tX (by rw [l2, e5]; omega), l2, e5]; omega
          have m120 : (120 + 2 * gI σ 121 5).toInt = (120 + 2 * q : Nat) := by rw [tP (by omega), m2, l120]; omega
          have m121 : (120 + 2 * gI σ 121 5 + 1).toInt = (121 + 2 * q : Nat) := by rw [t1 (by omega), m120]; omega
          have x120 : ix (120 + 2 * gI σ 121 5) = 120 + 2 * q := ix_of m120
          have x121 : ix (120 + 2 * gI σ 121 5 + 1) = 121 + 2 * q := ix_of m121
          have g1' : gI (sI s 121 (120 + 2 * q) x1) 121 5 = gI σ 121 5 := by rw [gIne2 (by omega), s121]
          have g2' : gI (sI (sI s 121 (120 + 2 * q) x1) 121 (121 + 2 * q) x2) 121 5 = gI σ 121 5 := by rw [gIne2 (by omega), gIne2 (by omega), s121]
          rw [i5, s121, x120, g1', x121, g2', gIeq]
          refine ⟨⟨by decide, by decide⟩, ⟨by omega, by omega⟩, ⟨by decide, by decide⟩, ⟨by omega, by omega⟩, ⟨by decide, by decide⟩, ⟨by decide, by decide⟩, ⟨by decide, by decide⟩, ?_⟩
          have ev : gI σ 121 5 + 1 = gI σ 1 11 + 1 := by
            rw [show gI σ 121 5 = gI σ 1 11 from eqv (by rw [e11, e5])]
          have et : (gI σ 121 5 + 1).toInt = q + 1 := by rw [t1 (by rw [e5]; omega), e5]; omega
          rw [← ev] at hΨ
          have inn : ∀ k, 120 ≤ k → k < 136 → inS [(1, 11, 12), (37, 0, 8), (38, 0, 8), (121, 5, 6), (121, 120, 136)] 121 k = true := fun k k1 k2 => inS_r (lo := 120) (hi := 136) (by simp) ⟨k1, k2⟩
          have fY : Fr [(1, 11, 12), (37, 0, 8), (38, 0, 8), (121, 5, 6), (121, 120, 136)] s (sI (sI (sI s 121 (120 + 2 * q) x1) 121 (121 + 2 * q) x2) 121 5 (gI σ 121 5 + 1)) := ((Fr.sI (inn _ (by omega) (by omega))).tr (Fr.sI (inn _ (by omega) (by omega)))).tr (Fr.sI (by decide))
          have S37 : ∀ k, rd s 37 k = if k = q then x1.toInt else rd σ 37 k := fun k => by
            rw [← hs, rdne (by omega), rdne (by omega)]
            by_cases c : k = q
            · rw [if_pos c, c, rdeq]
            · rw [if_neg c, rdne2 c]
          have S38 : ∀ k, rd s 38 k = if k = q then x2.toInt else rd σ 38 k := fun k => by
            rw [← hs, rdne (by omega)]
            by_cases c : k = q
            · rw [if_pos c, c, rdeq]
            · rw [if_neg c, rdne2 c, rdne (by omega)]
          have S11 : rd s 1 11 = q + 1 := by rw [← hs, rdeq, ← ev, et]
          generalize hs2 : sI (sI (sI s 121 (120 + 2 * q) x1) 121 (121 + 2 * q) x2) 121 5 (gI σ 121 5 + 1) = s2 at fY
          have T5 : rd s2 121 5 = q + 1 := by rw [← hs2, rdeq, et]
          have Tk : ∀ k, k < 8 → rd s2 121 (120 + 2 * k) = (if k = q then x1.toInt else rd σ 121 (120 + 2 * k)) ∧ rd s2 121 (121 + 2 * k) = (if k = q then x2.toInt else rd σ 121 (121 + 2 * k)) := fun k hk => by
            refine ⟨?_, ?_⟩
            · rw [← hs2, rdne2 (by omega), rdne2 (by omega)]
              by_cases c : k = q
              · rw [if_pos c, c, rdeq]
              · rw [if_neg c, rdne2 (by omega), r121]
            · rw [← hs2, rdne2 (by omega)]
              by_cases c : k = q
              · rw [if_pos c, c, rdeq]
              · rw [if_neg c, rdne2 (by omega), rdne2 (by omega), r121]
          have cl : ∀ a k, a < 120 → rd s2 a k = rd s a k := fun a k ha => by rw [← hs2, rdne (by omega), rdne (by omega), rdne (by omega)]
          refine hΨ _ (fY.sm (by decide)) ⟨lws, put _ (fX.tr fY).ei ⟨?_, ?_, fun k hk => ?_, fun k hk => ?_⟩⟩
          · show rd s2 1 11 = _
            rw [cl _ _ (by omega), S11, T5]
          · rw [T5]; omega
          · show rd s2 37 k = _ ∧ rd s2 38 k = _
            rw [cl 37 k (by omega), cl 38 k (by omega), S37, S38, (Tk k hk).1, (Tk k hk).2, (a3 k hk).1, (a3 k hk).2]
            exact ⟨rfl, rfl⟩
          · rw [T5] at hk
            have v1 : rd s2 121 1 = rd σ 121 1 := by rw [← hs2, rdne2 (by omega), rdne2 (by omega), rdne2 (by omega), r121]
            rw [v1, (Tk k (by omega)).1, (Tk k (by omega)).2]
            by_cases c : k = q
            · rw [if_pos c, if_pos c]
              omega
            · rw [if_neg c, if_neg c]
              exact a4 k (by omega)
