/-! TEXTS: the class reads a deed, whole -/
theorem TI_DS {t L i : Nat} {B : Nat → Int} {T : TT} {σ : Sg} (g : TI t L B i T σ) : DS L B σ (0, 0, i) σ := ⟨Fr.rf, g.1, rfl, Or.inl ⟨rfl, g.2.2.2.2.1, g.2.1, g.2.2.1, rfl⟩⟩
theorem TC_83 {t : Nat} {T : TT} {σ σ' : Sg} (h : Fr F83 σ σ') (g : TC t T σ) : TC t T σ' := TC.of (fun a k h1 h2 => h.rd (F83_no (by omega))) g
theorem sR_readDeed {d : Nat} {Φ : Po} {t L : Nat} {B : Nat → Int} {o i : Nat} {T : TT} {x1 : Int32} {σ : Sg} (ht : t < 4) (ho : 5 ≤ o ∧ o ≤ 10) (hx : x1.toInt = (o : Nat)) (h40 : tokO L B i ≠ 40) (g : TI t L B i T σ) (hn : T.1 < 24)
    (h0 : (deedF L B o (tokE L B i)).1.1 = 0 → ∀ σ' : Sg, Fr (FTx t) σ σ' → TI t L B (deedF L B o (tokE L B i)).1.2.2 (addD T ((o : Nat), (deedF L B o (tokE L B i)).2)) σ' → Φ none σ')
    (hf : (deedF L B o (tokE L B i)).1.1 ≠ 0 → ∀ σ' : Sg, Fr (FTx t) σ σ' → rd σ' 83 13 = (deedF L B o (tokE L B i)).1.1 → rd σ' 83 14 = (deedF L B o (tokE L B i)).1.2.1 → Φ none σ') : wp true (d + 9) nR_readDeed [.ref 83, .int x1] σ Φ := by
  have k5 : (5 : Int32).toInt = 5 := rfl
  have k6 : (6 : Int32).toInt = 6 := rfl
  have k7 : (7 : Int32).toInt = 7 := rfl
  have k8 : (8 : Int32).toInt = 8 := rfl
  have k10 : (10 : Int32).toInt = 10 := rfl
  have z0 : (0 : Int32).toInt = 0 := rfl
  have g6 : gR σ 83 6 = 88 + 5 * t := g.2.2.2.1
  have gC := g.2.2.2.2.2.1
  have g14 := g.2.2.2.2.2.2
  generalize hD : deedF L B o (tokE L B i) = D at h0 hf
  apply wR_readDeed
  simp only [pI, pL, pR, pV, i10, ↓reduceIte, eR_readDeed_0]
  refine sR_advD h40 (TI_DS g) (fun σ1 a1 => ?_)
  generalize tokE L B i = e at hD a1
  -- the end
  have fin : ∀ (σ' : Sg) (r : Tr) (a b c : Int32), DS L B σ r σ' → D.1 = wrdT L B 38 r → (D.1.1 = 0 → a.toInt = D.2.1 ∧ b.toInt = D.2.2.1 ∧ c.toInt = D.2.2.2) → bR_readDeed_176 true NOB (wp true (d + 8)) Φ (kR_readDeed (d + 8) Φ) [.ref 83, .int x1, .int a, .int b, .int c] [] σ' := fun σ' r a b c q1 q2 q3 => by
    simp only [pI, pL, pR, pV, i10, ↓reduceIte, eR_readDeed_176]
    refine sR_expect (w := 38) rfl (by decide) q1 (fun σ2 q4 => ?_)
    rw [← q2] at q4
    have e6 : gR σ2 83 6 = 88 + 5 * t := q4.2.2.1.trans g6
    have gC2 := TC_83 q4.1 gC
    have n5 : rd σ2 (88 + 5 * t) 5 = (T.1 : Nat) := gC2.1
    simp only [pI, pL, pR, pV, i10, ↓reduceIte, eR_readDeed_183]
    rw [e6, (tx_o ht _).1]
    simp only [cond]
    refine sT_addClause ht (by omega) (fun q => by omega) (fun n hnn hn24 v hv => ?_)
    have hnT : n = T.1 := by omega
    subst hnT
    simp only [pI, pL, pR, pV, i10, ↓reduceIte, eR_readDeed_195]
    have hFa : Fr (FTx t) σ (sI (sI (sI (sI (sI σ2 (92 + 5 * t) (4 * T.1) x1) (92 + 5 * t) (4 * T.1 + 1) a) (92 + 5 * t) (4 * T.1 + 2) b) (92 + 5 * t) (4 * T.1 + 3) c) (88 + 5 * t) 5 v) := (Fr_83 q4.1).tr (Fr_ad hn24)
    have r83 : ∀ j, rd (sI (sI (sI (sI (sI σ2 (92 + 5 * t) (4 * T.1) x1) (92 + 5 * t) (4 * T.1 + 1) a) (92 + 5 * t) (4 * T.1 + 2) b) (92 + 5 * t) (4 * T.1 + 3) c) (88 + 5 * t) 5 v) 83 j = rd σ2 83 j := fun j => by rw [rdne (by omega), rdne (by omega), rdne (by omega), rdne (by omega), rdne (by omega)]
    have r82 : ∀ j, rd (sI (sI (sI (sI (sI σ2 (92 + 5 * t) (4 * T.1) x1) (92 + 5 * t) (4 * T.1 + 1) a) (92 + 5 * t) (4 * T.1 + 2) b) (92 + 5 * t) (4 * T.1 + 3) c) (88 + 5 * t) 5 v) 82 j = rd σ2 82 j := fun j => by rw [rdne (by omega), rdne (by omega), rdne (by omega), rdne (by omega), rdne (by omega)]
    rcases q4.2.2.2 with ⟨w1, w2, w3, w4, w5⟩ | ⟨w1, w2, w3, -⟩
    · refine h0 w1 _ hFa ⟨⟨q4.2.1.1, by rw [r83]; exact q4.2.1.2.1, fun j hj => by rw [r82]; exact q4.2.1.2.2 j hj⟩, ?_, w4, e6, by rw [r83]; exact w2, TC_addD ht gC2 hx (fun _ => q3 w1) hv, by rw [r83, w5]; exact g14⟩
      unfold CTk at *
      rw [r83, r83, r83]
      exact w3
    · exact hf w1 _ hFa (by rw [r83]; exact w2) (by rw [r83]; exact w3)
  have d5 : (x1 = 5) = (o = 5) := by rw [ieq, hx, k5]; exact propext ⟨fun q => by omega, fun q => by omega⟩
  have d6 : (x1 = 6) = (o = 6) := by rw [ieq, hx, k6]; exact propext ⟨fun q => by omega, fun q => by omega⟩
  have d7 : (x1 = 7) = (o = 7) := by rw [ieq, hx, k7]; exact propext ⟨fun q => by omega, fun q => by omega⟩
  have d8 : (x1 = 8) = (o = 8) := by rw [ieq, hx, k8]; exact propext ⟨fun q => by omega, fun q => by omega⟩
  have d10 : (x1 = 10) = (o = 10) := by rw [ieq, hx, k10]; exact propext ⟨fun q => by omega, fun q => by omega⟩
  simp only [pI, pL, pR, pV, i10, ↓reduceIte, eR_readDeed_11]
  simp only [d5]
  unfold deedF at hD
  by_cases c5 : o = 5
  · rw [if_pos c5] at hD ⊢
    refine sR_number (lo := 0) (hi := 3) rfl rfl a1 (fun σ2 a a2 va => ?_)
    simp only [pI, pL, pR, pV, i10, ↓reduceIte, eR_readDeed_22]
    refine sR_expect (w := 14) rfl (by decide) a2 (fun σ3 a3 => ?_)
    simp only [pI, pL, pR, pV, i10, ↓reduceIte, eR_readDeed_30]
    refine sR_number (lo := 1) (hi := 9) rfl rfl a3 (fun σ4 b a4 vb => ?_)
    simp only [pI, pL, pR, pV, i10, ↓reduceIte, eR_readDeed_37]
    refine sR_expect (w := 13) rfl (by decide) a4 (fun σ5 a5 => ?_)
    simp only [pI, pL, pR, pV, i10, ↓reduceIte, eR_readDeed_45]
    refine sR_number (lo := 0) (hi := 99) rfl rfl a5 (fun σ6 c a6 vc => ?_)
    simp only [pI, pL, pR, pV, i10, ↓reduceIte, eR_readDeed_52, eR_readDeed_128]
    simp only [d7]
    rw [if_neg (by omega)]
    simp only [pI, pL, pR, pV, i10, ↓reduceIte, eR_readDeed_153]
    simp only [d8]
    rw [if_neg (by omega)]
    refine fin σ6 _ a b c a6 (by rw [← hD]; rfl) (fun q => ?_)
    rw [← hD] at q ⊢
    have e1 := (wrdT_0 q).1
    have e2 := (numT_0 e1).1
    have e3 := (wrdT_0 e2).1
    have e4 := (numT_0 e3).1
    have e5 := (wrdT_0 e4).1
    exact ⟨va e5, vb e3, vc e1⟩
  rw [if_neg c5] at hD ⊢
  simp only [pI, pL, pR, pV, i10, ↓reduceIte, eR_readDeed_57]
  simp only [d6]
  by_cases c6 : o = 6
  · rw [if_pos c6] at hD ⊢
    refine sR_number (lo := 0) (hi := 9) rfl rfl a1 (fun σ2 a a2 va => ?_)
    simp only [pI, pL, pR, pV, i10, ↓reduceIte, eR_readDeed_70]
    refine sR_expect (w := 17) rfl (by decide) a2 (fun σ3 a3 => ?_)
    simp only [pI, pL, pR, pV, i10, ↓reduceIte, eR_readDeed_78]
    refine sR_number (lo := 0) (hi := 9999) rfl rfl a3 (fun σ4 b a4 vb => ?_)
    simp only [pI, pL, pR, pV, i10, ↓reduceIte, eR_readDeed_86, eR_readDeed_128]
    simp only [d7]
    rw [if_neg (by omega)]
    simp only [pI, pL, pR, pV, i10, ↓reduceIte, eR_readDeed_153]
    simp only [d8]
    rw [if_neg (by omega)]
    refine fin σ4 _ a b 0 a4 (by rw [← hD]; rfl) (fun q => ?_)
    rw [← hD] at q ⊢
    have e1 := (wrdT_0 q).1
    have e2 := (numT_0 e1).1
    have e3 := (wrdT_0 e2).1
    exact ⟨va e3, vb e1, rfl⟩
  rw [if_neg c6] at hD ⊢
  simp only [pI, pL, pR, pV, i10, ↓reduceIte, eR_readDeed_90]
  simp only [d10]
  by_cases c10 : o = 10
  · rw [if_pos c10] at hD ⊢
    refine sR_number (lo := 1) (hi := 60) rfl rfl a1 (fun σ2 a a2 va => ?_)
    simp only [pI, pL, pR, pV, i10, ↓reduceIte, eR_readDeed_103, eR_readDeed_128]
    simp only [d7]
    rw [if_neg (by omega)]
    simp only [pI, pL, pR, pV, i10, ↓reduceIte, eR_readDeed_153]
    simp only [d8]
    rw [if_neg (by omega)]
    refine fin σ2 _ a 0 0 a2 (by rw [← hD]; rfl) (fun q => ?_)
    rw [← hD] at q ⊢
    have e1 := (wrdT_0 q).1
    exact ⟨va e1, rfl, rfl⟩
  rw [if_neg c10] at hD ⊢
  simp only [pI, pL, pR, pV, i10, ↓reduceIte, eR_readDeed_107]
  refine sR_number (lo := 0) (hi := 5) rfl rfl a1 (fun σ2 a a2 va => ?_)
  simp only [pI, pL, pR, pV, i10, ↓reduceIte, eR_readDeed_113]
  refine sR_expect (w := 19) rfl (by decide) a2 (fun σ3 a3 => ?_)
  simp only [pI, pL, pR, pV, i10, ↓reduceIte, eR_readDeed_121]
  refine sR_number (lo := 0) (hi := 5) rfl rfl a3 (fun σ4 b a4 vb => ?_)
  simp only [pI, pL, pR, pV, i10, ↓reduceIte, eR_readDeed_127, eR_readDeed_128]
  simp only [d7]
  by_cases c7 : o = 7
  · rw [if_pos c7] at hD ⊢
    refine sR_expect (w := 18) rfl (by decide) a4 (fun σ5 a5 => ?_)
    simp only [pI, pL, pR, pV, i10, ↓reduceIte, eR_readDeed_141]
    refine sR_number (lo := 0) (hi := 99) rfl rfl a5 (fun σ6 c a6 vc => ?_)
    simp only [pI, pL, pR, pV, i10, ↓reduceIte, eR_readDeed_148]
    refine fin σ6 _ a b c a6 (by rw [← hD]; rfl) (fun q => ?_)
    rw [← hD] at q ⊢
    have e1 := (wrdT_0 q).1
    have e2 := (numT_0 e1).1
    have e3 := (wrdT_0 e2).1
    have e4 := (numT_0 e3).1
    have e5 := (wrdT_0 e4).1
    exact ⟨va e5, vb e3, vc e1⟩
  rw [if_neg c7] at hD ⊢
  simp only [pI, pL, pR, pV, i10, ↓reduceIte, eR_readDeed_153]
  simp only [d8]
  by_cases c8 : o = 8
  · rw [if_pos c8] at hD ⊢
    refine sR_expect (w := 18) rfl (by decide) a4 (fun σ5 a5 => ?_)
    simp only [pI, pL, pR, pV, i10, ↓reduceIte, eR_readDeed_166]
    refine sR_number (lo := 1) (hi := 999) rfl rfl a5 (fun σ6 c a6 vc => ?_)
    simp only [pI, pL, pR, pV, i10, ↓reduceIte, eR_readDeed_174]
    refine fin σ6 _ a b c a6 (by rw [← hD]; rfl) (fun q => ?_)
    rw [← hD] at q ⊢
    have e1 := (wrdT_0 q).1
    have e2 := (numT_0 e1).1
    have e3 := (wrdT_0 e2).1
    have e4 := (numT_0 e3).1
    have e5 := (wrdT_0 e4).1
    exact ⟨va e5, vb e3, vc e1⟩
  rw [if_neg c8] at hD ⊢
  refine fin σ4 _ a b 0 a4 (by rw [← hD]; rfl) (fun q => ?_)
  rw [← hD] at q ⊢
  have e1 := (wrdT_0 q).1
  have e2 := (numT_0 e1).1
  have e3 := (wrdT_0 e2).1
  exact ⟨va e3, vb e1, rfl⟩
