/-! TEXTS: the reference reads a text -/
theorem lM_read {d : Nat} {Φ : Po} {t L : Nat} {B : Nat → Int} {σ0 : Sg} (ht : t < 4) : ∀ (k i : Nat) (T : TT) (σ : Sg) (v1 : Value), L + 1 ≤ k + i → Fr (FMx t) σ0 σ → TMI t L B i T σ → PInv i T → ((txF L B k i T).1.1 = 0 → ∀ σ' : Sg, Fr (FMx t) σ0 σ' → TMI t L B (txF L B k i T).1.2.2 (txF L B k i T).2 σ' → Φ (some (.int 0)) σ') → ((txF L B k i T).1.1 ≠ 0 → ∀ (σ' : Sg) (v : Int32), Fr (FMx t) σ0 σ' → rd σ' 120 8 = ((txF L B k i T).1.2.1 : Nat) → v.toInt = (txF L B k i T).1.1 → Φ (some (.int v)) σ') → bM_readText_43 true NOB (wp true (d + 11)) Φ (kM_readText (d + 11) Φ) [.ref 120, v1] [] σ := by
  have k0 : (0 : Int32).toInt = 0 := rfl
  intro k
  induction k with
  | zero =>
    intro i T σ v1 hk hF g
    have := g.2.2.1
    omega
  | succ k ih =>
    intro i T σ v1 hk hF g hP h0 hf
    obtain ⟨hT, hTk, hi, -, -⟩ := id g
    have eX : txF L B (k + 1) i T = if tokO L B i = 40 then ((0, 0, i), T) else if (clF L B i T).1.1 ≠ 0 then clF L B i T else txF L B k (clF L B i T).1.2.2 (clF L B i T).2 := rfl
    rw [eX] at h0 hf
    have e9 : (gI σ 120 9).toInt = rd σ 120 9 := rfl
    have s0 := (KW_sign hTk.2.2.1).1
    have eO : ordP L B (tokP L B i) = tokO L B i := rfl
    rw [eO] at s0
    have c0 : (gI σ 120 9 = 0) = (tokO L B i = 40) := by rw [ieq, e9, k0]; exact propext s0
    simp only [pI, pL, pR, pV, i10, ↓reduceIte, eM_readText_43]
    simp only [c0]
    by_cases c : tokO L B i = 40
    · rw [if_pos c] at h0 ⊢
      simp only [pI, pL, pR, pV, i10, ↓reduceIte, eM_readText_64]
      exact h0 rfl σ hF g
    · rw [if_neg c] at h0 hf ⊢
      refine sM_clause (d := d) ht g c hP (fun z σ' a b => ?_) (fun z σ' v a b e => ?_)
      · obtain ⟨p1, p2, p3⟩ := PInv_cl hT.1 hi c hP z
        rw [if_neg (fun y => y z)] at h0 hf
        simp only [pI, pL, pR, pV, i10, ↓reduceIte, eM_readText_54]
        try simp only [if_true]
        simp only [pI, pL, pR, pV, i10, ↓reduceIte, eM_readText_61]
        exact hM_readText_43 _ _ _ _ _ (ih _ _ σ' _ (by omega) (hF.tr a) b p1 h0 hf)
      · rw [if_pos z] at hf
        have vn : ¬ v.toInt = 0 := by rw [e]; exact z
        simp only [pI, pL, pR, pV, i10, ↓reduceIte, eM_readText_54]
        simp only [ieq, k0]
        rw [if_neg vn]
        exact hf z σ' v (hF.tr a) b e
theorem sM_readText {d : Nat} {Φ : Po} {t L : Nat} {B : Nat → Int} {σ : Sg} (ht : t < 4) (h2 : rd σ 121 2 = (t : Nat)) (hT : TpM L B σ) (h0 : (txF L B 301 0 T0).1.1 = 0 → ∀ σ' : Sg, Fr (FMx t) σ σ' → TMI t L B (txF L B 301 0 T0).1.2.2 (txF L B 301 0 T0).2 σ' → Φ (some (.int 0)) σ') (hf : (txF L B 301 0 T0).1.1 ≠ 0 → ∀ (σ' : Sg) (v : Int32), Fr (FMx t) σ σ' → rd σ' 120 8 = ((txF L B 301 0 T0).1.2.1 : Nat) → v.toInt = (txF L B 301 0 T0).1.1 → Φ (some (.int v)) σ') : wp true (d + 12) nM_readText [.ref 120] σ Φ := by
  have l705 : (705 : Int32).toInt = 705 := rfl
  have g2 : (gI σ 121 2).toInt = (t : Nat) := h2
  have hL := hT.1.1
  have v12 : (705 * gI σ 121 2).toInt = ((705 * t : Nat) : Int) := by rw [tX (by rw [g2, l705]; omega), g2, l705]; omega
  have ix2 : ix 2 = 2 := rfl
  apply wM_readText
  simp only [pI, pL, pR, pV, i10, ↓reduceIte, eM_readText_0]
  rw [ix2]
  generalize 705 * gI σ 121 2 = y at *
  have b12 : gI (sI σ 120 12 y) 120 12 = y := gIeq
  rw [b12, show ix y = 705 * t from ix_of v12]
  refine ⟨⟨by decide, by decide⟩, ⟨by omega, by omega⟩, ?_⟩
  have e : ∀ k, k ≠ 12 → k ≠ 13 → k ≠ 20 → k ≠ 7 → rd (sI (sI (sI (sI (sI σ 120 12 y) 123 (705 * t) 0) 120 13 0) 120 20 0) 120 7 0) 120 k = rd σ 120 k := fun k a b c f => by rw [rdne2 f, rdne2 c, rdne2 b, rdne (by omega), rdne2 a]
  have ea : ∀ a k, a ≠ 120 → a ≠ 123 → rd (sI (sI (sI (sI (sI σ 120 12 y) 123 (705 * t) 0) 120 13 0) 120 20 0) 120 7 0) a k = rd σ a k := fun a k p q => by rw [rdne p, rdne p, rdne p, rdne q, rdne p]
  have r7 : rd (sI (sI (sI (sI (sI σ 120 12 y) 123 (705 * t) 0) 120 13 0) 120 20 0) 120 7 0) 120 7 = (0 : Nat) := by rw [rdeq]; rfl
  have r20 : gI (sI (sI (sI (sI (sI σ 120 12 y) 123 (705 * t) 0) 120 13 0) 120 20 0) 120 7 0) 120 20 = 0 := by rw [gIne2 (by omega), gIeq]
  have r13 : rd (sI (sI (sI (sI (sI σ 120 12 y) 123 (705 * t) 0) 120 13 0) 120 20 0) 120 7 0) 120 13 = 0 := by rw [rdne2 (by omega), rdne2 (by omega), rdeq]; rfl
  have r12 : rd (sI (sI (sI (sI (sI σ 120 12 y) 123 (705 * t) 0) 120 13 0) 120 20 0) 120 7 0) 120 12 = ((705 * t : Nat) : Int) := by rw [rdne2 (by omega), rdne2 (by omega), rdne2 (by omega), rdne (by omega), rdeq]; exact v12
  have r0 : rd (sI (sI (sI (sI (sI σ 120 12 y) 123 (705 * t) 0) 120 13 0) 120 20 0) 120 7 0) 123 (705 * t) = 0 := by rw [rdne (by omega), rdne (by omega), rdne (by omega), rdeq]; rfl
  have hF : Fr (FMx t) σ (sI (sI (sI (sI (sI σ 120 12 y) 123 (705 * t) 0) 120 13 0) 120 20 0) 120 7 0) := ((((fxJ (by omega)).tr (fxT (by omega))).tr (fxJ (by omega))).tr (fxJ (by omega))).tr (fxJ (by omega))
  generalize sI (sI (sI (sI (sI σ 120 12 y) 123 (705 * t) 0) 120 13 0) 120 20 0) 120 7 0 = σ1 at *
  refine sM_nextToken (d := d + 9) (hT.e (e _ (by omega) (by omega) (by omega) (by omega)) (fun k _ => ea _ _ (by omega) (by omega))) r7 (Nat.zero_le L) (fun σ2 a b c => ?_)
  simp only [pI, pL, pR, pV, i10, ↓reduceIte, eM_readText_43]
  have g2' : TMI t L B 0 T0 σ2 := ⟨b, c, Nat.zero_le L, ⟨by rw [a.rd (FMt_no (by omega))]; exact r12, fun k hk => absurd hk (Nat.not_lt_zero k), by rw [a.rd (FMt_no (by omega))]; exact r13, trivial, by rw [a.1 _ _ (FMt_no (by omega)), r20]; rfl⟩, by rw [a.rd (FMt_no (by omega)), r0]; rfl⟩
  have := lM_read (d := d) (Φ := Φ) (t := t) (L := L) (B := B) (σ0 := σ) ht 301 0 T0 σ2 (.retAddr 0) (by omega) (hF.tr (Fr_tx a)) g2' PInv_0 h0 hf
  rw [eM_readText_43] at this
  exact this
