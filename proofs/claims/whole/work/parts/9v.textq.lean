/-! TEXTS: the class reads, from the start -/
abbrev T0 : TT := (0, fun _ => (0, 0, 0, 0), [], fun _ => none)
theorem PInv_0 {i : Nat} : PInv i T0 := ⟨by decide, Nat.zero_le i, fun l f ops _ q => (by cases q), fun l _ _ k hk => absurd hk (Nat.not_lt_zero k), fun k hk => absurd hk (Nat.not_lt_zero k)⟩
abbrev FTz (t : Nat) : Ls := [(88 + 5 * t, 1, 6), (90 + 5 * t, 0, 5), (91 + 5 * t, 0, 5)]
theorem FTz_no {t a k : Nat} (h : a < 88 + 5 * t) : inS (FTz t) a k = false := not_inS (fun e he z => by
  have z1 := z.1
  rcases List.mem_cons.mp he with rfl | he
  · have z1 : 88 + 5 * t = a := z1
    omega
  rcases List.mem_cons.mp he with rfl | he
  · have z1 : 90 + 5 * t = a := z1
    omega
  rw [List.mem_singleton] at he
  subst he
  have z1 : 91 + 5 * t = a := z1
  omega)
theorem Fr_tc {t : Nat} {σ σ' : Sg} (h : Fr (FTz t) σ σ') : Fr (FTx t) σ σ' := h.cov (fun e he => by
  rcases List.mem_cons.mp he with rfl | he
  · exact ⟨(88 + 5 * t, 1, 6), by simp, rfl, Nat.le_refl _, Nat.le_refl _⟩
  rcases List.mem_cons.mp he with rfl | he
  · exact ⟨(90 + 5 * t, 0, 5), by simp, rfl, Nat.le_refl _, Nat.le_refl _⟩
  rw [List.mem_singleton] at he
  subst he
  exact ⟨(91 + 5 * t, 0, 5), by simp, rfl, Nat.le_refl _, Nat.le_refl _⟩)
theorem lT_clear {d : Nat} {Φ : Po} {t : Nat} {σ0 : Sg} (ht : t < 4) (h : ∀ σ' : Sg, Fr (FTz t) σ0 σ' → rd σ' (88 + 5 * t) 1 = 0 → rd σ' (88 + 5 * t) 5 = 0 → (∀ l, l < 5 → rd σ' (90 + 5 * t) l = -1) → Φ none σ') : ∀ (n j : Nat) (σ : Sg) (x1 : Int32), j + n = 5 → x1.toInt = (j : Nat) → Fr (FTz t) σ0 σ → rd σ (88 + 5 * t) 1 = 0 → rd σ (88 + 5 * t) 5 = 0 → (∀ l, l < j → rd σ (90 + 5 * t) l = -1) → bT_clear_12 true NOB (wp true d) Φ (kT_clear d Φ) [.ref (88 + 5 * t), .int x1] [] σ := by
  have k5 : (5 : Int32).toInt = 5 := rfl
  intro n
  induction n with
  | zero =>
    intro j σ x1 hj hx hF h1 h5 hl
    simp only [pI, pL, pR, pV, i10, ↓reduceIte, eT_clear_12]
    simp only [ile, k5]
    rw [if_pos (by omega)]
    simp only [pI, pL, pR, pV, i10, ↓reduceIte, eT_clear_37]
    exact h σ hF h1 h5 (fun l hl5 => hl l (by omega))
  | succ n ih =>
    intro j σ x1 hj hx hF h1 h5 hl
    have hix : ix x1 = j := ix_of hx
    simp only [pI, pL, pR, pV, i10, ↓reduceIte, eT_clear_12]
    simp only [ile, k5]
    rw [if_neg (by omega), (tx_o ht σ).1, (tx_o ht σ).2.2.1]
    simp only [cond]
    rw [(ast_tx ht).2.1, hix]
    refine ⟨⟨by omega, by omega⟩, ?_⟩
    simp only [pI, pL, pR, pV, i10, ↓reduceIte, eT_clear_24]
    rw [(tx_o ht _).1, (tx_o ht _).2.2.2.1]
    simp only [cond]
    rw [(ast_tx ht).2.2.1, hix]
    refine ⟨⟨by omega, by omega⟩, ?_⟩
    simp only [pI, pL, pR, pV, i10, ↓reduceIte, eT_clear_31]
    refine hT_clear_12 _ _ _ _ _ ?_
    refine ih (j + 1) _ _ (by omega) (by rw [tq1 _ (by omega), hx]; omega) (hF.tr ((Fr.sI (inS_r (lo := 0) (hi := 5) (by simp) (by omega))).tr (Fr.sI (inS_r (lo := 0) (hi := 5) (by simp) (by omega))))) (by rw [rdne (by omega), rdne (by omega)]; exact h1) (by rw [rdne (by omega), rdne (by omega)]; exact h5) (fun l hl2 => ?_)
    by_cases z : l = j
    · subst z
      rw [rdne (by omega), rdeq]
      rfl
    · rw [rdne (by omega), rdne2 z]
      exact hl l (by omega)
theorem sT_clear {d : Nat} {Φ : Po} {t : Nat} {σ : Sg} (ht : t < 4) (h : ∀ σ' : Sg, Fr (FTz t) σ σ' → rd σ' (88 + 5 * t) 1 = 0 → rd σ' (88 + 5 * t) 5 = 0 → (∀ l, l < 5 → rd σ' (90 + 5 * t) l = -1) → Φ none σ') : wp true (d + 1) nT_clear [.ref (88 + 5 * t)] σ Φ := by
  apply wT_clear
  simp only [pI, pL, pR, pV, i10, ↓reduceIte, eT_clear_0]
  rw [(tx_o ht σ).1, (tx_o ht _).1]
  simp only [cond]
  exact lT_clear ht h 5 0 _ 0 rfl rfl ((Fr.sI (inS_r (lo := 1) (hi := 6) (by simp) (by omega))).tr (Fr.sI (inS_r (lo := 1) (hi := 6) (by simp) (by omega)))) (by rw [rdne2 (by omega), rdeq]; rfl) (by rw [rdeq]; rfl) (fun l hl => absurd hl (Nat.not_lt_zero l))
theorem sR_read {d : Nat} {Φ : Po} {t L : Nat} {B : Nat → Int} {x1 : Int32} {σ : Sg} (ht : t < 4) (hTp : Tp L B) (hx : x1.toInt = (L : Nat)) (hb : ∀ j, j < L → rd σ 82 j = B j)
    (h0 : (txF L B 301 0 T0).1.1 = 0 → ∀ σ' : Sg, Fr (FTx t) σ σ' → TI t L B (txF L B 301 0 T0).1.2.2 (txF L B 301 0 T0).2 σ' → PInv (txF L B 301 0 T0).1.2.2 (txF L B 301 0 T0).2 → Φ (some (.int 1)) σ')
    (hf : (txF L B 301 0 T0).1.1 ≠ 0 → ∀ σ' : Sg, Fr (FTx t) σ σ' → rd σ' 83 13 = (txF L B 301 0 T0).1.1 → rd σ' 83 14 = (txF L B 301 0 T0).1.2.1 → Φ (some (.int 0)) σ') : wp true (d + 10) nR_read [.ref 83, .int x1, .ref (88 + 5 * t)] σ Φ := by
  have c13 : ∀ τ : Sg, (gI τ 83 13 = 0) = (rd τ 83 13 = 0) := fun τ => by rw [ieq]; rfl
  have k300 : (300 : Int32).toInt = 300 := rfl
  have hL := hTp.1
  apply wR_read
  simp only [pI, pL, pR, pV, i10, ↓reduceIte, eR_read_0]
  refine sJ_min (fun v hv => ?_)
  have hv : v.toInt = (L : Nat) := by rw [hv, hx, k300]; omega
  simp only [pI, pL, pR, pV, i10, ↓reduceIte, eR_read_10]
  have f1 : Fr (FTx t) σ (sR (sI σ 83 1 v) 83 6 (88 + 5 * t)) := (Fr.sI (inS_r (lo := 1) (hi := 15) (by simp) (by omega))).tr (Fr.sR (inS_r (lo := 1) (hi := 15) (by simp) (by omega)))
  have a6 : gR (sR (sI σ 83 1 v) 83 6 (88 + 5 * t)) 83 6 = 88 + 5 * t := by rw [gR_sR, if_pos ⟨rfl, rfl⟩]
  have a1 : rd (sR (sI σ 83 1 v) 83 6 (88 + 5 * t)) 83 1 = (L : Nat) := by rw [rd_sR, rdeq]; exact hv
  have a82 : ∀ j, rd (sR (sI σ 83 1 v) 83 6 (88 + 5 * t)) 82 j = rd σ 82 j := fun j => by rw [rd_sR, rdne (by omega)]
  generalize sR (sI σ 83 1 v) 83 6 (88 + 5 * t) = σ1 at *
  rw [a6, (tx_o ht _).1]
  simp only [cond]
  refine sT_clear ht (fun σ2 hF2 b1 b5 bl => ?_)
  have n2 : ∀ a k, a < 88 → rd σ2 a k = rd σ1 a k := fun a k q => hF2.rd (FTz_no (by omega))
  have b6 : gR σ2 83 6 = 88 + 5 * t := by rw [hF2.2.2.1 _ _ (FTz_no (by omega))]; exact a6
  simp only [pI, pL, pR, pV, i10, ↓reduceIte, eR_read_25]
  have f3 : Fr F83 σ2 (sI (sI (sI σ2 83 13 0) 83 14 (-1)) 83 3 0) := by
    have k : ∀ j, 2 ≤ j ∧ j < 15 → inS F83 83 j = true := fun j hj => inS_r (lo := 2) (hi := 15) (by simp) hj
    exact ((Fr.sI (k _ (by omega))).tr (Fr.sI (k _ (by omega)))).tr (Fr.sI (k _ (by omega)))
  have d3 : rd (sI (sI (sI σ2 83 13 0) 83 14 (-1)) 83 3 0) 83 3 = (0 : Nat) := by rw [rdeq]; rfl
  have d13 : rd (sI (sI (sI σ2 83 13 0) 83 14 (-1)) 83 3 0) 83 13 = 0 := by rw [rdne2 (by omega), rdne2 (by omega), rdeq]; rfl
  have d14 : rd (sI (sI (sI σ2 83 13 0) 83 14 (-1)) 83 3 0) 83 14 = -1 := by rw [rdne2 (by omega), rdeq]; rfl
  have d1 : rd (sI (sI (sI σ2 83 13 0) 83 14 (-1)) 83 3 0) 83 1 = (L : Nat) := by rw [rdne2 (by omega), rdne2 (by omega), rdne2 (by omega), n2 _ _ (by omega)]; exact a1
  have d6 : gR (sI (sI (sI σ2 83 13 0) 83 14 (-1)) 83 3 0) 83 6 = 88 + 5 * t := b6
  generalize sI (sI (sI σ2 83 13 0) 83 14 (-1)) 83 3 0 = σ3 at *
  have hT3 : TpC L B σ3 := ⟨hTp, d1, fun j hj => by rw [f3.rd (F83_no (by omega)), n2 _ _ (by omega), a82]; exact hb j hj⟩
  refine sR_advance (d := d + 2) hT3 d3 (Nat.zero_le L) (by omega) (fun σ4 hF4 hT4 hk4 => ?_)
  have no : ∀ a j, a ≠ 83 ∨ 6 ≤ j → inS FAv a j = false := fun a j q => not_inS (fun f he z => by
    rw [List.mem_singleton] at he
    subst he
    have z1 : 83 = a := z.1
    have z3 : j < 6 := z.2.2
    omega)
  have f4 : Fr (FTx t) σ σ4 := ((f1.tr (Fr_tc hF2)).tr (Fr_83 f3)).tr (Fr_83 (Fr_av hF4))
  have e4 : ∀ a j, a ≠ 83 ∨ 6 ≤ j → rd σ4 a j = rd σ3 a j := fun a j q => hF4.rd (no a j q)
  have e3 : ∀ a j, a ≠ 83 → rd σ3 a j = rd σ2 a j := fun a j q => f3.rd (F83_no (by omega))
  have g4 : TI t L B 0 T0 σ4 := by
    refine ⟨hT4, hk4, Nat.zero_le L, ?_, ?_, ⟨?_, fun k hk => absurd hk (Nat.not_lt_zero k), ?_, trivial, fun l hl => ⟨fun _ => ?_, fun f ops q => (by cases q)⟩⟩, ?_⟩
    · rw [hF4.2.2.1 _ _ (no _ _ (by omega))]
      exact d6
    · rw [e4 _ _ (by omega)]
      exact d13
    · rw [e4 _ _ (by omega), e3 _ _ (by omega), b5]
      rfl
    · rw [e4 _ _ (by omega), e3 _ _ (by omega), b1]
      rfl
    · rw [e4 _ _ (by omega), e3 _ _ (by omega)]
      exact bl l hl
    · rw [e4 _ _ (by omega)]
      exact d14
  simp only [pI, pL, pR, pV, i10, ↓reduceIte, eR_read_44]
  refine lR_read (t := t) (L := L) (B := B) ht 301 0 T0 σ4 0 _ (by omega) (by decide) f4 g4 PInv_0 (fun q σ' y3 v a b c => ?_) (fun q σ' y3 v a b c => ?_)
  · have b13 : rd σ' 83 13 = 0 := b.2.2.2.2.1
    simp only [pI, pL, pR, pV, i10, ↓reduceIte, eR_read_126]
    simp only [c13]
    rw [if_pos b13]
    simp only [pI, pL, pR, pV, i10, ↓reduceIte, eR_read_138]
    simp only [cond, zB_1]
    exact h0 q σ' a b c
  · have b13 : ¬ rd σ' 83 13 = 0 := by rw [b]; exact q
    simp only [pI, pL, pR, pV, i10, ↓reduceIte, eR_read_126]
    simp only [c13]
    rw [if_neg b13]
    simp only [pI, pL, pR, pV, i10, ↓reduceIte, eR_read_137, eR_read_138]
    simp only [cond, zB_0]
    exact hf q σ' a b c
