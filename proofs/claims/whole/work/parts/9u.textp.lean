/-! TEXTS: the class reads a text -/
theorem sT_hasLaw5 {d : Nat} {Φ : Po} {σ : Sg} {r0 : Nat} {l : Int32} (hl : 5 ≤ l.toInt) (h0 : Φ (some (.int 0)) σ) : wp true (d + 1) nT_hasLaw [.ref r0, .int l] σ Φ := by
  have k5 : (5 : Int32).toInt = 5 := rfl
  have k0 : (0 : Int32).toInt = 0 := rfl
  apply wT_hasLaw
  simp only [pI, pL, pR, pV, i10, ↓reduceIte, eT_hasLaw_0]
  simp only [ilt, ile, k5, k0]
  rw [if_neg (by omega), if_pos (by omega)]
  simp only [pI, pL, pR, pV, i10, ↓reduceIte, eT_hasLaw_23, eT_hasLaw_24]
  simp only [cond, zB_0]
  exact h0
theorem blm {σ : Sg} {x : Int32} : Fr F83 σ (sI (sI σ 83 13 x) 83 14 (gI (sI σ 83 13 x) 83 2)) := (Fr.sI (inS_r (lo := 2) (hi := 15) (by simp) (by omega))).tr (Fr.sI (inS_r (lo := 2) (hi := 15) (by simp) (by omega)))
theorem sR_blameClause {d : Nat} {Φ : Po} {t L : Nat} {B : Nat → Int} {i : Nat} {T : TT} {x1 : Int32} {σ : Sg} (ht : t < 4) (hx : x1.toInt = (if tokO L B i ≤ 10 then ((tokO L B i : Nat) : Int) else -1)) (g : TI t L B i T σ) (h24 : T.1 ≤ 24) (h0 : bcF T (tokO L B i) = 0 → Φ none σ) (hf : bcF T (tokO L B i) ≠ 0 → ∀ σ' : Sg, Fr F83 σ σ' → rd σ' 83 13 = bcF T (tokO L B i) → rd σ' 83 14 = tokP L B i → Φ none σ') : wp true (d + 2) nR_blameClause [.ref 83, .int x1] σ Φ := by
  have km : (-1 : Int32).toInt = -1 := rfl
  have k24 : (24 : Int32).toInt = 24 := rfl
  obtain ⟨hT, hk, hiL, g6, g13, gC, -⟩ := g
  have hp := hk.1
  generalize tokO L B i = o at *
  generalize tokP L B i = p at *
  have bl : ∀ (x : Int32) (Ψ : Po), bcF T o = x.toInt → x.toInt ≠ 0 → (∀ σ' : Sg, Fr F83 σ σ' → rd σ' 83 13 = bcF T o → rd σ' 83 14 = p → Ψ none σ') → wp true (d + 1) nR_blame [.ref 83, .int x] σ Ψ := fun x Ψ q1 q2 q3 => sR_blame (t := t) g13 hp (fun q => q3 _ blm (q.2.1.trans q1.symm) q.2.2.1)
  have cm : (x1 = -1) = (10 < o) := by
    simp only [ieq, hx, km]
    refine propext ⟨fun q => ?_, fun q => by rw [if_neg (by omega)]⟩
    apply Classical.byContradiction
    intro z
    rw [if_pos (by omega)] at q
    omega
  apply wR_blameClause
  simp only [pI, pL, pR, pV, i10, ↓reduceIte, eR_blameClause_0]
  simp only [cm]
  unfold bcF at h0 hf bl
  by_cases c1 : 10 < o
  · rw [if_pos c1] at h0 hf bl ⊢
    refine bl 1 _ rfl (by decide) (fun σ' a b c => ?_)
    simp only [pI, pL, pR, pV, i10, ↓reduceIte, eR_blameClause_10, eR_blameClause_50]
    exact hf (by decide) σ' a b c
  rw [if_neg c1] at h0 hf bl ⊢
  rw [if_pos (by omega)] at hx
  have n5 : (gI σ (88 + 5 * t) 5).toInt = (T.1 : Nat) := gC.1
  have c24 : (gI σ (88 + 5 * t) 5 = 24) = (T.1 = 24) := by rw [ieq, n5, k24]; exact propext ⟨fun q => by omega, fun q => by omega⟩
  have hix : ix x1 = o := ix_of hx
  have rest : ¬ (o < 5 ∧ (T.2.2.2 o).isSome = true) → bR_blameClause_21 true NOB (wp true (d + 1)) Φ (kR_blameClause (d + 1) Φ) [.ref 83, .int x1] [.int 0] σ := fun q => by
    rw [if_neg q] at h0 hf bl
    simp only [pI, pL, pR, pV, i10, ↓reduceIte, eR_blameClause_21]
    simp only [pI, pL, pR, pV, i10, ↓reduceIte, eR_blameClause_32]
    rw [g6, (tx_o ht _).1]
    simp only [cond, c24]
    by_cases c3 : T.1 = 24
    · rw [if_pos c3] at h0 hf bl ⊢
      refine bl 6 _ rfl (by decide) (fun σ' a b c => ?_)
      simp only [pI, pL, pR, pV, i10, ↓reduceIte, eR_blameClause_50]
      exact hf (by decide) σ' a b c
    · rw [if_neg c3] at h0 ⊢
      simp only [pI, pL, pR, pV, i10, ↓reduceIte, eR_blameClause_50]
      exact h0 rfl
  simp only [pI, pL, pR, pV, i10, ↓reduceIte, eR_blameClause_13]
  rw [g6, (tx_o ht _).1]
  simp only [cond]
  by_cases c5 : o < 5
  · have g5 := gC.2.2.2.2 o c5
    refine sT_hasLaw ht (by omega) (fun q => ?_) (fun q => ?_)
    · rw [hix] at q
      have z : o < 5 ∧ (T.2.2.2 o).isSome = true := by
        refine ⟨c5, ?_⟩
        cases hz : T.2.2.2 o with
        | none => exact absurd (g5.1 hz) q
        | some y => rfl
      rw [if_pos z] at h0 hf bl
      simp only [pI, pL, pR, pV, i10, ↓reduceIte, eR_blameClause_21]
      try rw [if_neg (by decide)]
      refine bl 4 _ rfl (by decide) (fun σ' a b c => ?_)
      simp only [pI, pL, pR, pV, i10, ↓reduceIte, eR_blameClause_29, eR_blameClause_50]
      exact hf (by decide) σ' a b c
    · rw [hix] at q
      refine rest (fun z => ?_)
      cases hz : T.2.2.2 o with
      | none =>
        have z := z.2
        rw [hz] at z
        cases z
      | some y =>
        have := (g5.2 y.1 y.2 hz).1
        omega
  · exact sT_hasLaw5 (by omega) (rest (fun z => by omega))
theorem lR_read {d : Nat} {Φ : Po} {t L : Nat} {B : Nat → Int} {x1 : Int32} {r2 : Nat} {σ0 : Sg} (ht : t < 4) : ∀ (k i : Nat) (T : TT) (σ : Sg) (x3 : Int32) (v4 : Value), L + 1 ≤ k + i → 0 ≤ x3.toInt ∧ x3.toInt ≤ i → Fr (FTx t) σ0 σ → TI t L B i T σ → PInv i T →
    ((txF L B k i T).1.1 = 0 → ∀ (σ' : Sg) (y3 : Int32) (v : Value), Fr (FTx t) σ0 σ' → TI t L B (txF L B k i T).1.2.2 (txF L B k i T).2 σ' → PInv (txF L B k i T).1.2.2 (txF L B k i T).2 → bR_read_126 true NOB (wp true (d + 9)) Φ (kR_read (d + 9) Φ) [.ref 83, .int x1, .ref r2, .int y3, v] [] σ') →
    ((txF L B k i T).1.1 ≠ 0 → ∀ (σ' : Sg) (y3 : Int32) (v : Value), Fr (FTx t) σ0 σ' → rd σ' 83 13 = (txF L B k i T).1.1 → rd σ' 83 14 = (txF L B k i T).1.2.1 → bR_read_126 true NOB (wp true (d + 9)) Φ (kR_read (d + 9) Φ) [.ref 83, .int x1, .ref r2, .int y3, v] [] σ') →
    bR_read_46 true NOB (wp true (d + 9)) Φ (kR_read (d + 9) Φ) [.ref 83, .int x1, .ref r2, .int x3, v4] [] σ := by
  have k300 : (300 : Int32).toInt = 300 := rfl
  have k5 : (5 : Int32).toInt = 5 := rfl
  have c13 : ∀ τ : Sg, (gI τ 83 13 = 0) = (rd τ 83 13 = 0) := fun τ => by rw [ieq]; rfl
  intro k
  induction k with
  | zero =>
    intro i T σ x3 v4 hk hx hF g
    have := g.2.2.1
    omega
  | succ k ih =>
    intro i T σ x3 v4 hk hx hF g hP h0 hf
    obtain ⟨hT, hTk, hiL, g6, g13, gC, -⟩ := id g
    have hTp := hT.1
    have hL3 := hTp.1
    have e4 : gR σ 83 4 = 90000 + tokO L B i := hTk.2.2.1
    have ok := ord_k (tokO L B i) ordP_b
    have eX : txF L B (k + 1) i T = if tokO L B i = 40 then ((0, 0, i), T) else if (clF L B i T).1.1 ≠ 0 then clF L B i T else txF L B k (clF L B i T).1.2.2 (clF L B i T).2 := rfl
    rw [eX] at h0 hf
    simp only [pI, pL, pR, pV, i10, ↓reduceIte, eR_read_46]
    simp only [c13, ilt, k300]
    rw [if_neg (by omega), if_pos g13, e4, ok.1]
    simp only [cond]
    by_cases c40 : tokO L B i = 40
    · rw [if_pos c40] at h0
      rw [if_pos (by omega)]
      exact h0 rfl σ _ _ hF g hP
    rw [if_neg c40] at h0 hf
    rw [if_neg (by omega)]
    obtain ⟨e1, e2⟩ := tok_go hTp hiL c40
    have hcl := PInv_cl hTp hiL c40 hP
    have hx1 : (x3 + 1).toInt = x3.toInt + 1 := tq1 x3 (by omega)
    -- a fault
    have flt : (clF L B i T).1.1 ≠ 0 → ∀ (σ' : Sg) (v : Int32), Fr (FTx t) σ σ' → rd σ' 83 13 = (clF L B i T).1.1 → rd σ' 83 14 = (clF L B i T).1.2.1 → bR_read_120 true NOB (wp true (d + 9)) Φ (kR_read (d + 9) Φ) [.ref 83, .int x1, .ref r2, .int x3, .int v] [] σ' := fun q σ' v a b c => by
      rw [if_pos q] at hf
      simp only [pI, pL, pR, pV, i10, ↓reduceIte, eR_read_120]
      refine hR_read_46 _ _ _ _ _ ?_
      simp only [pI, pL, pR, pV, i10, ↓reduceIte, eR_read_46]
      simp only [c13]
      have q13 : ¬ rd σ' 83 13 = 0 := by rw [b]; exact q
      split
      · exact hf q σ' _ _ (hF.tr a) b c
      · exact hf q σ' _ _ (hF.tr a) b c
    have go : (clF L B i T).1.1 = 0 → ∀ (σ' : Sg) (v : Int32), Fr (FTx t) σ σ' → TI t L B (clF L B i T).1.2.2 (clF L B i T).2 σ' → bR_read_120 true NOB (wp true (d + 9)) Φ (kR_read (d + 9) Φ) [.ref 83, .int x1, .ref r2, .int x3, .int v] [] σ' := fun q σ' v a b => by
      rw [if_neg (fun z => z q)] at h0 hf
      obtain ⟨m1, m2, m3⟩ := hcl q
      simp only [pI, pL, pR, pV, i10, ↓reduceIte, eR_read_120]
      refine hR_read_46 _ _ _ _ _ ?_
      exact ih _ _ σ' _ _ (by omega) (by rw [hx1]; omega) (hF.tr a) b m1 h0 hf
    have hw := ok.2.1
    refine sR_blameClause ht hw g hP.1 (fun q => ?_) (fun q σ' a b c => ?_)
    · obtain ⟨b1, b2, b3⟩ := bcF_0 q hP.1
      rw [if_pos b1] at hw
      have eC : clF L B i T = if tokO L B i < 5 then (if (lawF L B (tokO L B i) 302 (tokE L B i) [] [] 0).1 ≠ 0 then (((lawF L B (tokO L B i) 302 (tokE L B i) [] [] 0).1, (lawF L B (tokO L B i) 302 (tokE L B i) [] [] 0).2.1, 0), T) else ((0, 0, (lawF L B (tokO L B i) 302 (tokE L B i) [] [] 0).2.2.1), addL T (tokO L B i) (lawF L B (tokO L B i) 302 (tokE L B i) [] [] 0).2.2.2)) else (if (deedF L B (tokO L B i) (tokE L B i)).1.1 ≠ 0 then ((deedF L B (tokO L B i) (tokE L B i)).1, T) else ((deedF L B (tokO L B i) (tokE L B i)).1, addD T ((tokO L B i : Nat), (deedF L B (tokO L B i) (tokE L B i)).2))) := by
        unfold clF
        rw [if_neg (fun z => z q)]
      rw [eC] at flt go
      simp only [pI, pL, pR, pV, i10, ↓reduceIte, eR_read_85]
      simp only [c13, ile, k5, hw]
      rw [if_pos g13]
      by_cases c5 : tokO L B i < 5
      · rw [if_pos c5] at flt go
        rw [if_neg (by omega)]
        have hp := hP.2.1
        refine sR_readLaw (d := d + 1) ht c5 hw c40 g b3 (by omega) (fun z σ' a b _ _ => ?_) (fun z σ' a b c => ?_)
        · rw [if_neg (fun y => y z)] at go
          simp only [pI, pL, pR, pV, i10, ↓reduceIte, eR_read_104]
          exact go rfl σ' _ a b
        · rw [if_pos z] at flt
          simp only [pI, pL, pR, pV, i10, ↓reduceIte, eR_read_104]
          exact flt z σ' _ a b c
      · rw [if_neg c5] at flt go
        rw [if_pos (by omega)]
        simp only [pI, pL, pR, pV, i10, ↓reduceIte, eR_read_107]
        simp only [c13]
        rw [if_pos g13]
        refine sR_readDeed ht (by omega) hw c40 g b3 (fun z σ' a b => ?_) (fun z σ' a b c => ?_)
        · rw [if_neg (fun y => y z)] at go
          exact go z σ' _ a b
        · rw [if_pos z] at flt
          exact flt z σ' _ a b c
    · have eC : clF L B i T = ((bcF T (tokO L B i), tokP L B i, 0), T) := by
        unfold clF
        rw [if_pos q]
      rw [eC] at flt
      have q13 : ¬ rd σ' 83 13 = 0 := by rw [b]; exact q
      simp only [pI, pL, pR, pV, i10, ↓reduceIte, eR_read_85]
      simp only [c13]
      rw [if_neg q13]
      simp only [pI, pL, pR, pV, i10, ↓reduceIte, eR_read_107]
      simp only [c13]
      rw [if_neg q13]
      exact flt q σ' _ (Fr_83 a) b c
