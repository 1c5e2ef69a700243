/-! UNDO -/
abbrev FBc : Ls := [(2, 0, 75), (1, 2, 4)]
def BackC (σ σ' : Sg) : Prop := Fr FBc σ σ' ∧ rd σ' 1 2 = (rd σ 1 2 + 29) % 30 ∧ rd σ' 1 3 = rd σ 1 3 - 1 ∧ (∀ k, k < 75 → rd σ' 2 k = rd σ (4 + ((rd σ 1 2 + 29) % 30).toNat) k)
theorem sW_takeBack {d : Nat} {Φ : Po} {σ : Sg} (hn : 0 ≤ rd σ 1 2 ∧ rd σ 1 2 < 30) (hs : 0 ≤ rd σ 1 3 ∧ rd σ 1 3 ≤ 30) (h0 : rd σ 1 3 = 0 → Φ (some (.int 0)) σ) (h : 0 < rd σ 1 3 → ∀ σ' : Sg, BackC σ σ' → Φ (some (.int 1)) σ') : wp true (d + 3) nW_takeBack [.ref 1] σ Φ := by
  apply wW_takeBack
  simp only [pI, pL, pR, pV, i10, ↓reduceIte, eW_takeBack_0]
  have e3 : (gI σ 1 3).toInt = rd σ 1 3 := rfl
  have e2 : (gI σ 1 2).toInt = rd σ 1 2 := rfl
  have cz : (gI σ 1 3 = 0) = (rd σ 1 3 = 0) := by rw [ieq]; rfl
  simp only [cz]
  split
  next z => exact h0 z
  next z =>
    simp only [pI, pL, pR, pV, i10, ↓reduceIte, eW_takeBack_9]
    have em : ((gI σ 1 2 + 30 - 1) % 30).toInt = (rd σ 1 2 + 29) % 30 := by
      have q1 : (gI σ 1 2 + 30).toInt = rd σ 1 2 + 30 := by rw [tP (by rw [show (30 : Int32).toInt = 30 from rfl]; omega)]; rfl
      have q2 : (gI σ 1 2 + 30 - 1).toInt = rd σ 1 2 + 29 := by
        rw [tM (by rw [q1, show (1 : Int32).toInt = 1 from rfl]; omega), q1, show (1 : Int32).toInt = 1 from rfl]
        omega
      rw [tR (by omega), q2]
      rfl
    have gm : gI (sI σ 1 2 ((gI σ 1 2 + 30 - 1) % 30)) 1 2 = (gI σ 1 2 + 30 - 1) % 30 := eqv rdeq
    rw [gm]
    generalize hm : (gI σ 1 2 + 30 - 1) % 30 = m at em gm ⊢
    have hr : ix m < 30 := by unfold ix; omega
    obtain ⟨k1, k2, k3⟩ := kept_sh _ hr
    refine ⟨by decide, ⟨by omega, by omega⟩, ?_⟩
    rw [rfx3 hr]
    refine sW_copyRow (n := 75) k1 rfl ⟨k2, k3⟩ ⟨rfl, rfl⟩ (by omega) ?_
    simp only [pI, pL, pR, pV, i10, ↓reduceIte, eW_takeBack_41]
    generalize hq : ix m = q at hr
    have hqq : q = ((rd σ 1 2 + 29) % 30).toNat := by rw [← hq, ← em]; rfl
    have g3 : gI (cpI (sI σ 1 2 m) (4 + q) 0 2 0 75) 1 3 = gI σ 1 3 := by
      rw [cpI_ne (by omega)]
      exact eqv (rdne2 (by omega))
    rw [g3]
    have f1 : Fr FBc σ (sI σ 1 2 m) := Fr.sI (inS_r (lo := 2) (hi := 4) (by simp) (by omega))
    have f2 : Fr FBc (sI σ 1 2 m) (cpI (sI σ 1 2 m) (4 + q) 0 2 0 75) := Fr.cp (fun k _ k2 => inS_r (lo := 0) (hi := 75) (by simp) (by omega))
    refine h (by omega) _ ⟨(f1.tr f2).tr (Fr.sI (inS_r (lo := 2) (hi := 4) (by simp) (by omega))), ?_, ?_, fun k hk => ?_⟩
    · rw [rdne2 (by omega)]
      show (gI _ _ _).toInt = _
      rw [cpI_ne (by omega), gm, em]
    · rw [rdeq, tM (by rw [e3, show (1 : Int32).toInt = 1 from rfl]; omega), e3]; rfl
    · rw [rdne (by omega)]
      show (gI _ _ _).toInt = _
      rw [cp_at hk, ← hqq]
      exact rdne (by omega)
/-- the reference behind undo -/
def BackM (σ σ' : Sg) : Prop := Fr FU σ σ' ∧ rd σ' 121 4 = rd σ 121 4 - 1 ∧ rd σ' 121 10 = rd σ 121 (150 + 47 * (rd σ 121 4 - 1).toNat) ∧ (∀ k, k < 44 → Dn (rd σ 121 0).toNat (rd σ 121 1).toNat k → mc σ' 121 k = ks σ 121 (rd σ 121 4 - 1).toNat k) ∧ (∀ k, k < 44 → ¬ Dn (rd σ 121 0).toNat (rd σ 121 1).toNat k → mc σ' 121 k = mc σ 121 k)
theorem sM_undo {d : Nat} {Φ : Po} {σ : Sg} (hs : 0 ≤ rd σ 121 4 ∧ rd σ 121 4 ≤ 30) (hn : 0 ≤ rd σ 121 0 ∧ rd σ 121 0 ≤ 6) (hv : 0 ≤ rd σ 121 1 ∧ rd σ 121 1 ≤ 6) (h0 : rd σ 121 4 = 0 → Φ (some (.int (-1))) σ) (h : 0 < rd σ 121 4 → ∀ (σ' : Sg), BackM σ σ' → Φ (some (.int (gI σ' 121 4))) σ') : wp true (d + 3) nM_undo [.ref 120] σ Φ := by
  apply wM_undo
  simp only [pI, pL, pR, pV, i10, ↓reduceIte, eM_undo_0]
  have cz : (gI σ 121 (ix 4) = 0) = (rd σ 121 4 = 0) := by rw [ieq]; rfl
  simp only [cz]
  refine ⟨⟨by decide, by decide⟩, ?_⟩
  split
  next z => exact h0 z
  next z =>
    simp only [pI, pL, pR, pV, i10, ↓reduceIte, eM_undo_11]
    have e4 : (gI σ 121 (ix 4)).toInt = rd σ 121 4 := rfl
    generalize hj : (rd σ 121 4 - 1).toNat = j at *
    have hj30 : j < 30 := by omega
    have es : (gI σ 121 (ix 4) - 1).toInt = j := by
      rw [tM (by rw [e4, show (1 : Int32).toInt = 1 from rfl]; omega), e4, show (1 : Int32).toInt = 1 from rfl]
      omega
    have gm : gI (sI σ 121 (ix 4) (gI σ 121 (ix 4) - 1)) 121 (ix 4) = gI σ 121 (ix 4) - 1 := eqv rdeq
    rw [gm]
    generalize gI σ 121 (ix 4) - 1 = m at es gm ⊢
    have hx1 : (146 + 47 * m).toInt = 146 + 47 * j := by
      have q1 : (47 * m).toInt = 47 * j := by rw [tX (by rw [show (47 : Int32).toInt = 47 from rfl, es]; omega), es]; rfl
      rw [tP (by rw [q1, show (146 : Int32).toInt = 146 from rfl]; omega), q1]
      rfl
    generalize 146 + 47 * m = x1 at hx1 ⊢
    refine ⟨⟨by decide, by decide⟩, ⟨by decide, by decide⟩, ⟨by decide, by decide⟩, ?_⟩
    have i4 : ix 4 = 4 := rfl
    rw [i4]
    generalize hσ1 : sI σ 121 4 m = σ1
    have f1 : Fr FU σ σ1 := by rw [← hσ1]; exact Fr.sI (by decide)
    have r4 : rd σ1 121 4 = j := by rw [← hσ1, rdeq, es]
    have m4 : ∀ k, k < 44 → mix k ≠ 4 := by decide
    have c1 : mc σ1 121 = mc σ 121 := by rw [← hσ1]; exact mc_sIo m4
    have sl : ∀ (τ : Sg) (e : Nat), Fr FU σ τ → e < 47 → gI τ 121 (146 + 47 * j + e) = gI σ 121 (146 + 47 * j + e) := fun τ e hF he => eqv (slot_rd hF hj30 he)
    have a : ∀ (i : Nat) (x : Int32), x.toInt = i → i < 3 → ix (x1 + 2 + x) = 146 + 47 * j + (2 + i) ∧ inb (x1 + 2 + x) 4016 ∧ ix (8 + x) = 8 + i ∧ inb (8 + x) 4016 := fun i x hx hi => by
      have q1 : (x1 + 2).toInt = 148 + 47 * j := by rw [tP (by rw [show (2 : Int32).toInt = 2 from rfl]; omega), hx1, show (2 : Int32).toInt = 2 from rfl]; omega
      have q2 : (x1 + 2 + x).toInt = 148 + 47 * j + i := by rw [tP (by omega), q1, hx]
      have q3 : (8 + x).toInt = 8 + i := by rw [tk (n := 8) rfl (by omega), hx]; rfl
      exact ⟨ix_of (by omega), ⟨by omega, by omega⟩, ix_of (by omega), ⟨by omega, by omega⟩⟩
    have k2 := ks_k (σ := σ) (j := j) (k := 42) (by omega)
    have k3 := ks_k (σ := σ) (j := j) (k := 43) (by omega)
    simp only [pI, pL, pR, pV, i10, ↓reduceIte, eM_undo_37]
    obtain ⟨a1, a2, a3, a4⟩ := a 0 0 rfl (by omega)
    rw [a1, a3]
    try rw [if_neg (by decide)]
    refine ⟨a2, a4, ?_⟩
    apply hM_undo_37
    simp only [pI, pL, pR, pV, i10, ↓reduceIte, eM_undo_37]
    obtain ⟨a1, a2, a3, a4⟩ := a 1 (0 + 1) rfl (by omega)
    rw [a1, a3]
    try rw [if_neg (by decide)]
    refine ⟨a2, a4, ?_⟩
    apply hM_undo_37
    simp only [pI, pL, pR, pV, i10, ↓reduceIte, eM_undo_37]
    obtain ⟨a1, a2, a3, a4⟩ := a 2 (0 + 1 + 1) rfl (by omega)
    rw [a1, a3]
    try rw [if_neg (by decide)]
    refine ⟨a2, a4, ?_⟩
    apply hM_undo_37
    simp only [pI, pL, pR, pV, i10, ↓reduceIte, eM_undo_37]
    rw [if_pos (by decide)]
    simp only [pI, pL, pR, pV, i10, ↓reduceIte, eM_undo_67]
    rw [sl σ1 _ f1 (by omega)]
    generalize hσ2 : sI σ1 121 (8 + 0) (gI σ 121 (146 + 47 * j + (2 + 0))) = σ2
    have f2 : Fr FU σ σ2 := by rw [← hσ2]; exact f1.tr (Fr.sI (by decide))
    rw [sl σ2 _ f2 (by omega)]
    generalize hσ3 : sI σ2 121 (8 + 1) (gI σ 121 (146 + 47 * j + (2 + 1))) = σ3
    have f3 : Fr FU σ σ3 := by rw [← hσ3]; exact f2.tr (Fr.sI (by decide))
    rw [sl σ3 _ f3 (by omega)]
    generalize hσ4 : sI σ3 121 (8 + 2) (gI σ 121 (146 + 47 * j + (2 + 2))) = σ4
    have f4 : Fr FU σ σ4 := by rw [← hσ4]; exact f3.tr (Fr.sI (by decide))
    have m10 : ∀ k, k < 44 → mix k ≠ 10 := by decide
    have c4 : mc σ4 121 = upc (upc (mc σ 121) 42 (rd σ 121 (146 + 47 * j + 2))) 43 (rd σ 121 (146 + 47 * j + 3)) := by
      rw [← hσ4, mc_sIo m10, ← hσ3, mc_sI (n := 8 + 1) (k := 43) (by omega) rfl, ← hσ2, mc_sI (n := 8 + 0) (k := 42) (by omega) rfl, c1]
      rfl
    have P0 : UnP σ σ4 j 0 0 := by
      refine ⟨f4, ?_, ?_, fun k hk q => ?_, fun k hk q => ?_⟩
      · rw [← hσ4, rdne2 (by omega), ← hσ3, rdne2 (by omega), ← hσ2, rdne2 (by omega)]; exact r4
      · rw [← hσ4, rdeq]
        show rd σ 121 _ = _
        congr 1
        omega
      · have : k = 42 ∨ k = 43 := by
          unfold Dn at q
          omega
        rcases this with rfl | rfl
        · rw [c4, upc_ne (by omega), upc_eq, k2]
        · rw [c4, upc_eq, k3]
      · unfold Dn at q
        rw [c4, upc_ne (by omega), upc_ne (by omega)]
    have n1 : rd σ 121 0 = ((rd σ 121 0).toNat : Nat) := by omega
    have n2 : rd σ 121 1 = ((rd σ 121 1).toNat : Nat) := by omega
    refine lM_undo69 hj30 hx1 ⟨n1, by omega⟩ (fun τ x v3 hP => ?_) (rd σ 121 0).toNat 0 σ4 0 _ (by omega) rfl P0
    simp only [pI, pL, pR, pV, i10, ↓reduceIte, eM_undo_145]
    refine lM_undo147 hj30 hx1 ⟨n2, by omega⟩ (fun τ' x v3 hP' => ?_) (rd σ 121 1).toNat 0 τ 0 _ (by omega) rfl hP
    simp only [pI, pL, pR, pV, i10, ↓reduceIte, eM_undo_238]
    obtain ⟨p1, p2, p3, p4, p5⟩ := hP'
    refine ⟨⟨by decide, by decide⟩, h (by omega) τ' ⟨p1, ?_, ?_, ?_, ?_⟩⟩
    · rw [p2]; omega
    · rw [hj]; exact p3
    · rw [hj]; exact p4
    · exact p5
