/-! TEXTS: the pair, proved -/
abbrev FXx (t : Nat) : Ls := (0, 4, 5) :: (1, 9, 10) :: FTx t
abbrev FXm (t : Nat) : Ls := (120, 4, 7) :: (121, 2, 3) :: FMx t
theorem FXx_d : ∀ t, t < 4 → (FXx t).all (fun e => !(Nat.beq e.1 95000)) = true ∧ dsj (fG1 0 121) (FXx t) = true ∧ dsj (fG2 0 121) (FXx t) = true ∧ dsj (fG4 0 121) (FXx t) = true ∧ dsj (fG5 0 121) (FXx t) = true ∧ dsj (fG6 0 121) (FXx t) = true ∧ dsj (fG7 0 121) (FXx t) = true ∧ dsj (fG8 0 121) (FXx t) = true ∧ dsj (fG9 0 121) (FXx t) = true ∧ dsj (fA 40 122) (FXx t) = true := by decide +kernel
theorem FXm_d : ∀ t, t < 4 → (FXm t).all (fun e => !(Nat.beq e.1 95000)) = true ∧ dsj (fG1 0 121) (FXm t) = true ∧ dsj (fG2 0 121) (FXm t) = true ∧ dsj (fG4 0 121) (FXm t) = true ∧ dsj (fG5 0 121) (FXm t) = true ∧ dsj (fG6 0 121) (FXm t) = true ∧ dsj (fG7 0 121) (FXm t) = true ∧ dsj (fG8 0 121) (FXm t) = true ∧ dsj (fG9 0 121) (FXm t) = true ∧ dsj (fA 40 122) (FXm t) = true := by decide +kernel
theorem FXx_no {t a k : Nat} (h : (a ≠ 0 ∨ k ≠ 4) ∧ (a ≠ 1 ∨ k ≠ 9) ∧ inS (FTx t) a k = false) : inS (FXx t) a k = false := not_inS (fun e he z => by
  rcases List.mem_cons.mp he with rfl | he
  · have z1 : 0 = a := z.1
    have z2 : 4 ≤ k := z.2.1
    have z3 : k < 5 := z.2.2
    omega
  rcases List.mem_cons.mp he with rfl | he
  · have z1 : 1 = a := z.1
    have z2 : 9 ≤ k := z.2.1
    have z3 : k < 10 := z.2.2
    omega
  obtain ⟨x, lo, hi⟩ := e
  have z1 : x = a := z.1
  subst z1
  have := inS_r he ⟨z.2.1, z.2.2⟩
  rw [h.2.2] at this
  cases this)
theorem FXm_no {t a k : Nat} (h : (a ≠ 120 ∨ k < 4 ∨ 7 ≤ k) ∧ (a ≠ 121 ∨ k ≠ 2) ∧ inS (FMx t) a k = false) : inS (FXm t) a k = false := not_inS (fun e he z => by
  rcases List.mem_cons.mp he with rfl | he
  · have z1 : 120 = a := z.1
    have z2 : 4 ≤ k := z.2.1
    have z3 : k < 7 := z.2.2
    omega
  rcases List.mem_cons.mp he with rfl | he
  · have z1 : 121 = a := z.1
    have z2 : 2 ≤ k := z.2.1
    have z3 : k < 3 := z.2.2
    omega
  obtain ⟨x, lo, hi⟩ := e
  have z1 : x = a := z.1
  subst z1
  have := inS_r he ⟨z.2.1, z.2.2⟩
  rw [h.2.2] at this
  cases this)
theorem Fr_xx {t : Nat} {σ σ' : Sg} (h : Fr (FTx t) σ σ') : Fr (FXx t) σ σ' := h.cov (fun e he => ⟨e, List.mem_cons_of_mem _ (List.mem_cons_of_mem _ he), rfl, Nat.le_refl _, Nat.le_refl _⟩)
theorem Fr_xm {t : Nat} {σ σ' : Sg} (h : Fr (FMx t) σ σ') : Fr (FXm t) σ σ' := h.cov (fun e he => ⟨e, List.mem_cons_of_mem _ (List.mem_cons_of_mem _ he), rfl, Nat.le_refl _, Nat.le_refl _⟩)
/-- the relation behind a text that was read -/
theorem R_text {lws lws2 : Lws} {σ s1 s2 : Sg} {t : Nat} {b : Nat} (ht : t < 4) (hR : R lws σ) (h2 : rd σ 121 2 = (t : Nat)) (hb : b ≤ 1) (f1 : Fr (FXx t) σ s1) (f2 : Fr (FXm t) s1 s2) (e9 : rd s2 1 9 = ((t + b : Nat) : Int)) (e2 : rd s2 121 2 = ((t + b : Nat) : Int)) (e4 : rd s2 0 4 = 0 ∧ rd s2 120 4 = 0) (e13 : rd s2 83 13 = rd s2 120 5) (e14 : rd s2 83 14 = rd s2 120 6) (hl : ∀ t', t' < t → lws2 t' = lws t') (hnew : b = 1 → Tx1 lws2 s2 t) (hW : ∀ t l ops, t < 4 → l < 5 → lws2 t l = some ops → ops.length ≤ 300 ∧ Wf l ops 0 0 (if l = 0 then 0 else 1) (if l = 0 then 1 else 0)) : R lws2 s2 := by
  obtain ⟨-, x1, x2, x4, x5, x6, x7, x8, x9, xA⟩ := FXx_d t ht
  obtain ⟨-, y1, y2, y4, y5, y6, y7, y8, y9, yA⟩ := FXm_d t ht
  have eq : ∀ S : Ls, dsj S (FXx t) = true → dsj S (FXm t) = true → Eqc S σ s2 := fun S d1 d2 => (f1.eqc d1).tr (f2.eqc d2)
  have no1 : ∀ a k, (a ≠ 0 ∨ k ≠ 4) → (a ≠ 1 ∨ k ≠ 9) → inS (FTx t) a k = false → (a ≠ 120 ∨ k < 4 ∨ 7 ≤ k) → (a ≠ 121 ∨ k ≠ 2) → inS (FMx t) a k = false → rd s2 a k = rd σ a k := fun a k p1 p2 p3 p4 p5 p6 => by rw [f2.rd (FXm_no ⟨p4, p5, p6⟩), f1.rd (FXx_no ⟨p1, p2, p3⟩)]
  obtain ⟨⟨g1, g2, g3, g4, g5, g6, g7, g8, g9⟩, gI', gT, gF⟩ := hR
  obtain ⟨a1, a2, a3, a4⟩ := g3
  have n10 : rd s2 (1 + 0) 10 = rd σ (1 + 0) 10 := no1 1 10 (by omega) (by omega) (FTx_no (by omega)) (by omega) (by omega) (FMx_no (by omega))
  have n3 : rd s2 121 3 = rd σ 121 3 := no1 121 3 (by omega) (by omega) (FTx_no (by omega)) (by omega) (by omega) (FMx_no (by omega))
  refine ⟨⟨G1.of (eq _ x1 y1) g1, G2.of (eq _ x2 y2) g2, ⟨?_, ?_, ?_, ?_⟩, G4.of (eq _ x4 y4) g4, G5.of (eq _ x5 y5) g5, G6.of (eq _ x6 y6) g6, G7.of (eq _ x7 y7) g7, G8.of (eq _ x8 y8) g8, G9.of (eq _ x9 y9) g9⟩, RA.of (eq _ xA yA) gI', ⟨fun t' ht' hn => ?_, hW⟩, ?_, ?_, fun k hk hk0 => ?_, e13, e14, ?_, ?_⟩
  · show rd s2 1 9 = rd s2 121 2
    rw [e9, e2]
  · rw [n10, n3]
    exact a2
  · rw [e2]
    exact ⟨by omega, by omega⟩
  · rw [e2, n3]
    rw [h2] at a4
    omega
  · rw [e2] at hn
    by_cases c : t' = t
    · subst c
      exact hnew (by omega)
    · have c : t' < t := by omega
      refine Tx1.of2 ht' (hl t' c) (fun x k k1 k2 k3 => ?_) (fun k k1 k2 => ?_) (gT.1 t' ht' (by rw [h2]; omega))
      · exact no1 x k (by omega) (by omega) (FTx_no (by omega)) (by omega) (by omega) (FMx_no (by omega))
      · exact no1 123 k (by omega) (by omega) (FTx_no (by omega)) (by omega) (by omega) (FMx_no (by omega))
  · rw [e4.1, e4.2]
  · rw [e4.2]
    exact ⟨by omega, by omega⟩
  · rw [e4.2] at hk0
    omega
  · rw [no1 120 24 (by omega) (by omega) (FTx_no (by omega)) (by omega) (by omega) (FMx_no (by omega))]
    exact gF.2.2.2.2.2.1
  · rw [e2, no1 122 2 (by omega) (by omega) (FTx_no (by omega)) (by omega) (by omega) (FMx_no (by omega))]
    have := gF.2.2.2.2.2.2
    rw [h2] at this
    omega
theorem p_text : PairI Rel nX_text nM_text [] := by
  rintro σ ⟨lws, hR⟩ Φ h
  have k4 : (4 : Int32).toInt = 4 := rfl
  have k0 : (0 : Int32).toInt = 0 := rfl
  have ix2 : ix 2 = 2 := rfl
  obtain ⟨a1, a2, a3, a4⟩ := hR.1.2.2.1
  obtain ⟨r1, r2, r3, r4, r5, r6, r7⟩ := hR.2.2.2
  have a1 : rd σ 1 9 = rd σ 121 2 := a1
  obtain ⟨t, ht2⟩ : ∃ t : Nat, rd σ 121 2 = (t : Nat) := ⟨(rd σ 121 2).toNat, by omega⟩
  have g9 : (gI σ 1 9).toInt = (t : Nat) := a1.trans ht2
  obtain ⟨L, hL⟩ : ∃ L : Nat, rd σ 120 4 = (L : Nat) := ⟨(rd σ 120 4).toNat, by omega⟩
  have c9 : (gI σ 1 9 = 4) = (t = 4) := by rw [ieq, g9, k4]; exact propext ⟨fun q => by omega, fun q => by omega⟩
  apply wX_text
  simp only [pI, pL, pR, pV, i10, ↓reduceIte, eX_text_0]
  simp only [c9]
  by_cases c : t = 4
  · rw [if_pos c]
    refine h (-1) σ ⟨fun _ => rfl, rfl⟩ (fun Ψ hΨ => ?_)
    have g2 : (gI σ 121 2).toInt = (t : Nat) := ht2
    have c2 : (gI σ 121 2 = 4) = (t = 4) := by rw [ieq, g2, k4]; exact propext ⟨fun q => by omega, fun q => by omega⟩
    apply wM_text
    simp only [pI, pL, pR, pV, i10, ↓reduceIte, eM_text_0]
    rw [ix2]
    simp only [c2]
    rw [if_pos c]
    exact ⟨⟨by decide, by decide⟩, hΨ σ ⟨fun _ => rfl, rfl⟩ ⟨lws, hR⟩⟩
  rw [if_neg c]
  have ht : t < 4 := by omega
  have hB : Tp L (fun j => if j < L then rd σ 124 j else -1) := ⟨by omega, fun i hi => by
    show 0 ≤ (if i < L then rd σ 124 i else -1) ∧ (if i < L then rd σ 124 i else -1) ≤ 255
    rw [if_pos hi]
    exact (r3 i (by omega) (by omega)).2, fun i hi => if_neg (by omega)⟩
  have hb82 : ∀ j, j < L → rd σ 82 j = (fun j => if j < L then rd σ 124 j else -1) j := fun j hj => by
    show rd σ 82 j = if j < L then rd σ 124 j else -1
    rw [if_pos hj]
    exact (r3 j (by omega) (by omega)).1
  have hb124 : ∀ j, j < L → rd σ 124 j = (fun j => if j < L then rd σ 124 j else -1) j := fun j hj => by
    show rd σ 124 j = if j < L then rd σ 124 j else -1
    rw [if_pos hj]
  generalize (fun j => if j < L then rd σ 124 j else -1) = B at *
  have hsm := (FXx_d t ht).1
  have hsm2 := (FXm_d t ht).1
  have hL300 := hB.1
  simp only [pI, pL, pR, pV, i10, ↓reduceIte, eX_text_13]
  rw [show ix (gI σ 1 9) = t from ix_of g9, (txt_o ht σ).2.2]
  refine ⟨⟨by omega, by omega⟩, ?_⟩
  -- the reference, from where the class stopped
  have ref : ∀ (s1 : Sg) (Ψ : Po), Fr (FXx t) σ s1 → ((txF L B 301 0 T0).1.1 = 0 → ∀ s2 : Sg, Fr (FMx t) s1 s2 → TMI t L B (txF L B 301 0 T0).1.2.2 (txF L B 301 0 T0).2 s2 → Ψ (some (.int 0)) s2) → ((txF L B 301 0 T0).1.1 ≠ 0 → ∀ (s2 : Sg) (v : Int32), Fr (FMx t) s1 s2 → rd s2 120 8 = ((txF L B 301 0 T0).1.2.1 : Nat) → v.toInt = (txF L B 301 0 T0).1.1 → Ψ (some (.int v)) s2) → wp true 12 nM_readText [.ref 120] s1 Ψ := fun s1 Ψ f q0 qf => by
    have n : ∀ a k, 88 + 20 ≤ a → rd s1 a k = rd σ a k := fun a k q => f.rd (FXx_no ⟨by omega, by omega, FTx_no (by omega)⟩)
    exact sM_readText (d := 0) ht (by rw [n _ _ (by omega)]; exact ht2) ⟨hB, by rw [n _ _ (by omega)]; exact hL, fun i hi => by rw [n _ _ (by omega)]; exact hb124 i hi⟩ q0 qf
  sorry
