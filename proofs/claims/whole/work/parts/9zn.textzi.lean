/-! TEXTS: the pair, proved -/
abbrev FXx (t : Nat) : Ls := (0, 4, 5) :: (1, 9, 10) :: FTx t
abbrev FXm (t : Nat) : Ls := (120, 4, 7) :: (121, 2, 3) :: FMx t
theorem FXx_d : ∀ t, t < 4 → (FXx t).all (fun e => !(Nat.beq e.1 95000)) = true ∧ dsj (fG1 0 121) (FXx t) = true ∧ dsj (fG2 0 121) (FXx t) = true ∧ dsj (fG4 0 121) (FXx t) = true ∧ dsj (fG5 0 121) (FXx t) = true ∧ dsj (fG6 0 121) (FXx t) = true ∧ dsj (fG7 0 121) (FXx t) = true ∧ dsj (fG8 0 121) (FXx t) = true ∧ dsj (fG9 0 121) (FXx t) = true ∧ dsj (fA 40 122) (FXx t) = true := by decide +kernel
theorem FXm_d : ∀ t, t < 4 → (FXm t).all (fun e => !(Nat.beq e.1 95000)) = true ∧ dsj (fG1 0 121) (FXm t) = true ∧ dsj (fG2 0 121) (FXm t) = true ∧ dsj (fG4 0 121) (FXm t) = true ∧ dsj (fG5 0 121) (FXm t) = true ∧ dsj (fG6 0 121) (FXm t) = true ∧ dsj (fG7 0 121) (FXm t) = true ∧ dsj (fG8 0 121) (FXm t) = true ∧ dsj (fG9 0 121) (FXm t) = true ∧ dsj (fA 40 122) (FXm t) = true := by decide +kernel
theorem FXx_no {t a k : Nat} (h : (a ≠ 0 ∨ k ≠ 4) ∧ (a ≠ 1 ∨ k ≠ 9) ∧ inS (FTx t) a k = false) : inS (FXx t) a k = false := not_inS (fun e he z => by
  rcases List.mem_cons.mp he with rfl | he
  · have z1 : 0 = a := z.1
    have z2 : 4 ≤ k := z.2.1
    have z3 : k < 5 := z.2.2
    omega
  rcases List.mem_cons.mp he with rfl | he
  · have z1 : 1 = a := z.1
    have z2 : 9 ≤ k := z.2.1
    have z3 : k < 10 := z.2.2
    omega
  obtain ⟨x, lo, hi⟩ := e
  have z1 : x = a := z.1
  subst z1
  have := inS_r he ⟨z.2.1, z.2.2⟩
  rw [h.2.2] at this
  cases this)
theorem FXm_no {t a k : Nat} (h : (a ≠ 120 ∨ k < 4 ∨ 7 ≤ k) ∧ (a ≠ 121 ∨ k ≠ 2) ∧ inS (FMx t) a k = false) : inS (FXm t) a k = false := not_inS (fun e he z => by
  rcases List.mem_cons.mp he with rfl | he
  · have z1 : 120 = a := z.1
    have z2 : 4 ≤ k := z.2.1
    have z3 : k < 7 := z.2.2
    omega
  rcases List.mem_cons.mp he with rfl | he
  · have z1 : 121 = a := z.1
    have z2 : 2 ≤ k := z.2.1
    have z3 : k < 3 := z.2.2
    omega
  obtain ⟨x, lo, hi⟩ := e
  have z1 : x = a := z.1
  subst z1
  have := inS_r he ⟨z.2.1, z.2.2⟩
  rw [h.2.2] at this
  cases this)
theorem Fr_xx {t : Nat} {σ σ' : Sg} (h : Fr (FTx t) σ σ') : Fr (FXx t) σ σ' := h.cov (fun e he => ⟨e, List.mem_cons_of_mem _ (List.mem_cons_of_mem _ he), rfl, Nat.le_refl _, Nat.le_refl _⟩)
theorem Fr_xm {t : Nat} {σ σ' : Sg} (h : Fr (FMx t) σ σ') : Fr (FXm t) σ σ' := h.cov (fun e he => ⟨e, List.mem_cons_of_mem _ (List.mem_cons_of_mem _ he), rfl, Nat.le_refl _, Nat.le_refl _⟩)
/-- the relation behind a text that was read -/
theorem R_text {lws lws2 : Lws} {σ s1 s2 : Sg} {t : Nat} {b : Nat} (ht : t < 4) (hR : R lws σ) (h2 : rd σ 121 2 = (t : Nat)) (hb : b ≤ 1) (f1 : Fr (FXx t) σ s1) (f2 : Fr (FXm t) s1 s2) (e9 : rd s2 1 9 = ((t + b : Nat) : Int)) (e2 : rd s2 121 2 = ((t + b : Nat) : Int)) (e4 : rd s2 0 4 = 0 ∧ rd s2 120 4 = 0) (e13 : rd s2 83 13 = rd s2 120 5) (e14 : rd s2 83 14 = rd s2 120 6) (hl : ∀ t', t' < t → lws2 t' = lws t') (hnew : b = 1 → Tx1 lws2 s2 t) (hW : ∀ t l ops, t < 4 → l < 5 → lws2 t l = some ops → ops.length ≤ 300 ∧ Wf l ops 0 0 (if l = 0 then 0 else 1) (if l = 0 then 1 else 0)) : R lws2 s2 := by
  obtain ⟨-, x1, x2, x4, x5, x6, x7, x8, x9, xA⟩ := FXx_d t ht
  obtain ⟨-, y1, y2, y4, y5, y6, y7, y8, y9, yA⟩ := FXm_d t ht
  have eq : ∀ S : Ls, dsj S (FXx t) = true → dsj S (FXm t) = true → Eqc S σ s2 := fun S d1 d2 => (f1.eqc d1).tr (f2.eqc d2)
  have no1 : ∀ a k, (a ≠ 0 ∨ k ≠ 4) → (a ≠ 1 ∨ k ≠ 9) → inS (FTx t) a k = false → (a ≠ 120 ∨ k < 4 ∨ 7 ≤ k) → (a ≠ 121 ∨ k ≠ 2) → inS (FMx t) a k = false → rd s2 a k = rd σ a k := fun a k p1 p2 p3 p4 p5 p6 => by rw [f2.rd (FXm_no ⟨p4, p5, p6⟩), f1.rd (FXx_no ⟨p1, p2, p3⟩)]
  obtain ⟨⟨g1, g2, g3, g4, g5, g6, g7, g8, g9⟩, gI', gT, gF⟩ := hR
  obtain ⟨a1, a2, a3, a4⟩ := g3
  have n10 : rd s2 (1 + 0) 10 = rd σ (1 + 0) 10 := no1 1 10 (by omega) (by omega) (FTx_no (by omega)) (by omega) (by omega) (FMx_no (by omega))
  have n3 : rd s2 121 3 = rd σ 121 3 := no1 121 3 (by omega) (by omega) (FTx_no (by omega)) (by omega) (by omega) (FMx_no (by omega))
  refine ⟨⟨G1.of (eq _ x1 y1) g1, G2.of (eq _ x2 y2) g2, ⟨?_, ?_, ?_, ?_⟩, G4.of (eq _ x4 y4) g4, G5.of (eq _ x5 y5) g5, G6.of (eq _ x6 y6) g6, G7.of (eq _ x7 y7) g7, G8.of (eq _ x8 y8) g8, G9.of (eq _ x9 y9) g9⟩, RA.of (eq _ xA yA) gI', ⟨fun t' ht' hn => ?_, hW⟩, ?_, ?_, fun k hk hk0 => ?_, e13, e14, ?_, ?_⟩
  · show rd s2 1 9 = rd s2 121 2
    rw [e9, e2]
  · rw [n10, n3]
    exact a2
  · rw [e2]
    exact ⟨by omega, by omega⟩
  · rw [e2, n3]
    rw [h2] at a4
    omega
  · rw [e2] at hn
    by_cases c : t' = t
    · subst c
      exact hnew (by omega)
    · have c : t' < t := by omega
      refine Tx1.of2 ht' (hl t' c) (fun x k k1 k2 k3 => ?_) (fun k k1 k2 => ?_) (gT.1 t' ht' (by rw [h2]; omega))
      · exact no1 x k (by omega) (by omega) (FTx_no (by omega)) (by omega) (by omega) (FMx_no (by omega))
      · exact no1 123 k (by omega) (by omega) (FTx_no (by omega)) (by omega) (by omega) (FMx_no (by omega))
  · rw [e4.1, e4.2]
  · rw [e4.2]
    exact ⟨by omega, by omega⟩
  · rw [e4.2] at hk0
    omega
  · rw [no1 120 24 (by omega) (by omega) (FTx_no (by omega)) (by omega) (by omega) (FMx_no (by omega))]
    exact gF.2.2.2.2.2.1
  · rw [e2, no1 122 2 (by omega) (by omega) (FTx_no (by omega)) (by omega) (by omega) (FMx_no (by omega))]
    have := gF.2.2.2.2.2.2
    rw [h2] at this
    omega
theorem p_text : PairI Rel nX_text nM_text [] := by
  rintro σ ⟨lws, hR⟩ Φ h
  have k4 : (4 : Int32).toInt = 4 := rfl
  have k0 : (0 : Int32).toInt = 0 := rfl
  have ix2 : ix 2 = 2 := rfl
  obtain ⟨a1, a2, a3, a4⟩ := hR.1.2.2.1
  obtain ⟨r1, r2, r3, r4, r5, r6, r7⟩ := hR.2.2.2
  have a1 : rd σ 1 9 = rd σ 121 2 := a1
  obtain ⟨t, ht2⟩ : ∃ t : Nat, rd σ 121 2 = (t : Nat) := ⟨(rd σ 121 2).toNat, by omega⟩
  have g9 : (gI σ 1 9).toInt = (t : Nat) := a1.trans ht2
  obtain ⟨L, hL⟩ : ∃ L : Nat, rd σ 120 4 = (L : Nat) := ⟨(rd σ 120 4).toNat, by omega⟩
  have c9 : (gI σ 1 9 = 4) = (t = 4) := by rw [ieq, g9, k4]; exact propext ⟨fun q => by omega, fun q => by omega⟩
  apply wX_text
  simp only [pI, pL, pR, pV, i10, ↓reduceIte, eX_text_0]
  simp only [c9]
  by_cases c : t = 4
  · rw [if_pos c]
    refine h (-1) σ ⟨fun _ => rfl, rfl⟩ (fun Ψ hΨ => ?_)
    have g2 : (gI σ 121 2).toInt = (t : Nat) := ht2
    have c2 : (gI σ 121 2 = 4) = (t = 4) := by rw [ieq, g2, k4]; exact propext ⟨fun q => by omega, fun q => by omega⟩
    apply wM_text
    simp only [pI, pL, pR, pV, i10, ↓reduceIte, eM_text_0]
    rw [ix2]
    simp only [c2]
    rw [if_pos c]
    exact ⟨⟨by decide, by decide⟩, hΨ σ ⟨fun _ => rfl, rfl⟩ ⟨lws, hR⟩⟩
  rw [if_neg c]
  have ht : t < 4 := by omega
  have hB : Tp L (fun j => if j < L then rd σ 124 j else -1) := ⟨by omega, fun i hi => by
    show 0 ≤ (if i < L then rd σ 124 i else -1) ∧ (if i < L then rd σ 124 i else -1) ≤ 255
    rw [if_pos hi]
    exact (r3 i (by omega) (by omega)).2, fun i hi => if_neg (by omega)⟩
  have hb82 : ∀ j, j < L → rd σ 82 j = (fun j => if j < L then rd σ 124 j else -1) j := fun j hj => by
    show rd σ 82 j = if j < L then rd σ 124 j else -1
    rw [if_pos hj]
    exact (r3 j (by omega) (by omega)).1
  have hb124 : ∀ j, j < L → rd σ 124 j = (fun j => if j < L then rd σ 124 j else -1) j := fun j hj => by
    show rd σ 124 j = if j < L then rd σ 124 j else -1
    rw [if_pos hj]
  generalize (fun j => if j < L then rd σ 124 j else -1) = B at *
  have hsm := (FXx_d t ht).1
  have hsm2 := (FXm_d t ht).1
  have hL300 := hB.1
  simp only [pI, pL, pR, pV, i10, ↓reduceIte, eX_text_13]
  rw [show ix (gI σ 1 9) = t from ix_of g9, (txt_o ht σ).2.2]
  refine ⟨⟨by omega, by omega⟩, ?_⟩
  -- the reference, from where the class stopped
  have ref : ∀ (s1 : Sg) (Ψ : Po), Fr (FXx t) σ s1 → ((txF L B 301 0 T0).1.1 = 0 → ∀ s2 : Sg, Fr (FMx t) s1 s2 → TMI t L B (txF L B 301 0 T0).1.2.2 (txF L B 301 0 T0).2 s2 → Ψ (some (.int 0)) s2) → ((txF L B 301 0 T0).1.1 ≠ 0 → ∀ (s2 : Sg) (v : Int32), Fr (FMx t) s1 s2 → rd s2 120 8 = ((txF L B 301 0 T0).1.2.1 : Nat) → v.toInt = (txF L B 301 0 T0).1.1 → Ψ (some (.int v)) s2) → wp true 12 nM_readText [.ref 120] s1 Ψ := fun s1 Ψ f q0 qf => by
    have n : ∀ a k, 88 + 20 ≤ a → rd s1 a k = rd σ a k := fun a k q => f.rd (FXx_no ⟨by omega, by omega, FTx_no (by omega)⟩)
    exact sM_readText (d := 0) ht (by rw [n _ _ (by omega)]; exact ht2) ⟨hB, by rw [n _ _ (by omega)]; exact hL, fun i hi => by rw [n _ _ (by omega)]; exact hb124 i hi⟩ q0 qf
  have nX : ∀ (s2 s1 : Sg), Fr (FXm t) s1 s2 → ∀ a k, a < 120 → rd s2 a k = rd s1 a k := fun s2 s1 f a k q => f.rd (FXm_no ⟨by omega, by omega, FMx_no (by omega)⟩)
  refine sR_read (d := 2) (t := t) (L := L) (B := B) ht hB (r1.trans hL) hb82 (fun q σ' a b e => ?_) (fun q σ' a b e => ?_)
  · have f0 : ∀ k, (k ≠ 4 → rd σ' 0 k = rd σ 0 k) ∧ rd σ' 1 k = rd σ 1 k := fun k => ⟨fun _ => a.rd (FTx_no (by omega)), a.rd (FTx_no (by omega))⟩
    have n9 : (gI (sI σ' 0 4 0) 1 9).toInt = (t : Nat) := by
      rw [gIne (by omega)]
      exact (f0 9).2.trans g9
    obtain ⟨b1, b2, b3, b4, b5, b6, b7⟩ := b
    simp only [pI, pL, pR, pV, i10, ↓reduceIte, eX_text_36]
    try rw [if_neg (by decide)]
    simp only [pI, pL, pR, pV, i10, ↓reduceIte, eX_text_48]
    have v9 : (gI (sI σ' 0 4 0) 1 9 + 1).toInt = ((t + 1 : Nat) : Int) := by rw [tq1 _ (by omega), n9]; omega
    generalize gI (sI σ' 0 4 0) 1 9 + 1 = y at *
    have w9 : gI (sI (sI σ' 0 4 0) 1 9 y) 1 9 = y := gIeq
    rw [w9]
    have d4 : rd (sI (sI σ' 0 4 0) 1 9 y) 0 4 = 0 := by rw [rdne (by omega), rdeq]; rfl
    have d9 : rd (sI (sI σ' 0 4 0) 1 9 y) 1 9 = ((t + 1 : Nat) : Int) := by rw [rdeq]; exact v9
    have dd : ∀ x k, x ≠ 0 → x ≠ 1 → rd (sI (sI σ' 0 4 0) 1 9 y) x k = rd σ' x k := fun x k p1 p2 => by rw [rdne p2, rdne p1]
    have f1 : Fr (FXx t) σ (sI (sI σ' 0 4 0) 1 9 y) := ((Fr_xx a).tr (Fr.sI (inS_r (lo := 4) (hi := 5) (by simp) (by omega)))).tr (Fr.sI (inS_r (lo := 9) (hi := 10) (by simp) (by omega)))
    generalize sI (sI σ' 0 4 0) 1 9 y = s1 at *
    have n2 : (gI s1 121 2).toInt = (t : Nat) := (f1.rd (FXx_no ⟨by omega, by omega, FTx_no (by omega)⟩)).trans ht2
    have c2 : (gI s1 121 2 = 4) = (t = 4) := by rw [ieq, n2, k4]; exact propext ⟨fun q => by omega, fun q => by omega⟩
    refine h _ s1 (f1.sm hsm) (fun Ψ hΨ => ?_)
    apply wM_text
    simp only [pI, pL, pR, pV, i10, ↓reduceIte, eM_text_0]
    rw [ix2]
    simp only [c2]
    rw [if_neg c]
    refine ⟨⟨by decide, by decide⟩, ?_⟩
    simp only [pI, pL, pR, pV, i10, ↓reduceIte, eM_text_12]
    refine ref s1 _ f1 (fun _ σm fm gm => ?_) (fun z => absurd q z)
    obtain ⟨t1, t2', t3, t4, t5⟩ := gm
    simp only [pI, pL, pR, pV, i10, ↓reduceIte, eM_text_17]
    have u5 : gI (sI σm 120 5 0) 120 5 = 0 := gIeq
    simp only [u5]
    try simp only [if_true]
    simp only [pI, pL, pR, pV, i10, ↓reduceIte, eM_text_36]
    have u5' : gI (sI (sI (sI σm 120 5 0) 120 6 (-1)) 120 4 0) 120 5 = 0 := by rw [gIne2 (by omega), gIne2 (by omega)]; exact u5
    simp only [u5']
    try simp only [if_true]
    simp only [pI, pL, pR, pV, i10, ↓reduceIte, eM_text_53]
    rw [ix2]
    have m2 : (gI (sI (sI (sI σm 120 5 0) 120 6 (-1)) 120 4 0) 121 2).toInt = (t : Nat) := by
      rw [gIne (by omega), gIne (by omega), gIne (by omega)]
      exact (fm.rd (FMx_no (by omega))).trans n2
    have v2 : (gI (sI (sI (sI σm 120 5 0) 120 6 (-1)) 120 4 0) 121 2 + 1).toInt = ((t + 1 : Nat) : Int) := by rw [tq1 _ (by omega), m2]; omega
    generalize gI (sI (sI (sI σm 120 5 0) 120 6 (-1)) 120 4 0) 121 2 + 1 = y2 at *
    have ey : y2 = y := eqv (by rw [v2, v9])
    have w2 : gI (sI (sI (sI (sI σm 120 5 0) 120 6 (-1)) 120 4 0) 121 2 y2) 121 2 = y2 := gIeq
    rw [w2, ey]
    rw [ey] at v2
    have k5 : rd (sI (sI (sI (sI σm 120 5 0) 120 6 (-1)) 120 4 0) 121 2 y) 120 5 = 0 := by rw [rdne (by omega), rdne2 (by omega), rdne2 (by omega), rdeq]; rfl
    have k6 : rd (sI (sI (sI (sI σm 120 5 0) 120 6 (-1)) 120 4 0) 121 2 y) 120 6 = -1 := by rw [rdne (by omega), rdne2 (by omega), rdeq]; rfl
    have k44 : rd (sI (sI (sI (sI σm 120 5 0) 120 6 (-1)) 120 4 0) 121 2 y) 120 4 = 0 := by rw [rdne (by omega), rdeq]; rfl
    have k22 : rd (sI (sI (sI (sI σm 120 5 0) 120 6 (-1)) 120 4 0) 121 2 y) 121 2 = ((t + 1 : Nat) : Int) := by rw [rdeq]; exact v2
    have kI : ∀ k, k ≠ 4 → k ≠ 5 → k ≠ 6 → gI (sI (sI (sI (sI σm 120 5 0) 120 6 (-1)) 120 4 0) 121 2 y) 120 k = gI σm 120 k := fun k p1 p2 p3 => by rw [gIne (by omega), gIne2 p1, gIne2 p3, gIne2 p2]
    have kO2 : ∀ x k, x ≠ 120 → x ≠ 121 → rd (sI (sI (sI (sI σm 120 5 0) 120 6 (-1)) 120 4 0) 121 2 y) x k = rd σm x k := fun x k p1 p2 => by rw [rdne p2, rdne p1, rdne p1, rdne p1]
    have f2 : Fr (FXm t) s1 (sI (sI (sI (sI σm 120 5 0) 120 6 (-1)) 120 4 0) 121 2 y) := by
      have j : ∀ k, 4 ≤ k ∧ k < 7 → inS (FXm t) 120 k = true := fun k hk => inS_r (lo := 4) (hi := 7) (by simp) hk
      exact ((((Fr_xm fm).tr (Fr.sI (j _ (by omega)))).tr (Fr.sI (j _ (by omega)))).tr (Fr.sI (j _ (by omega)))).tr (Fr.sI (inS_r (lo := 2) (hi := 3) (by simp) (by omega)))
    generalize sI (sI (sI (sI σm 120 5 0) 120 6 (-1)) 120 4 0) 121 2 y = s2 at *
    generalize hTT : txF L B 301 0 T0 = TT at *
    have hle := b3
    have hWf : ∀ l f ops, l < 5 → TT.2.2.2.2 l = some (f, ops) → ops.length ≤ 300 ∧ Wf l ops 0 0 (if l = 0 then 0 else 1) (if l = 0 then 1 else 0) := fun l f ops hl hq => by
      obtain ⟨⟨p1, p2, p3, p4⟩, p5, -⟩ := e.2.2.1 l f ops hl hq
      have : TT.2.2.2.1.length = p1.length + (ops.length + p2.length) := by rw [p3, List.length_append, List.length_append]
      have := e.2.1
      exact ⟨by omega, p5⟩
    refine ⟨⟨by decide, by decide⟩, ⟨by decide, by decide⟩, ⟨by decide, by decide⟩, ?_⟩
    refine hΨ s2 (f2.sm hsm2) ⟨fun t' l => if t' = t then (TT.2.2.2.2 l).map Prod.snd else lws t' l, R_text (b := 1) ht hR ht2 (Nat.le_refl 1) f1 f2 (by rw [nX s2 s1 f2 _ _ (by omega)]; exact d9) k22 ⟨by rw [nX s2 s1 f2 _ _ (by omega)]; exact d4, k44⟩ ?_ ?_ (fun t' ht' => funext (fun l => if_neg (by omega))) (fun _ => ?_) (fun t' l ops ht' hl hq => ?_)⟩
    · rw [nX s2 s1 f2 _ _ (by omega), dd _ _ (by omega) (by omega), b5, k5]
    · rw [nX s2 s1 f2 _ _ (by omega), dd _ _ (by omega) (by omega), b7, k6]
    · refine Tx1_new (i := TT.1.2.2) (T := TT.2) ht (by omega) (fun l => if_pos rfl) (TC.of (fun x k p1 p2 => ?_) b6) (TMb.of ht t4 (fun k hk => kI k (by omega) (by omega) (by omega)) (fun k _ _ => kO2 _ _ (by omega) (by omega)) ?_ e.1) (by rw [kO2 _ _ (by omega) (by omega)]; exact t5) e
      · rw [nX s2 s1 f2 _ _ (by omega), dd _ _ (by omega) (by omega)]
      · have := e.2.1
        omega
    · have hq : (if t' = t then (TT.2.2.2.2 l).map Prod.snd else lws t' l) = some ops := hq
      by_cases ct : t' = t
      · rw [if_pos ct] at hq
        cases hz : TT.2.2.2.2 l with
        | none =>
          rw [hz] at hq
          cases hq
        | some x =>
          rw [hz] at hq
          have hq : some x.2 = some ops := hq
          have hq := Option.some.inj hq
          have := hWf l x.1 x.2 hl hz
          rw [hq] at this
          exact this
      · rw [if_neg ct] at hq
        exact hR.2.2.1.2 t' l ops ht' hl hq
  · simp only [pI, pL, pR, pV, i10, ↓reduceIte, eX_text_36]
    try simp only [if_true]
    have d4 : rd (sI σ' 0 4 0) 0 4 = 0 := by rw [rdeq]; rfl
    have dd : ∀ x k, x ≠ 0 → rd (sI σ' 0 4 0) x k = rd σ' x k := fun x k p1 => by rw [rdne p1]
    have f1 : Fr (FXx t) σ (sI σ' 0 4 0) := (Fr_xx a).tr (Fr.sI (inS_r (lo := 4) (hi := 5) (by simp) (by omega)))
    have d9 : rd (sI σ' 0 4 0) 1 9 = (t : Nat) := by
      rw [dd _ _ (by omega), a.rd (FTx_no (by omega))]
      exact g9
    generalize sI σ' 0 4 0 = s1 at *
    have n2 : (gI s1 121 2).toInt = (t : Nat) := (f1.rd (FXx_no ⟨by omega, by omega, FTx_no (by omega)⟩)).trans ht2
    have c2 : (gI s1 121 2 = 4) = (t = 4) := by rw [ieq, n2, k4]; exact propext ⟨fun q => by omega, fun q => by omega⟩
    refine h _ s1 (f1.sm hsm) (fun Ψ hΨ => ?_)
    apply wM_text
    simp only [pI, pL, pR, pV, i10, ↓reduceIte, eM_text_0]
    rw [ix2]
    simp only [c2]
    rw [if_neg c]
    refine ⟨⟨by decide, by decide⟩, ?_⟩
    simp only [pI, pL, pR, pV, i10, ↓reduceIte, eM_text_12]
    refine ref s1 _ f1 (fun z => absurd z q) (fun _ σm v fm g8 gv => ?_)
    have vn : ¬ v = 0 := fun z => by
      rw [z] at gv
      exact q gv.symm
    simp only [pI, pL, pR, pV, i10, ↓reduceIte, eM_text_17]
    have u5 : gI (sI σm 120 5 v) 120 5 = v := gIeq
    simp only [u5]
    rw [if_neg vn]
    simp only [pI, pL, pR, pV, i10, ↓reduceIte, eM_text_32]
    have u8 : gI (sI σm 120 5 v) 120 8 = gI σm 120 8 := gIne2 (by omega)
    rw [u8]
    simp only [pI, pL, pR, pV, i10, ↓reduceIte, eM_text_36]
    have u5' : gI (sI (sI (sI σm 120 5 v) 120 6 (gI σm 120 8)) 120 4 0) 120 5 = v := by rw [gIne2 (by omega), gIne2 (by omega)]; exact u5
    simp only [u5']
    rw [if_neg vn]
    have k5 : rd (sI (sI (sI σm 120 5 v) 120 6 (gI σm 120 8)) 120 4 0) 120 5 = (txF L B 301 0 T0).1.1 := by rw [rdne2 (by omega), rdne2 (by omega), rdeq]; exact gv
    have k6 : rd (sI (sI (sI σm 120 5 v) 120 6 (gI σm 120 8)) 120 4 0) 120 6 = ((txF L B 301 0 T0).1.2.1 : Nat) := by rw [rdne2 (by omega), rdeq]; exact g8
    have k44 : rd (sI (sI (sI σm 120 5 v) 120 6 (gI σm 120 8)) 120 4 0) 120 4 = 0 := by rw [rdeq]; rfl
    have k22 : rd (sI (sI (sI σm 120 5 v) 120 6 (gI σm 120 8)) 120 4 0) 121 2 = (t : Nat) := by
      rw [rdne (by omega), rdne (by omega), rdne (by omega)]
      exact (fm.rd (FMx_no (by omega))).trans n2
    have f2 : Fr (FXm t) s1 (sI (sI (sI σm 120 5 v) 120 6 (gI σm 120 8)) 120 4 0) := by
      have j : ∀ k, 4 ≤ k ∧ k < 7 → inS (FXm t) 120 k = true := fun k hk => inS_r (lo := 4) (hi := 7) (by simp) hk
      exact (((Fr_xm fm).tr (Fr.sI (j _ (by omega)))).tr (Fr.sI (j _ (by omega)))).tr (Fr.sI (j _ (by omega)))
    generalize sI (sI (sI σm 120 5 v) 120 6 (gI σm 120 8)) 120 4 0 = s2 at *
    refine hΨ s2 (f2.sm hsm2) ⟨lws, R_text (b := 0) ht hR ht2 (Nat.zero_le 1) f1 f2 (by rw [nX s2 s1 f2 _ _ (by omega)]; exact d9) k22 ⟨by rw [nX s2 s1 f2 _ _ (by omega)]; exact d4, k44⟩ ?_ ?_ (fun t' _ => rfl) (fun z => absurd z (by decide)) hR.2.2.1.2⟩
    · rw [nX s2 s1 f2 _ _ (by omega), dd _ _ (by omega), b, k5]
    · rw [nX s2 s1 f2 _ _ (by omega), dd _ _ (by omega), e, k6]
