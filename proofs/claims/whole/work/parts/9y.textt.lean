/-! TEXTS: the reference's next token -/
theorem sM_nextToken {d : Nat} {Φ : Po} {L : Nat} {B : Nat → Int} {σ : Sg} {i : Nat} (g : TpM L B σ) (h7 : rd σ 120 7 = i) (hi : i ≤ L) (h : ∀ σ' : Sg, Fr FMt σ σ' → TpM L B σ' → MTk L B i σ' → Φ none σ') : wp true (d + 2) nM_nextToken [.ref 120] σ Φ := by
  have hT := g.1
  have hL := hT.1
  have k0 : (0 : Int32).toInt = 0 := rfl
  have k60 : (60 : Int32).toInt = 60 := rfl
  have k61 : (61 : Int32).toInt = 61 := rfl
  have k62 : (62 : Int32).toInt = 62 := rfl
  obtain ⟨tp1, tp2⟩ := tokP_b (B := B) hi
  obtain ⟨te1, te2, te3⟩ := tokE_b hT hi
  apply wM_nextToken
  refine lM_skip (P := tokP L B i) (fun σ1 hF1 g1 q7 => ?_) (L - i) i _ rfl hi Fr.rf g h7 rfl
  generalize hp : tokP L B i = p at *
  have eE : tokE L B i = endF L B p := by unfold tokE; rw [hp]
  have eO : tokO L B i = ordP L B p := by unfold tokO; rw [hp]
  have eN : tokN L B i = nmF B (L - p) p 0 := by unfold tokN; rw [hp]
  rw [eE] at te1 te2 te3
  have mk' : ∀ σ' : Sg, Fr FMt σ σ' → rd σ' 120 8 = p → rd σ' 120 7 = endF L B p → KW L B p (rd σ' 120 9) (gL σ' 120 11).toInt → (ordP L B p = 39 → 0 ≤ rd σ' 120 10 ∧ min 10000 (rd σ' 120 10) = nmF B (L - p) p 0) → Φ none σ' := fun σ' a b c e f => h σ' a (g.fr a) ⟨by rw [hp]; exact b, by rw [eE]; exact c, by rw [hp]; exact e, by rw [eO, eN]; exact f⟩
  have q7' : (gI σ1 120 7).toInt = p := q7
  simp only [pI, pL, pR, pV, i10, ↓reduceIte, eM_nextToken_39]
  have hF2 : Fr FMt σ1 (sI σ1 120 8 (gI σ1 120 7)) := fmI (by omega)
  have g2 := g1.fr hF2
  have m8 : rd (sI σ1 120 8 (gI σ1 120 7)) 120 8 = p := by rw [rdeq]; exact q7
  have m7 : rd (sI σ1 120 8 (gI σ1 120 7)) 120 7 = p := by rw [rdne2 (by omega)]; exact q7
  have hFa := hF1.tr hF2
  generalize sI σ1 120 8 (gI σ1 120 7) = τ at *
  refine sM_byteAt g2 m7 (fun v hv => ?_)
  simp only [pI, pL, pR, pV, i10, ↓reduceIte, eM_nextToken_55]
  simp only [ile, hv, k0]
  by_cases c1 : p < L
  · have hB := hT.2.1 p c1
    rw [if_pos hB.1]
    have e0 : endF L B p = if isLt (B p) = true then ltF B (L - p) p else if isDg (B p) = true then dgF B (L - p) p else if (B p = 60 ∨ B p = 62) ∧ B (p + 1) = 61 then p + 2 else p + 1 := by
      unfold endF
      rw [if_neg (by omega)]
    simp only [pI, pL, pR, pV, i10, ↓reduceIte, eM_nextToken_68]
    refine sM_isFigure (fun z => ?_) (fun z => ?_)
    · rw [hv] at z
      have nl : ¬ isLt (B p) = true := by
        rw [isDg_e] at z
        rw [isLt_e]
        omega
      rw [if_neg nl, if_pos z] at e0
      simp only [pI, pL, pR, pV, i10, ↓reduceIte, eM_nextToken_72]
      try rw [if_neg (by decide)]
      have hF3 : Fr FMt τ (sI (sI τ 120 9 1) 120 10 0) := (fmI (by omega)).tr (fmI (by omega))
      have e8 : rd (sI (sI τ 120 9 1) 120 10 0) 120 8 = p := by rw [rdne2 (by omega), rdne2 (by omega)]; exact m8
      have e7 : rd (sI (sI τ 120 9 1) 120 10 0) 120 7 = p := by rw [rdne2 (by omega), rdne2 (by omega)]; exact m7
      have e9 : rd (sI (sI τ 120 9 1) 120 10 0) 120 9 = 1 := by rw [rdne2 (by omega), rdeq]; rfl
      have e10 : rd (sI (sI τ 120 9 1) 120 10 0) 120 10 = 0 := by rw [rdeq]; rfl
      have g3 := g2.fr hF3
      have hFb := hFa.tr hF3
      generalize sI (sI τ 120 9 1) 120 10 0 = τ2 at *
      exact lM_number (σ0 := τ2) (E := endF L B p) (N := nmF B (L - p) p 0) (fun σ' a b c e f1 f2 => mk' σ' (hFb.tr a) (b.trans e8) e (Or.inr (Or.inr (Or.inl ⟨c1, nl, z, c.trans e9⟩))) (fun _ => ⟨f1, f2⟩)) (L - p) p 0 τ2 rfl (by omega) Fr.rf g3 rfl rfl e7 (by rw [e10]; exact ⟨by decide, by decide⟩) (by rw [e10]; rfl) e0.symm rfl
    · rw [hv] at z
      simp only [pI, pL, pR, pV, i10, ↓reduceIte, eM_nextToken_72]
      try simp only [if_true]
      simp only [pI, pL, pR, pV, i10, ↓reduceIte, eM_nextToken_151]
      refine sM_isLetterByte (fun y => ?_) (fun y => ?_)
      · rw [hv] at y
        rw [if_pos y] at e0
        simp only [pI, pL, pR, pV, i10, ↓reduceIte, eM_nextToken_155]
        try rw [if_neg (by decide)]
        have hF3 : Fr FMt τ (sL (sI τ 120 9 2) 120 11 0) := (fmI (by omega)).tr fmL
        have e8 : rd (sL (sI τ 120 9 2) 120 11 0) 120 8 = p := by
          show rd (sI τ 120 9 2) 120 8 = p
          rw [rdne2 (by omega)]; exact m8
        have e7 : rd (sL (sI τ 120 9 2) 120 11 0) 120 7 = p := by
          show rd (sI τ 120 9 2) 120 7 = p
          rw [rdne2 (by omega)]; exact m7
        have e9 : rd (sL (sI τ 120 9 2) 120 11 0) 120 9 = 2 := by
          show rd (sI τ 120 9 2) 120 9 = 2
          rw [rdeq]; rfl
        have e11 : (gL (sL (sI τ 120 9 2) 120 11 0) 120 11).toInt = 0 := by
          rw [gL_sL, if_pos ⟨rfl, rfl⟩]
          rfl
        have g3 := g2.fr hF3
        have hFb := hFa.tr hF3
        generalize sL (sI τ 120 9 2) 120 11 0 = τ2 at *
        refine lM_letters (σ0 := τ2) (p := p) (E := endF L B p) (fun σ' a b c e f => ?_) (L - p) p τ2 rfl (Nat.le_refl p) (by omega) (fun j h1 h2 => by omega) Fr.rf g3 rfl rfl e7 (by rw [e11, Nat.sub_self]; rfl) e0.symm
        have hk : KW L B p (rd σ' 120 9) (gL σ' 120 11).toInt := Or.inr (Or.inl ⟨c1, y, c.trans e9, f⟩)
        exact mk' σ' (hFb.tr a) (b.trans e8) e hk (fun q => by
          have := (KW_sign hk).2.1.mpr q
          rw [c, e9] at this
          omega)
      · rw [hv] at y
        rw [if_neg y, if_neg z] at e0
        simp only [pI, pL, pR, pV, i10, ↓reduceIte, eM_nextToken_155]
        try simp only [if_true]
        have fin : ∀ σ' : Sg, Fr FMt σ σ' → rd σ' 120 8 = p → rd σ' 120 7 = endF L B p → rd σ' 120 9 = sgn B p → bM_nextToken_310 true NOB (wp true (d + 1)) Φ (kM_nextToken (d + 1) Φ) [.ref 120, .int v] [] σ' := fun σ' a b c e => by
          simp only [pI, pL, pR, pV, i10, ↓reduceIte, eM_nextToken_310]
          have hk : KW L B p (rd σ' 120 9) (gL σ' 120 11).toInt := Or.inr (Or.inr (Or.inr ⟨c1, y, z, e⟩))
          refine mk' σ' a b c hk (fun q => ?_)
          have o := (KW_sign hk).2.1.mpr q
          rw [e] at o
          exfalso
          unfold sgn at o
          split at o
          · split at o <;> omega
          · split at o
            next w =>
              rw [o] at w
              exact absurd w (by decide)
            next => omega
        have v60 : (v = 60) = (B p = 60) := by rw [ieq, hv, k60]
        have v62 : (v = 62) = (B p = 62) := by rw [ieq, hv, k62]
        have rest : ∀ s : Int32, s.toInt = (if B p ∈ ([35, 40, 41, 42, 43, 45, 47, 58, 59, 60, 61, 62] : List Int) then B p else 3) → bM_nextToken_247 true NOB (wp true (d + 1)) Φ (kM_nextToken (d + 1) Φ) [.ref 120, .int v] [.int s, .ref 120] τ := fun s hs => by
          simp only [pI, pL, pR, pV, i10, ↓reduceIte, eM_nextToken_247]
          have hF3 : Fr FMt τ (sI (sI τ 120 9 s) 120 7 (gI (sI τ 120 9 s) 120 7 + 1)) := (fmI (by omega)).tr (fmI (by omega))
          have m7' : (gI τ 120 7).toInt = p := m7
          have e8 : rd (sI (sI τ 120 9 s) 120 7 (gI (sI τ 120 9 s) 120 7 + 1)) 120 8 = p := by rw [rdne2 (by omega), rdne2 (by omega)]; exact m8
          have e7 : rd (sI (sI τ 120 9 s) 120 7 (gI (sI τ 120 9 s) 120 7 + 1)) 120 7 = ((p + 1 : Nat) : Int) := by rw [rdeq, gIne2 (by omega), tq1 _ (by omega), m7']; omega
          have e9 : rd (sI (sI τ 120 9 s) 120 7 (gI (sI τ 120 9 s) 120 7 + 1)) 120 9 = (if B p ∈ ([35, 40, 41, 42, 43, 45, 47, 58, 59, 60, 61, 62] : List Int) then B p else 3) := by rw [rdne2 (by omega), rdeq]; exact hs
          have g3 := g2.fr hF3
          have hFb := hFa.tr hF3
          generalize sI (sI τ 120 9 s) 120 7 (gI (sI τ 120 9 s) 120 7 + 1) = τ2 at *
          have two : (B p = 60 ∨ B p = 62) → bM_nextToken_272 true NOB (wp true (d + 1)) Φ (kM_nextToken (d + 1) Φ) [.ref 120, .int v] [] τ2 := fun q => by
            simp only [pI, pL, pR, pV, i10, ↓reduceIte, eM_nextToken_272]
            refine sM_byteAt g3 e7 (fun u hu => ?_)
            simp only [pI, pL, pR, pV, i10, ↓reduceIte, eM_nextToken_280]
            simp only [ieq, hu, k61]
            by_cases c61 : B (p + 1) = 61
            · rw [if_pos c61]
              have qq : (B p = 60 ∨ B p = 62) ∧ B (p + 1) = 61 := ⟨q, c61⟩
              rw [if_pos qq] at e0
              have e7' : (gI τ2 120 7).toInt = ((p + 1 : Nat) : Int) := e7
              have last : ∀ s2 : Int32, s2.toInt = sgn B p → bM_nextToken_297 true NOB (wp true (d + 1)) Φ (kM_nextToken (d + 1) Φ) [.ref 120, .int v] [.int s2, .ref 120] τ2 := fun s2 hs2 => by
                simp only [pI, pL, pR, pV, i10, ↓reduceIte, eM_nextToken_297]
                refine fin _ (hFb.tr ((fmI (by omega)).tr (fmI (by omega)))) (by rw [rdne2 (by omega), rdne2 (by omega)]; exact e8) ?_ (by rw [rdne2 (by omega), rdeq]; exact hs2)
                rw [rdeq, gIne2 (by omega), tq1 _ (by omega), e7', e0]
                omega
              have es : sgn B p = if B p = 60 then 4 else 5 := if_pos qq
              simp only [hv, k60]
              by_cases c60 : B p = 60
              · rw [if_pos c60] at es ⊢
                exact last 4 es.symm
              · rw [if_neg c60] at es ⊢
                simp only [pI, pL, pR, pV, i10, ↓reduceIte, eM_nextToken_296]
                exact last 5 es.symm
            · rw [if_neg c61]
              have qq : ¬ ((B p = 60 ∨ B p = 62) ∧ B (p + 1) = 61) := fun w => c61 w.2
              rw [if_neg qq] at e0
              exact fin τ2 hFb e8 (by rw [e0]; exact e7) (by rw [e9]; exact (if_neg qq).symm)
          simp only [v60, v62]
          by_cases c60 : B p = 60
          · rw [if_pos c60]
            exact two (Or.inl c60)
          · rw [if_neg c60]
            by_cases c62 : B p = 62
            · rw [if_pos c62]
              exact two (Or.inr c62)
            · rw [if_neg c62]
              have qq : ¬ ((B p = 60 ∨ B p = 62) ∧ B (p + 1) = 61) := fun w => by omega
              rw [if_neg qq] at e0
              exact fin τ2 hFb e8 (by rw [e0]; exact e7) (by rw [e9]; exact (if_neg qq).symm)
        simp only [pI, pL, pR, pV, i10, ↓reduceIte, eM_nextToken_234]
        refine sM_isSign (fun q => ?_) (fun q => ?_)
        · rw [hv] at q
          simp only [pI, pL, pR, pV, i10, ↓reduceIte, eM_nextToken_239]
          try rw [if_neg (by decide)]
          exact rest v (by rw [if_pos q]; exact hv)
        · rw [hv] at q
          simp only [pI, pL, pR, pV, i10, ↓reduceIte, eM_nextToken_239]
          try simp only [if_true]
          simp only [pI, pL, pR, pV, i10, ↓reduceIte, eM_nextToken_246]
          exact rest 3 (by rw [if_neg q]; rfl)
  · have hb : B p = -1 := hT.2.2 p (by omega)
    rw [if_neg (by omega)]
    simp only [pI, pL, pR, pV, i10, ↓reduceIte, eM_nextToken_310]
    have eF : endF L B p = p := by
      unfold endF
      rw [if_pos (by omega)]
    have hk : KW L B p (rd (sI τ 120 9 0) 120 9) (gL (sI τ 120 9 0) 120 11).toInt := Or.inl ⟨by omega, by rw [rdeq]; rfl⟩
    refine mk' _ (hFa.tr (fmI (by omega))) (by rw [rdne2 (by omega)]; exact m8) (by rw [rdne2 (by omega), eF]; exact m7) hk (fun q => ?_)
    have o := (KW_sign hk).2.1.mpr q
    rw [rdeq] at o
    exact absurd o (by decide)
