/-! TEXTS: the reference's tokens -/
theorem sM_isLetterByte {d : Nat} {Φ : Po} {σ : Sg} {x : Int32} (h1 : isLt x.toInt = true → Φ (some (.int 1)) σ) (h0 : ¬ isLt x.toInt = true → Φ (some (.int 0)) σ) : wp true (d + 1) nM_isLetterByte [.int x] σ Φ := by
  rw [isLt_e] at h1 h0
  have k1 : (97 : Int32).toInt = 97 := rfl
  have k2 : (122 : Int32).toInt = 122 := rfl
  have k3 : (65 : Int32).toInt = 65 := rfl
  have k4 : (90 : Int32).toInt = 90 := rfl
  apply wM_isLetterByte
  simp only [pI, pL, pR, pV, i10, ↓reduceIte, eM_isLetterByte_0, eM_isLetterByte_12, eM_isLetterByte_24, eM_isLetterByte_28, eM_isLetterByte_29]
  simp only [ilt, ile, k1, k2, k3, k4, cond, zB_1, zB_0]
  repeat' split
  all_goals first
    | exact h1 (by omega)
    | exact h0 (by omega)
theorem sM_isFigure {d : Nat} {Φ : Po} {σ : Sg} {x : Int32} (h1 : isDg x.toInt = true → Φ (some (.int 1)) σ) (h0 : ¬ isDg x.toInt = true → Φ (some (.int 0)) σ) : wp true (d + 1) nM_isFigure [.int x] σ Φ := by
  rw [isDg_e] at h1 h0
  have k1 : (48 : Int32).toInt = 48 := rfl
  have k2 : (57 : Int32).toInt = 57 := rfl
  apply wM_isFigure
  simp only [pI, pL, pR, pV, i10, ↓reduceIte, eM_isFigure_0, eM_isFigure_16, eM_isFigure_17]
  simp only [ilt, ile, k1, k2, cond, zB_1, zB_0]
  repeat' split
  all_goals first
    | exact h1 (by omega)
    | exact h0 (by omega)
theorem sM_isSign {d : Nat} {Φ : Po} {σ : Sg} {x : Int32} (h1 : x.toInt ∈ ([35, 40, 41, 42, 43, 45, 47, 58, 59, 60, 61, 62] : List Int) → Φ (some (.int 1)) σ) (h0 : ¬ x.toInt ∈ ([35, 40, 41, 42, 43, 45, 47, 58, 59, 60, 61, 62] : List Int) → Φ (some (.int 0)) σ) : wp true (d + 1) nM_isSign [.int x] σ Φ := by
  simp only [List.mem_cons, List.not_mem_nil, or_false] at h1 h0
  apply wM_isSign
  simp only [pI, pL, pR, pV, i10, ↓reduceIte, eM_isSign_0, eM_isSign_128, eM_isSign_130]
  generalize x.toInt = n at *
  by_cases c35 : n = 35
  · rw [if_pos c35]
    exact h1 (by omega)
  rw [if_neg c35]
  by_cases c36 : n = 36
  · rw [if_pos c36]
    exact h0 (by omega)
  rw [if_neg c36]
  by_cases c37 : n = 37
  · rw [if_pos c37]
    exact h0 (by omega)
  rw [if_neg c37]
  by_cases c38 : n = 38
  · rw [if_pos c38]
    exact h0 (by omega)
  rw [if_neg c38]
  by_cases c39 : n = 39
  · rw [if_pos c39]
    exact h0 (by omega)
  rw [if_neg c39]
  by_cases c40 : n = 40
  · rw [if_pos c40]
    exact h1 (by omega)
  rw [if_neg c40]
  by_cases c41 : n = 41
  · rw [if_pos c41]
    exact h1 (by omega)
  rw [if_neg c41]
  by_cases c42 : n = 42
  · rw [if_pos c42]
    exact h1 (by omega)
  rw [if_neg c42]
  by_cases c43 : n = 43
  · rw [if_pos c43]
    exact h1 (by omega)
  rw [if_neg c43]
  by_cases c44 : n = 44
  · rw [if_pos c44]
    exact h0 (by omega)
  rw [if_neg c44]
  by_cases c45 : n = 45
  · rw [if_pos c45]
    exact h1 (by omega)
  rw [if_neg c45]
  by_cases c46 : n = 46
  · rw [if_pos c46]
    exact h0 (by omega)
  rw [if_neg c46]
  by_cases c47 : n = 47
  · rw [if_pos c47]
    exact h1 (by omega)
  rw [if_neg c47]
  by_cases c48 : n = 48
  · rw [if_pos c48]
    exact h0 (by omega)
  rw [if_neg c48]
  by_cases c49 : n = 49
  · rw [if_pos c49]
    exact h0 (by omega)
  rw [if_neg c49]
  by_cases c50 : n = 50
  · rw [if_pos c50]
    exact h0 (by omega)
  rw [if_neg c50]
  by_cases c51 : n = 51
  · rw [if_pos c51]
    exact h0 (by omega)
  rw [if_neg c51]
  by_cases c52 : n = 52
  · rw [if_pos c52]
    exact h0 (by omega)
  rw [if_neg c52]
  by_cases c53 : n = 53
  · rw [if_pos c53]
    exact h0 (by omega)
  rw [if_neg c53]
  by_cases c54 : n = 54
  · rw [if_pos c54]
    exact h0 (by omega)
  rw [if_neg c54]
  by_cases c55 : n = 55
  · rw [if_pos c55]
    exact h0 (by omega)
  rw [if_neg c55]
  by_cases c56 : n = 56
  · rw [if_pos c56]
    exact h0 (by omega)
  rw [if_neg c56]
  by_cases c57 : n = 57
  · rw [if_pos c57]
    exact h0 (by omega)
  rw [if_neg c57]
  by_cases c58 : n = 58
  · rw [if_pos c58]
    exact h1 (by omega)
  rw [if_neg c58]
  by_cases c59 : n = 59
  · rw [if_pos c59]
    exact h1 (by omega)
  rw [if_neg c59]
  by_cases c60 : n = 60
  · rw [if_pos c60]
    exact h1 (by omega)
  rw [if_neg c60]
  by_cases c61 : n = 61
  · rw [if_pos c61]
    exact h1 (by omega)
  rw [if_neg c61]
  by_cases c62 : n = 62
  · rw [if_pos c62]
    exact h1 (by omega)
  rw [if_neg c62]
  exact h0 (by omega)
/-- the tape in the reference -/
def TpM (L : Nat) (B : Nat → Int) (σ : Sg) : Prop := Tp L B ∧ rd σ 120 4 = L ∧ ∀ i, i < L → rd σ 124 i = B i
abbrev FMt : Ls := [(120, 7, 12)]
theorem FMt_no {a k : Nat} (h : a ≠ 120 ∨ k < 7 ∨ 12 ≤ k) : inS FMt a k = false := not_inS (fun e he z => by
  rw [List.mem_singleton] at he
  subst he
  have z1 : 120 = a := z.1
  have z2 : 7 ≤ k := z.2.1
  have z3 : k < 12 := z.2.2
  omega)
theorem TpM.fr {L : Nat} {B : Nat → Int} {σ σ' : Sg} (h : Fr FMt σ σ') (g : TpM L B σ) : TpM L B σ' := ⟨g.1, by rw [h.rd (FMt_no (by omega))]; exact g.2.1, fun i hi => by
  rw [h.rd (FMt_no (by omega))]
  exact g.2.2 i hi⟩
theorem fmI {σ : Sg} {k : Nat} {v : Int32} (h : 7 ≤ k ∧ k < 12) : Fr FMt σ (sI σ 120 k v) := Fr.sI (inS_r (lo := 7) (hi := 12) (by simp) h)
theorem fmL {σ : Sg} {v : Int64} : Fr FMt σ (sL σ 120 11 v) := Fr.sL (by decide)
def MTk (L : Nat) (B : Nat → Int) (i : Nat) (σ : Sg) : Prop := rd σ 120 8 = tokP L B i ∧ rd σ 120 7 = tokE L B i ∧ KW L B (tokP L B i) (rd σ 120 9) (gL σ 120 11).toInt ∧ (tokO L B i = 39 → 0 ≤ rd σ 120 10 ∧ min 10000 (rd σ 120 10) = tokN L B i)
theorem sM_byteAt {d : Nat} {Φ : Po} {L : Nat} {B : Nat → Int} {σ : Sg} {i : Nat} {x1 : Int32} (g : TpM L B σ) (hx : x1.toInt = (i : Nat)) (h : ∀ v : Int32, v.toInt = B i → Φ (some (.int v)) σ) : wp true (d + 1) nM_byteAt [.ref 120, .int x1] σ Φ := by
  have hT := g.1
  have hL := hT.1
  have g4 : (gI σ 120 4).toInt = L := g.2.1
  apply wM_byteAt
  simp only [pI, pL, pR, pV, i10, ↓reduceIte, eM_byteAt_0]
  simp only [ile, g4, hx]
  by_cases q : L ≤ i
  · rw [if_pos (by omega)]
    simp only [pI, pL, pR, pV, i10, ↓reduceIte, eM_byteAt_17, eM_byteAt_18]
    exact h _ (by rw [hT.2.2 i q]; rfl)
  · rw [if_neg (by omega), show ix x1 = i from ix_of hx]
    refine ⟨⟨by omega, by omega⟩, ?_⟩
    simp only [pI, pL, pR, pV, i10, ↓reduceIte, eM_byteAt_18]
    exact h _ (g.2.2 i (by omega))
theorem hM_nextToken_0 (d : Nat) (Φ : Po) (ls st : List Value) (σ : Sg) (h : bM_nextToken_0 true NOB (wp true d) Φ (kM_nextToken d Φ) ls st σ) : kM_nextToken d Φ 0 ls st σ := Ev.i h
theorem lM_skip {d : Nat} {Φ : Po} {L : Nat} {B : Nat → Int} {σ0 : Sg} {P : Nat} (h : ∀ σ' : Sg, Fr FMt σ0 σ' → TpM L B σ' → rd σ' 120 7 = P → bM_nextToken_39 true NOB (wp true (d + 1)) Φ (kM_nextToken (d + 1) Φ) [.ref 120, .retAddr 0] [] σ') :
    ∀ (n i : Nat) (σ : Sg), n = L - i → i ≤ L → Fr FMt σ0 σ → TpM L B σ → rd σ 120 7 = i → skF B n i = P → bM_nextToken_0 true NOB (wp true (d + 1)) Φ (kM_nextToken (d + 1) Φ) [.ref 120, .retAddr 0] [] σ := by
  have k32 : (32 : Int32).toInt = 32 := rfl
  have k10 : (10 : Int32).toInt = 10 := rfl
  intro n
  induction n with
  | zero =>
    intro i σ hn hi hF g h7 hP
    have hb : B i = -1 := g.1.2.2 i (by omega)
    simp only [pI, pL, pR, pV, i10, ↓reduceIte, eM_nextToken_0]
    refine sM_byteAt g h7 (fun v hv => ?_)
    simp only [pI, pL, pR, pV, i10, ↓reduceIte, eM_nextToken_8]
    simp only [ieq, hv, k32]
    rw [if_neg (by omega)]
    refine sM_byteAt g h7 (fun v hv => ?_)
    simp only [pI, pL, pR, pV, i10, ↓reduceIte, eM_nextToken_21]
    simp only [ieq, hv, k10]
    rw [if_neg (by omega)]
    exact h σ hF g (by rw [h7]; exact congrArg _ hP)
  | succ n ih =>
    intro i σ hn hi hF g h7 hP
    have hL := g.1.1
    have g7 : (gI σ 120 7).toInt = i := h7
    have hP : (if isBl (B i) = true then skF B n (i + 1) else i) = P := hP
    have go : isBl (B i) = true → bM_nextToken_26 true NOB (wp true (d + 1)) Φ (kM_nextToken (d + 1) Φ) [.ref 120, .retAddr 0] [] σ := fun z => by
      rw [if_pos z] at hP
      simp only [pI, pL, pR, pV, i10, ↓reduceIte, eM_nextToken_26]
      have hF2 : Fr FMt σ (sI σ 120 7 (gI σ 120 7 + 1)) := fmI (by omega)
      refine hM_nextToken_0 _ _ _ _ _ (ih (i + 1) _ (by omega) (by omega) (hF.tr hF2) (g.fr hF2) ?_ hP)
      rw [rdeq, tq1 _ (by omega), g7]
      omega
    rw [isBl_e] at go
    simp only [pI, pL, pR, pV, i10, ↓reduceIte, eM_nextToken_0]
    refine sM_byteAt g h7 (fun v hv => ?_)
    simp only [pI, pL, pR, pV, i10, ↓reduceIte, eM_nextToken_8]
    simp only [ieq, hv, k32]
    by_cases z : B i = 32
    · rw [if_pos z]
      exact go (Or.inl z)
    · rw [if_neg z]
      refine sM_byteAt g h7 (fun v hv => ?_)
      simp only [pI, pL, pR, pV, i10, ↓reduceIte, eM_nextToken_21]
      simp only [ieq, hv, k10]
      by_cases y : B i = 10
      · rw [if_pos y]
        exact go (Or.inr y)
      · rw [if_neg y]
        rw [if_neg (by rw [isBl_e]; omega)] at hP
        exact h σ hF g (by rw [h7]; exact congrArg _ hP)
theorem lM_number {d : Nat} {Φ : Po} {L : Nat} {B : Nat → Int} {x1 : Int32} {σ0 : Sg} {E : Nat} {N : Int} (h : ∀ σ' : Sg, Fr FMt σ0 σ' → rd σ' 120 8 = rd σ0 120 8 → rd σ' 120 9 = rd σ0 120 9 → rd σ' 120 7 = E → 0 ≤ rd σ' 120 10 → min 10000 (rd σ' 120 10) = N → Φ none σ') :
    ∀ (n i : Nat) (a : Int) (σ : Sg), n = L - i → i ≤ L → Fr FMt σ0 σ → TpM L B σ → rd σ 120 8 = rd σ0 120 8 → rd σ 120 9 = rd σ0 120 9 → rd σ 120 7 = i → 0 ≤ rd σ 120 10 ∧ rd σ 120 10 ≤ 999999 → min 10000 (rd σ 120 10) = a → dgF B n i = E → nmF B n i a = N → bM_nextToken_85 true NOB (wp true (d + 1)) Φ (kM_nextToken (d + 1) Φ) [.ref 120, .int x1] [] σ := by
  have k99 : (99999 : Int32).toInt = 99999 := rfl
  have l10 : (10 : Int32).toInt = 10 := rfl
  have l48 : (48 : Int32).toInt = 48 := rfl
  intro n
  induction n with
  | zero =>
    intro i a σ hn hi hF g h8 h9 h7 hm ha hE hN
    have hb : B i = -1 := g.1.2.2 i (by omega)
    simp only [pI, pL, pR, pV, i10, ↓reduceIte, eM_nextToken_85]
    refine sM_byteAt g h7 (fun v hv => ?_)
    simp only [pI, pL, pR, pV, i10, ↓reduceIte, eM_nextToken_93]
    refine sM_isFigure (fun z => ?_) (fun _ => ?_)
    · rw [hv, hb] at z
      exact absurd z (by decide)
    · simp only [pI, pL, pR, pV, i10, ↓reduceIte, eM_nextToken_96]
      try simp only [if_true]
      simp only [pI, pL, pR, pV, i10, ↓reduceIte, eM_nextToken_310]
      exact h σ hF h8 h9 (by rw [h7]; exact congrArg _ hE) hm.1 (by rw [ha]; exact hN)
  | succ n ih =>
    intro i a σ hn hi hF g h8 h9 h7 hm ha hE hN
    have hL := g.1.1
    have g7 : (gI σ 120 7).toInt = i := h7
    have g10 : (gI σ 120 10).toInt = rd σ 120 10 := rfl
    have hE : (if isDg (B i) = true then dgF B n (i + 1) else i) = E := hE
    have hN : (if isDg (B i) = true then nmF B n (i + 1) (min 10000 (a * 10 + B i - 48)) else a) = N := hN
    simp only [pI, pL, pR, pV, i10, ↓reduceIte, eM_nextToken_85]
    refine sM_byteAt g h7 (fun v hv => ?_)
    simp only [pI, pL, pR, pV, i10, ↓reduceIte, eM_nextToken_93]
    refine sM_isFigure (fun z => ?_) (fun z => ?_)
    · rw [hv] at z
      rw [if_pos z] at hE hN
      rw [isDg_e] at z
      have go : ∀ m : Int32, (0 ≤ m.toInt ∧ m.toInt ≤ 999999) → min 10000 m.toInt = min 10000 (a * 10 + B i - 48) → bM_nextToken_135 true NOB (wp true (d + 1)) Φ (kM_nextToken (d + 1) Φ) [.ref 120, .int x1] [.int m, .ref 120] σ := fun m hm1 hm2 => by
        simp only [pI, pL, pR, pV, i10, ↓reduceIte, eM_nextToken_135]
        have hF2 : Fr FMt σ (sI (sI σ 120 10 m) 120 7 (gI (sI σ 120 10 m) 120 7 + 1)) := (fmI (by omega)).tr (fmI (by omega))
        refine hM_nextToken_85 _ _ _ _ _ (ih (i + 1) _ _ (by omega) (by omega) (hF.tr hF2) (g.fr hF2) ?_ ?_ ?_ ?_ ?_ hE hN)
        · rw [rdne2 (by omega), rdne2 (by omega)]; exact h8
        · rw [rdne2 (by omega), rdne2 (by omega)]; exact h9
        · rw [rdeq, gIne2 (by omega), tq1 _ (by omega), g7]; omega
        · rw [rdne2 (by omega), rdeq]; exact hm1
        · rw [rdne2 (by omega), rdeq]; exact hm2
      simp only [pI, pL, pR, pV, i10, ↓reduceIte, eM_nextToken_96]
      try rw [if_neg (by decide)]
      simp only [ile, g10, k99]
      by_cases c : rd σ 120 10 ≤ 99999
      · rw [if_pos c]
        simp only [pI, pL, pR, pV, i10, ↓reduceIte, eM_nextToken_116]
        refine sM_byteAt g h7 (fun w hw => ?_)
        simp only [pI, pL, pR, pV, i10, ↓reduceIte, eM_nextToken_131]
        have m1 : (10 * gI σ 120 10).toInt = 10 * rd σ 120 10 := by rw [tX (by rw [g10, l10]; omega), g10, l10]
        have m2 : (10 * gI σ 120 10 + w).toInt = 10 * rd σ 120 10 + B i := by rw [tP (by rw [m1, hw]; omega), m1, hw]
        have m3 : (10 * gI σ 120 10 + w - 48).toInt = 10 * rd σ 120 10 + B i - 48 := by rw [tM (by rw [m2, l48]; omega), m2, l48]
        exact go _ (by rw [m3]; omega) (by rw [m3]; omega)
      · rw [if_neg c]
        exact go _ (by rw [g10]; omega) (by rw [g10]; omega)
    · rw [hv] at z
      rw [if_neg z] at hE hN
      simp only [pI, pL, pR, pV, i10, ↓reduceIte, eM_nextToken_96]
      try simp only [if_true]
      simp only [pI, pL, pR, pV, i10, ↓reduceIte, eM_nextToken_310]
      exact h σ hF h8 h9 (by rw [h7]; exact congrArg _ hE) hm.1 (by rw [ha]; exact hN)
theorem lM_letters {d : Nat} {Φ : Po} {L : Nat} {B : Nat → Int} {x1 : Int32} {σ0 : Sg} {p E : Nat} (h : ∀ σ' : Sg, Fr FMt σ0 σ' → rd σ' 120 8 = rd σ0 120 8 → rd σ' 120 9 = rd σ0 120 9 → rd σ' 120 7 = E → (gL σ' 120 11).toInt = pkW (mk (fun j => B (p + j)) (E - p)) → Φ none σ') :
    ∀ (n i : Nat) (σ : Sg), n = L - i → p ≤ i → i ≤ L → (∀ j, p ≤ j → j < i → isLt (B j) = true) → Fr FMt σ0 σ → TpM L B σ → rd σ 120 8 = rd σ0 120 8 → rd σ 120 9 = rd σ0 120 9 → rd σ 120 7 = i → (gL σ 120 11).toInt = pkW (mk (fun j => B (p + j)) (i - p)) → ltF B n i = E → bM_nextToken_168 true NOB (wp true (d + 1)) Φ (kM_nextToken (d + 1) Φ) [.ref 120, .int x1] [] σ := by
  intro n
  induction n with
  | zero =>
    intro i σ hn hp hi hl hF g h8 h9 h7 hw hE
    have hb : B i = -1 := g.1.2.2 i (by omega)
    have hE : i = E := hE
    simp only [pI, pL, pR, pV, i10, ↓reduceIte, eM_nextToken_168]
    refine sM_byteAt g h7 (fun v hv => ?_)
    simp only [pI, pL, pR, pV, i10, ↓reduceIte, eM_nextToken_176]
    refine sM_isLetterByte (fun z => ?_) (fun _ => ?_)
    · rw [hv, hb] at z
      exact absurd z (by decide)
    · simp only [pI, pL, pR, pV, i10, ↓reduceIte, eM_nextToken_179]
      try simp only [if_true]
      simp only [pI, pL, pR, pV, i10, ↓reduceIte, eM_nextToken_310]
      exact h σ hF h8 h9 (by rw [h7, hE]) (by rw [hw, hE])
  | succ n ih =>
    intro i σ hn hp hi hl hF g h8 h9 h7 hw hE
    have hL := g.1.1
    have g7 : (gI σ 120 7).toInt = i := h7
    have hE : (if isLt (B i) = true then ltF B n (i + 1) else i) = E := hE
    simp only [pI, pL, pR, pV, i10, ↓reduceIte, eM_nextToken_168]
    refine sM_byteAt g h7 (fun v hv => ?_)
    simp only [pI, pL, pR, pV, i10, ↓reduceIte, eM_nextToken_176]
    refine sM_isLetterByte (fun z => ?_) (fun z => ?_)
    · rw [hv] at z
      rw [if_pos z] at hE
      have hz := isLt_b z
      have w0 := pkW_0 (mk (fun j => B (p + j)) (i - p)) (fun c hc => by
        obtain ⟨j, hj, e⟩ := mk_mem _ hc
        rw [e]
        exact isLt_b (hl _ (by omega) (by omega)))
      have eW : pkW (mk (fun j => B (p + j)) (i + 1 - p)) = if pkW (mk (fun j => B (p + j)) (i - p)) < 281474976710656 then pkW (mk (fun j => B (p + j)) (i - p)) * 256 + B i else 1152921504606846976 := by
        rw [show i + 1 - p = (i - p) + 1 from by omega]
        show (if pkW (mk (fun j => B (p + j)) (i - p)) < 281474976710656 then pkW (mk (fun j => B (p + j)) (i - p)) * 256 + B (p + (i - p)) else 1152921504606846976) = _
        rw [show p + (i - p) = i from by omega]
      have go : ∀ y : Int64, y.toInt = pkW (mk (fun j => B (p + j)) (i + 1 - p)) → bM_nextToken_218 true NOB (wp true (d + 1)) Φ (kM_nextToken (d + 1) Φ) [.ref 120, .int x1] [.long y, .ref 120] σ := fun y hy => by
        simp only [pI, pL, pR, pV, i10, ↓reduceIte, eM_nextToken_218]
        have hF2 : Fr FMt σ (sI (sL σ 120 11 y) 120 7 (gI (sL σ 120 11 y) 120 7 + 1)) := fmL.tr (fmI (by omega))
        have e7 : gI (sL σ 120 11 y) 120 7 = gI σ 120 7 := rfl
        refine hM_nextToken_168 _ _ _ _ _ (ih (i + 1) _ (by omega) (by omega) (by omega) (fun j h1 h2 => ?_) (hF.tr hF2) (g.fr hF2) ?_ ?_ ?_ ?_ hE)
        · by_cases c : j = i
          · rw [c]; exact z
          · exact hl j h1 (by omega)
        · rw [rdne2 (by omega)]; exact h8
        · rw [rdne2 (by omega)]; exact h9
        · rw [rdeq, e7, tq1 _ (by omega), g7]; omega
        · rw [gL_sI, gL_sL, if_pos ⟨rfl, rfl⟩]
          exact hy
      simp only [pI, pL, pR, pV, i10, ↓reduceIte, eM_nextToken_179]
      try rw [if_neg (by decide)]
      have c0 : (gL σ 120 11 >>> ((48 : Int32).toInt64 &&& 63) = 0) = (pkW (mk (fun j => B (p + j)) (i - p)) < 281474976710656) := (shr48 (by rw [hw]; exact w0.1)).trans (by rw [hw])
      simp only [lg_cmp_eq, c0]
      by_cases c : pkW (mk (fun j => B (p + j)) (i - p)) < 281474976710656
      · rw [if_pos c] at eW ⊢
        simp only [pI, pL, pR, pV, i10, ↓reduceIte, eM_nextToken_201]
        refine sM_byteAt g h7 (fun w hww => ?_)
        simp only [pI, pL, pR, pV, i10, ↓reduceIte, eM_nextToken_216]
        refine go _ ?_
        rw [shl8 (by rw [hw]; exact ⟨w0.1, c⟩) (by rw [hww]; omega), hw, hww, eW]
      · rw [if_neg c] at eW ⊢
        exact go _ (by rw [eW]; rfl)
    · rw [hv] at z
      rw [if_neg z] at hE
      simp only [pI, pL, pR, pV, i10, ↓reduceIte, eM_nextToken_179]
      try simp only [if_true]
      simp only [pI, pL, pR, pV, i10, ↓reduceIte, eM_nextToken_310]
      exact h σ hF h8 h9 (by rw [h7, hE]) (by rw [hw, hE])
