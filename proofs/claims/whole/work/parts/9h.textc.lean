/-! TEXTS: the next token, the class -/
/-- the token that is scanned from i -/
def CTk (L : Nat) (B : Nat → Int) (i : Nat) (σ : Sg) : Prop := rd σ 83 2 = tokP L B i ∧ rd σ 83 3 = tokE L B i ∧ gR σ 83 4 = 90000 + tokO L B i ∧ (0 ≤ rd σ 83 5 ∨ rd σ 83 5 < 0) ∧ (tokO L B i = 39 → rd σ 83 5 = tokN L B i)
theorem gR_sR2 {σ : Sg} {v : Nat} : gR (sR σ 83 4 v) 83 4 = v := by rw [gR_sR, if_pos ⟨rfl, rfl⟩]
theorem gI_sR2 {σ : Sg} {a k v x y : Nat} : gI (sR σ a k v) x y = gI σ x y := rfl
theorem frI {σ : Sg} {k : Nat} {v : Int32} (h : 2 ≤ k ∧ k < 6) : Fr FAv σ (sI σ 83 k v) := Fr.sI (inS_r (lo := 2) (hi := 6) (by simp) h)
theorem frR {σ : Sg} {v : Nat} : Fr FAv σ (sR σ 83 4 v) := Fr.sR (by decide)
theorem lR_number {d : Nat} {Φ : Po} {L : Nat} {B : Nat → Int} {σ0 : Sg} {E : Nat} {N : Int} (h : ∀ σ' : Sg, Fr FAv σ0 σ' → TpC L B σ' → rd σ' 83 2 = rd σ0 83 2 → rd σ' 83 3 = E → rd σ' 83 5 = N → gR σ' 83 4 = 90039 → Φ none σ') :
    ∀ (n i : Nat) (a : Int) (σ : Sg), n = L - i → i ≤ L → Fr FAv σ0 σ → TpC L B σ → rd σ 83 2 = rd σ0 83 2 → rd σ 83 3 = i → rd σ 83 5 = a → 0 ≤ a ∧ a ≤ 10000 → gR σ 83 4 = 90039 → dgF B n i = E → nmF B n i a = N → bR_readNumber_12 true NOB (wp true (d + 2)) Φ (kR_readNumber (d + 2) Φ) [.ref 83] [] σ := by
  intro n
  induction n with
  | zero =>
    intro i a σ hn hi hF g h2 h3 h5 ha h4 hE hN
    have g1 : (gI σ 83 1).toInt = L := g.2.1
    have g3 : (gI σ 83 3).toInt = i := h3
    simp only [pI, pL, pR, pV, i10, ↓reduceIte, eR_readNumber_12]
    simp only [ile, g1, g3]
    rw [if_pos (by omega)]
    simp only [pI, pL, pR, pV, i10, ↓reduceIte, eR_readNumber_81]
    exact h σ hF g h2 (by rw [h3]; exact congrArg _ hE) (by rw [h5]; exact hN) h4
  | succ n ih =>
    intro i a σ hn hi hF g h2 h3 h5 ha h4 hE hN
    have hT := g.1
    have hL := hT.1
    have g1 : (gI σ 83 1).toInt = L := g.2.1
    have g3 : (gI σ 83 3).toInt = i := h3
    have g5 : (gI σ 83 5).toInt = a := h5
    have i3 : ix (gI σ 83 3) = i := ix_of g3
    have hb : (gI σ 82 i).toInt = B i := g.2.2 i (by omega)
    have hE : (if isDg (B i) = true then dgF B n (i + 1) else i) = E := hE
    have hN : (if isDg (B i) = true then nmF B n (i + 1) (min 10000 (a * 10 + B i - 48)) else a) = N := hN
    simp only [pI, pL, pR, pV, i10, ↓reduceIte, eR_readNumber_12]
    simp only [ile, g1, g3]
    rw [if_neg (by omega), i3]
    refine ⟨⟨by omega, by omega⟩, ?_⟩
    refine sR_isDigit (fun z => ?_) (fun z => ?_)
    · rw [hb] at z
      rw [if_pos z] at hE hN
      rw [isDg_e] at z
      have l10 : (10 : Int32).toInt = 10 := rfl
      have l48 : (48 : Int32).toInt = 48 := rfl
      have lX : (10000 : Int32).toInt = 10000 := rfl
      have m1 : (gI σ 83 5 * 10).toInt = a * 10 := by rw [tX (by rw [g5, l10]; omega), g5, l10]
      have m2 : (gI σ 83 5 * 10 + gI σ 82 i).toInt = a * 10 + B i := by rw [tP (by rw [m1, hb]; omega), m1, hb]
      have m3 : (gI σ 83 5 * 10 + gI σ 82 i - 48).toInt = a * 10 + B i - 48 := by rw [tM (by rw [m2, l48]; omega), m2, l48]
      simp only [pI, pL, pR, pV, i10, ↓reduceIte, eR_readNumber_35]
      rw [i3]
      refine ⟨⟨by omega, by omega⟩, ?_⟩
      refine sJ_min (fun m hm => ?_)
      rw [m3, lX] at hm
      simp only [pI, pL, pR, pV, i10, ↓reduceIte, eR_readNumber_65]
      have hF2 : Fr FAv σ (sI (sI σ 83 5 m) 83 3 (gI (sI σ 83 5 m) 83 3 + 1)) := (frI (by omega)).tr (frI (by omega))
      refine hR_readNumber_12 _ _ _ _ _ (ih (i + 1) (min 10000 (a * 10 + B i - 48)) _ (by omega) (by omega) (hF.tr hF2) (g.fr hF2) ?_ ?_ ?_ (by omega) h4 hE hN)
      · rw [rdne2 (by omega), rdne2 (by omega)]; exact h2
      · rw [rdeq, gIne2 (by omega), tq1 _ (by omega), g3]; omega
      · rw [rdne2 (by omega), rdeq, hm]
    · rw [hb] at z
      rw [if_neg z] at hE hN
      simp only [pI, pL, pR, pV, i10, ↓reduceIte, eR_readNumber_35, eR_readNumber_81]
      exact h σ hF g h2 (by rw [h3]; exact congrArg _ hE) (by rw [h5]; exact hN) h4
theorem lR_letters {d : Nat} {Φ : Po} {L : Nat} {B : Nat → Int} {σ0 : Sg} {E : Nat} (h : ∀ σ' : Sg, Fr FAv σ0 σ' → TpC L B σ' → rd σ' 83 2 = rd σ0 83 2 → rd σ' 83 5 = rd σ0 83 5 → rd σ' 83 3 = E → bR_advance_143 true NOB (wp true (d + 6)) Φ (kR_advance (d + 6) Φ) [.ref 83, .retAddr 0] [] σ') :
    ∀ (n i : Nat) (σ : Sg), n = L - i → i ≤ L → Fr FAv σ0 σ → TpC L B σ → rd σ 83 2 = rd σ0 83 2 → rd σ 83 5 = rd σ0 83 5 → rd σ 83 3 = i → ltF B n i = E → bR_advance_104 true NOB (wp true (d + 6)) Φ (kR_advance (d + 6) Φ) [.ref 83, .retAddr 0] [] σ := by
  intro n
  induction n with
  | zero =>
    intro i σ hn hi hF g h2 h5 h3 hE
    have g1 : (gI σ 83 1).toInt = L := g.2.1
    have g3 : (gI σ 83 3).toInt = i := h3
    simp only [pI, pL, pR, pV, i10, ↓reduceIte, eR_advance_104]
    simp only [ile, g1, g3]
    rw [if_pos (by omega)]
    exact h σ hF g h2 h5 (by rw [h3]; exact congrArg _ hE)
  | succ n ih =>
    intro i σ hn hi hF g h2 h5 h3 hE
    have hT := g.1
    have hL := hT.1
    have g1 : (gI σ 83 1).toInt = L := g.2.1
    have g3 : (gI σ 83 3).toInt = i := h3
    have i3 : ix (gI σ 83 3) = i := ix_of g3
    have hb : (gI σ 82 i).toInt = B i := g.2.2 i (by omega)
    have hE : (if isLt (B i) = true then ltF B n (i + 1) else i) = E := hE
    simp only [pI, pL, pR, pV, i10, ↓reduceIte, eR_advance_104]
    simp only [ile, g1, g3]
    rw [if_neg (by omega), i3]
    refine ⟨⟨by omega, by omega⟩, ?_⟩
    refine sR_isLetter (fun z => ?_) (fun z => ?_)
    · rw [hb] at z
      rw [if_pos z] at hE
      simp only [pI, pL, pR, pV, i10, ↓reduceIte, eR_advance_127]
      have hF2 : Fr FAv σ (sI σ 83 3 (gI σ 83 3 + 1)) := frI (by omega)
      refine hR_advance_104 _ _ _ _ _ (ih (i + 1) _ (by omega) (by omega) (hF.tr hF2) (g.fr hF2) ?_ ?_ ?_ hE)
      · rw [rdne2 (by omega)]; exact h2
      · rw [rdne2 (by omega)]; exact h5
      · rw [rdeq, tq1 _ (by omega), g3]; omega
    · rw [hb] at z
      rw [if_neg z] at hE
      simp only [pI, pL, pR, pV, i10, ↓reduceIte, eR_advance_127]
      exact h σ hF g h2 h5 (by rw [h3]; exact congrArg _ hE)
theorem lR_skip {d : Nat} {Φ : Po} {L : Nat} {B : Nat → Int} {σ0 : Sg} {P : Nat} (h : ∀ σ' : Sg, Fr FAv σ0 σ' → TpC L B σ' → rd σ' 83 5 = rd σ0 83 5 → rd σ' 83 2 = P → bR_advance_60 true NOB (wp true (d + 6)) Φ (kR_advance (d + 6) Φ) [.ref 83, .retAddr 0] [] σ') :
    ∀ (n i : Nat) (σ : Sg), n = L - i → i ≤ L → Fr FAv σ0 σ → TpC L B σ → rd σ 83 5 = rd σ0 83 5 → rd σ 83 2 = i → skF B n i = P → bR_advance_8 true NOB (wp true (d + 6)) Φ (kR_advance (d + 6) Φ) [.ref 83, .retAddr 0] [] σ := by
  have k32 : (32 : Int32).toInt = 32 := rfl
  have k10 : (10 : Int32).toInt = 10 := rfl
  intro n
  induction n with
  | zero =>
    intro i σ hn hi hF g h5 h2 hP
    have g1 : (gI σ 83 1).toInt = L := g.2.1
    have g2 : (gI σ 83 2).toInt = i := h2
    simp only [pI, pL, pR, pV, i10, ↓reduceIte, eR_advance_8]
    simp only [ile, g1, g2]
    rw [if_pos (by omega)]
    exact h σ hF g h5 (by rw [h2]; exact congrArg _ hP)
  | succ n ih =>
    intro i σ hn hi hF g h5 h2 hP
    have hT := g.1
    have hL := hT.1
    have g1 : (gI σ 83 1).toInt = L := g.2.1
    have g2 : (gI σ 83 2).toInt = i := h2
    have i2 : ix (gI σ 83 2) = i := ix_of g2
    have hb : (gI σ 82 i).toInt = B i := g.2.2 i (by omega)
    have hP : (if isBl (B i) = true then skF B n (i + 1) else i) = P := hP
    have go : isBl (B i) = true → bR_advance_47 true NOB (wp true (d + 6)) Φ (kR_advance (d + 6) Φ) [.ref 83, .retAddr 0] [] σ := fun z => by
      rw [if_pos z] at hP
      simp only [pI, pL, pR, pV, i10, ↓reduceIte, eR_advance_47]
      have hF2 : Fr FAv σ (sI σ 83 2 (gI σ 83 2 + 1)) := frI (by omega)
      refine hR_advance_8 _ _ _ _ _ (ih (i + 1) _ (by omega) (by omega) (hF.tr hF2) (g.fr hF2) ?_ ?_ hP)
      · rw [rdne2 (by omega)]; exact h5
      · rw [rdeq, tq1 _ (by omega), g2]; omega
    rw [isBl_e] at go
    have ib : inb (gI σ 83 2) 300 := ⟨by omega, by omega⟩
    simp only [pI, pL, pR, pV, i10, ↓reduceIte, eR_advance_8]
    simp only [ile, g1, g2]
    rw [if_neg (by omega), i2]
    simp only [ieq, hb, k32, k10]
    refine ⟨ib, ?_⟩
    split
    next z => exact go (Or.inl z)
    next z =>
      refine ⟨ib, ?_⟩
      split
      next y => exact go (Or.inr y)
      next y =>
        rw [if_neg (by rw [isBl_e]; omega)] at hP
        exact h σ hF g h5 (by rw [h2]; exact congrArg _ hP)
theorem sR_advance {d : Nat} {Φ : Po} {L : Nat} {B : Nat → Int} {σ : Sg} {i : Nat} (g : TpC L B σ) (h3 : rd σ 83 3 = i) (hi : i ≤ L) (h5 : 0 ≤ rd σ 83 5 ∨ rd σ 83 5 < 0) (h : ∀ σ' : Sg, Fr FAv σ σ' → TpC L B σ' → CTk L B i σ' → Φ none σ') : wp true (d + 7) nR_advance [.ref 83] σ Φ := by
  have hT := g.1
  have hL := hT.1
  have kA : (60 : Int32).toInt = 60 := rfl
  have kB : (62 : Int32).toInt = 62 := rfl
  have kC : (61 : Int32).toInt = 61 := rfl
  obtain ⟨tp1, tp2⟩ := tokP_b (B := B) hi
  obtain ⟨te1, te2, te3⟩ := tokE_b hT hi
  have g3 : (gI σ 83 3).toInt = i := h3
  apply wR_advance
  simp only [pI, pL, pR, pV, i10, ↓reduceIte, eR_advance_0]
  have hF0 : Fr FAv σ (sI σ 83 2 (gI σ 83 3)) := frI (by omega)
  refine lR_skip (P := tokP L B i) (fun σ1 hF1 g1 k5 k2 => ?_) (L - i) i _ rfl hi hF0 (g.fr hF0) (rdne2 (by omega)) (by rw [rdeq]; exact h3) rfl
  have k2' : (gI σ1 83 2).toInt = tokP L B i := k2
  have l1 : (gI σ1 83 1).toInt = L := g1.2.1
  generalize hp : tokP L B i = p at *
  have eE : tokE L B i = endF L B p := by unfold tokE; rw [hp]
  have eO : tokO L B i = ordP L B p := by unfold tokO; rw [hp]
  rw [eE] at te1 te2 te3
  have eN : tokN L B i = nmF B (L - p) p 0 := by unfold tokN; rw [hp]
  simp only [pI, pL, pR, pV, i10, ↓reduceIte, eR_advance_60]
  rw [gIne2 (by omega), gIne2 (by omega)]
  simp only [ilt, k2', l1]
  have hF2 : Fr FAv σ1 (sI σ1 83 3 (gI σ1 83 2)) := frI (by omega)
  have g2 := g1.fr hF2
  have m2 : rd (sI σ1 83 3 (gI σ1 83 2)) 83 2 = p := by rw [rdne2 (by omega)]; exact k2
  have m3 : rd (sI σ1 83 3 (gI σ1 83 2)) 83 3 = p := by rw [rdeq]; exact k2
  have m5 : rd (sI σ1 83 3 (gI σ1 83 2)) 83 5 = rd σ 83 5 := by rw [rdne2 (by omega)]; exact k5
  have hFa := hF1.tr hF2
  generalize sI σ1 83 3 (gI σ1 83 2) = τ at *
  -- the end
  have fin : ∀ (σ' : Sg) (v1 : Value), Fr FAv σ σ' → TpC L B σ' → CTk L B i σ' → bR_advance_265 true NOB (wp true (d + 6)) Φ (kR_advance (d + 6) Φ) [.ref 83, v1] [] σ' := fun σ' v1 a b c => by
    simp only [pI, pL, pR, pV, i10, ↓reduceIte, eR_advance_265]
    exact h σ' a b c
  by_cases z : p < L
  · rw [if_pos (by omega)]
    have n1 : (gI τ 83 1).toInt = L := g2.2.1
    have n2 : (gI τ 83 2).toInt = p := m2
    have n3 : (gI τ 83 3).toInt = p := m3
    have ip : ix (gI τ 83 2) = p := ix_of n2
    have ib : inb (gI τ 83 2) 300 := ⟨by omega, by omega⟩
    have hb : (gI τ 82 p).toInt = B p := g2.2.2 p z
    have sE : endF L B p = if isLt (B p) = true then ltF B (L - p) p else if isDg (B p) = true then dgF B (L - p) p else if (B p = 60 ∨ B p = 62) ∧ B (p + 1) = 61 then p + 2 else p + 1 := by
      unfold endF
      rw [if_neg (by omega)]
    have sO : ordP L B p = if isDg (B p) = true then 39 else ordOf (mk (fun j => B (p + j)) (endF L B p - p)) := by
      unfold ordP
      rw [if_neg (by omega)]
    simp only [pI, pL, pR, pV, i10, ↓reduceIte, eR_advance_89]
    rw [ip]
    refine ⟨ib, ?_⟩
    refine sR_isLetter (fun y => ?_) (fun y => ?_)
    · rw [hb] at y
      have nd : ¬ isDg (B p) = true := by
        rw [isDg_e]
        rw [isLt_e] at y
        omega
      rw [if_pos y] at sE
      rw [if_neg nd] at sO
      simp only [pI, pL, pR, pV, i10, ↓reduceIte, eR_advance_101]
      refine lR_letters (E := endF L B p) (fun σ2 hF3 g3 q2 q5 q3 => ?_) (L - p) p τ rfl (by omega) Fr.rf g2 rfl rfl m3 sE.symm
      simp only [pI, pL, pR, pV, i10, ↓reduceIte, eR_advance_143]
      refine sR_spelled g3 (q2.trans m2) q3 (by omega) ?_
      simp only [pI, pL, pR, pV, i10, ↓reduceIte, eR_advance_148]
      refine fin _ _ ((hFa.tr hF3).tr frR) (g3.fr frR) ⟨?_, ?_, ?_, ?_, fun q => ?_⟩
      · rw [rd_sR, q2, m2, hp]
      · rw [rd_sR, q3, eE]
      · rw [gR_sR2, eO, sO]
      · rw [rd_sR, q5, m5]; exact h5
      · rw [eO, sO] at q
        exfalso
        have key : ∀ l : List Int, l ≠ [] → ordOf l ≠ 39 := fun l hl e => by
          have h39 : ∀ n j, j + n = 42 → ordF l n j = 39 → spl 39 = l := fun n => by
            induction n with
            | zero =>
              intro j hj e2
              have : (41 : Nat) = 39 := e2
              omega
            | succ n ih2 =>
              intro j hj e2
              have e2 : (if spl j = l then j else ordF l n (j + 1)) = 39 := e2
              split at e2
              next e3 => rw [← e2]; exact e3
              next e3 => exact ih2 (j + 1) (by omega) e2
          have e4 := h39 42 0 rfl e
          have e5 : spl 39 = [] := by decide +kernel
          exact hl (by rw [← e4, e5])
        refine key _ ?_ q
        have hpe : p < endF L B p := te3 (by omega)
        obtain ⟨m, hm⟩ : ∃ m, endF L B p - p = m + 1 := ⟨endF L B p - p - 1, by omega⟩
        rw [hm]
        exact List.cons_ne_nil _ _
    · rw [hb] at y
      rw [if_neg y] at sE
      simp only [pI, pL, pR, pV, i10, ↓reduceIte, eR_advance_101, eR_advance_154]
      rw [ip]
      refine ⟨ib, ?_⟩
      refine sR_isDigit (fun x => ?_) (fun x => ?_)
      · rw [hb] at x
        rw [if_pos x] at sE sO
        simp only [pI, pL, pR, pV, i10, ↓reduceIte, eR_advance_166]
        apply wR_readNumber
        simp only [pI, pL, pR, pV, i10, ↓reduceIte, eR_readNumber_0]
        have hF4 : Fr FAv τ (sI (sR τ 83 4 90039) 83 5 0) := frR.tr (frI (by omega))
        refine lR_number (E := endF L B p) (N := nmF B (L - p) p 0) (fun σ2 hF3 g3 q2 q3 q5 q4 => ?_) (L - p) p 0 _ rfl (by omega) hF4 (g2.fr hF4) (by rw [rdne2 (by omega)]; rfl) (by rw [rdne2 (by omega)]; exact m3) (by rw [rdeq]; rfl) (by omega) (by rw [gR_sI]; exact gR_sR2) sE.symm rfl
        simp only [pI, pL, pR, pV, i10, ↓reduceIte, eR_advance_173]
        refine fin _ _ (hFa.tr hF3) g3 ⟨?_, ?_, ?_, ?_, fun q => ?_⟩
        · rw [q2, m2, hp]
        · rw [q3, eE]
        · rw [q4, eO, sO]
        · rw [q5]
          exact Or.inl (nmF_b (L - p) p 0 (by omega)).1
        · rw [q5, eN]
      · rw [hb] at x
        rw [if_neg x] at sE sO
        simp only [pI, pL, pR, pV, i10, ↓reduceIte, eR_advance_166]
        -- a sign
        have sign : ∀ (w : Int32) (W : Nat) (x1 : Int32), w.toInt = W → endF L B p = p + W → bR_advance_253 true NOB (wp true (d + 6)) Φ (kR_advance (d + 6) Φ) [.ref 83, .int x1] [.int w, .int (gI τ 83 3), .ref 83] τ := by
          intro w W x1 hw hE
          simp only [pI, pL, pR, pV, i10, ↓reduceIte, eR_advance_253]
          have hF4 : Fr FAv τ (sI τ 83 3 (gI τ 83 3 + w)) := frI (by omega)
          have e4 : (gI τ 83 3 + w).toInt = ((endF L B p : Nat) : Int) := by rw [tP (by rw [n3, hw]; omega), n3, hw, hE]; omega
          refine sR_spelled (g2.fr hF4) (by rw [rdne2 (by omega)]; exact m2) (by rw [rdeq]; exact e4) (by omega) ?_
          simp only [pI, pL, pR, pV, i10, ↓reduceIte, eR_advance_262]
          refine fin _ _ ((hFa.tr hF4).tr frR) ((g2.fr hF4).fr frR) ⟨?_, ?_, ?_, ?_, fun q => ?_⟩
          · rw [rd_sR, rdne2 (by omega), m2, hp]
          · rw [rd_sR, rdeq, e4, eE]
          · rw [gR_sR2, eO, sO]
          · rw [rd_sR, rdne2 (by omega), m5]; exact h5
          · rw [eO, sO, hE, show p + W - p = W from by omega] at q
            exfalso
            have hW : W = 1 ∨ W = 2 := by
              rw [hE] at sE
              by_cases c : (B p = 60 ∨ B p = 62) ∧ B (p + 1) = 61
              · rw [if_pos c] at sE; omega
              · rw [if_neg c] at sE; omega
            have key : ∀ l : List Int, l ≠ [] → ordOf l ≠ 39 := fun l hl e => by
              have h39 : ∀ n j, j + n = 42 → ordF l n j = 39 → spl 39 = l := fun n => by
                induction n with
                | zero =>
                  intro j hj e2
                  have : (41 : Nat) = 39 := e2
                  omega
                | succ n ih2 =>
                  intro j hj e2
                  have e2 : (if spl j = l then j else ordF l n (j + 1)) = 39 := e2
                  split at e2
                  next e3 => rw [← e2]; exact e3
                  next e3 => exact ih2 (j + 1) (by omega) e2
              have e4 := h39 42 0 rfl e
              have e5 : spl 39 = [] := by decide +kernel
              exact hl (by rw [← e4, e5])
            refine key _ ?_ q
            rcases hW with rfl | rfl <;> exact List.cons_ne_nil _ _
        have one : ¬ ((B p = 60 ∨ B p = 62) ∧ B (p + 1) = 61) → ∀ x1 : Int32, bR_advance_252 true NOB (wp true (d + 6)) Φ (kR_advance (d + 6) Φ) [.ref 83, .int x1] [.int (gI τ 83 3), .ref 83] τ := fun c x1 => by
          rw [if_neg c] at sE
          simp only [pI, pL, pR, pV, i10, ↓reduceIte, eR_advance_252]
          exact sign 1 1 x1 rfl sE
        have e21 : (gI τ 83 2 + 1).toInt = ((p + 1 : Nat) : Int) := by rw [tq1 _ (by omega), n2]; omega
        have i21 : ix (gI τ 83 2 + 1) = p + 1 := ix_of e21
        have ang : (B p = 60 ∨ B p = 62) → bR_advance_209 true NOB (wp true (d + 6)) Φ (kR_advance (d + 6) Φ) [.ref 83, .retAddr 0] [.int 1] τ := fun c => by
          simp only [pI, pL, pR, pV, i10, ↓reduceIte, eR_advance_209]
          simp only [ile, n1, e21]
          split
          next q => exact one (fun c2 => by have := hT.2.2 (p + 1) (by omega); omega) _
          next q =>
            have hb2 : (gI τ 82 (p + 1)).toInt = B (p + 1) := g2.2.2 (p + 1) (by omega)
            rw [i21]
            simp only [ieq, hb2, kC]
            refine ⟨⟨by omega, by omega⟩, ?_⟩
            split
            next q2 =>
              rw [if_pos ⟨c, q2⟩] at sE
              exact sign 2 2 _ rfl sE
            next q2 => exact one (fun c2 => q2 c2.2) _
        simp only [pI, pL, pR, pV, i10, ↓reduceIte, eR_advance_176]
        rw [ip]
        simp only [ieq, hb, kA, kB]
        refine ⟨ib, ?_⟩
        split
        next q =>
          simp only [pI, pL, pR, pV, i10, ↓reduceIte, eR_advance_204]
          exact ang (Or.inl q)
        next q =>
          refine ⟨ib, ?_⟩
          split
          next q2 =>
            simp only [pI, pL, pR, pV, i10, ↓reduceIte, eR_advance_204]
            exact ang (Or.inr q2)
          next q2 =>
            simp only [pI, pL, pR, pV, i10, ↓reduceIte, eR_advance_208, eR_advance_209]
            exact one (fun c => by omega) _
  · rw [if_neg (by omega)]
    have sE : endF L B p = p := by
      unfold endF
      rw [if_pos (by omega)]
    have sO : ordP L B p = 40 := by
      unfold ordP
      rw [if_pos (by omega)]
    refine fin _ _ (hFa.tr frR) (g2.fr frR) ⟨?_, ?_, ?_, ?_, fun q => ?_⟩
    · rw [rd_sR, m2, hp]
    · rw [rd_sR, m3, eE, sE]
    · rw [gR_sR2, eO, sO]
    · rw [rd_sR, m5]; exact h5
    · rw [eO, sO] at q
      omega
