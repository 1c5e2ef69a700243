/-! TEXTS: tokens, the class -/
def tokP (L : Nat) (B : Nat → Int) (i : Nat) : Nat := skF B (L - i) i
def endF (L : Nat) (B : Nat → Int) (p : Nat) : Nat := if L ≤ p then p else if isLt (B p) = true then ltF B (L - p) p else if isDg (B p) = true then dgF B (L - p) p else if (B p = 60 ∨ B p = 62) ∧ B (p + 1) = 61 then p + 2 else p + 1
def ordP (L : Nat) (B : Nat → Int) (p : Nat) : Nat := if L ≤ p then 40 else if isDg (B p) = true then 39 else ordOf (mk (fun j => B (p + j)) (endF L B p - p))
def tokE (L : Nat) (B : Nat → Int) (i : Nat) : Nat := endF L B (tokP L B i)
def tokO (L : Nat) (B : Nat → Int) (i : Nat) : Nat := ordP L B (tokP L B i)
def tokN (L : Nat) (B : Nat → Int) (i : Nat) : Int := nmF B (L - tokP L B i) (tokP L B i) 0
theorem skF_b {B : Nat → Int} : ∀ n i, i ≤ skF B n i ∧ skF B n i ≤ i + n
  | 0, i => ⟨Nat.le_refl _, Nat.le_refl _⟩
  | n + 1, i => by
    have := skF_b (B := B) n (i + 1)
    show i ≤ (if _ then _ else _) ∧ (if _ then _ else _) ≤ _
    split <;> omega
theorem ltF_b {B : Nat → Int} : ∀ n i, i ≤ ltF B n i ∧ ltF B n i ≤ i + n
  | 0, i => ⟨Nat.le_refl _, Nat.le_refl _⟩
  | n + 1, i => by
    have := ltF_b (B := B) n (i + 1)
    show i ≤ (if _ then _ else _) ∧ (if _ then _ else _) ≤ _
    split <;> omega
theorem dgF_b {B : Nat → Int} : ∀ n i, i ≤ dgF B n i ∧ dgF B n i ≤ i + n
  | 0, i => ⟨Nat.le_refl _, Nat.le_refl _⟩
  | n + 1, i => by
    have := dgF_b (B := B) n (i + 1)
    show i ≤ (if _ then _ else _) ∧ (if _ then _ else _) ≤ _
    split <;> omega
theorem nmF_b {B : Nat → Int} : ∀ n i a, 0 ≤ a ∧ a ≤ 10000 → 0 ≤ nmF B n i a ∧ nmF B n i a ≤ 10000
  | 0, i, a, h => h
  | n + 1, i, a, h => by
    show 0 ≤ (if isDg (B i) = true then nmF B n (i + 1) (min 10000 (a * 10 + B i - 48)) else a) ∧ (if isDg (B i) = true then nmF B n (i + 1) (min 10000 (a * 10 + B i - 48)) else a) ≤ 10000
    split
    next z =>
      rw [isDg_e] at z
      exact nmF_b n (i + 1) _ (by omega)
    next z => exact h
theorem tokP_b {L : Nat} {B : Nat → Int} {i : Nat} (hi : i ≤ L) : i ≤ tokP L B i ∧ tokP L B i ≤ L := by
  have := skF_b (B := B) (L - i) i
  unfold tokP
  omega
theorem endF_b {L : Nat} {B : Nat → Int} {p : Nat} (hT : Tp L B) (hp : p ≤ L) : p ≤ endF L B p ∧ endF L B p ≤ L ∧ (p < L → p < endF L B p) := by
  unfold endF
  by_cases h0 : L ≤ p
  · rw [if_pos h0]
    omega
  · rw [if_neg h0]
    by_cases h1 : isLt (B p) = true
    · rw [if_pos h1]
      obtain ⟨n, hn⟩ : ∃ n, L - p = n + 1 := ⟨L - p - 1, by omega⟩
      have := ltF_b (B := B) n (p + 1)
      rw [hn]
      show p ≤ (if isLt (B p) = true then _ else _) ∧ (if isLt (B p) = true then _ else _) ≤ _ ∧ (_ → p < (if isLt (B p) = true then _ else _))
      rw [if_pos h1]
      omega
    · rw [if_neg h1]
      by_cases h2 : isDg (B p) = true
      · rw [if_pos h2]
        obtain ⟨n, hn⟩ : ∃ n, L - p = n + 1 := ⟨L - p - 1, by omega⟩
        have := dgF_b (B := B) n (p + 1)
        rw [hn]
        show p ≤ (if isDg (B p) = true then _ else _) ∧ (if isDg (B p) = true then _ else _) ≤ _ ∧ (_ → p < (if isDg (B p) = true then _ else _))
        rw [if_pos h2]
        omega
      · rw [if_neg h2]
        split
        next z =>
          have : p + 1 < L := by
            apply Classical.byContradiction
            intro q
            have := hT.2.2 (p + 1) (by omega)
            omega
          omega
        next z => omega
theorem tokE_b {L : Nat} {B : Nat → Int} {i : Nat} (hT : Tp L B) (hi : i ≤ L) : tokP L B i ≤ tokE L B i ∧ tokE L B i ≤ L ∧ (tokP L B i < L → tokP L B i < tokE L B i) := endF_b hT (tokP_b hi).2
theorem ordF_b {l : List Int} : ∀ n i, i + n = 42 → ordF l n i < 42
  | 0, i, h => by show 41 < 42; omega
  | n + 1, i, h => by
    have := ordF_b (l := l) n (i + 1) (by omega)
    show (if _ then _ else _) < 42
    split <;> omega
theorem ordP_b {L : Nat} {B : Nat → Int} {p : Nat} : ordP L B p < 42 := by
  unfold ordP
  split
  · omega
  · split
    · omega
    · exact ordF_b 42 0 rfl
/-- the tape in the class -/
def TpC (L : Nat) (B : Nat → Int) (σ : Sg) : Prop := Tp L B ∧ rd σ 83 1 = L ∧ ∀ i, i < L → rd σ 82 i = B i
abbrev FAv : Ls := [(83, 2, 6)]
theorem TpC.fr {L : Nat} {B : Nat → Int} {σ σ' : Sg} (h : Fr FAv σ σ') (g : TpC L B σ) : TpC L B σ' := ⟨g.1, by rw [h.rd rfl]; exact g.2.1, fun i hi => by
  have e : inS FAv 82 i = false := not_inS (fun e he z => by
    rw [List.mem_singleton] at he
    subst he
    have : 83 = 82 := z.1
    omega)
  rw [h.rd e]
  exact g.2.2 i hi⟩
theorem sR_isLetter {d : Nat} {Φ : Po} {σ : Sg} {x : Int32} (h1 : isLt x.toInt = true → Φ (some (.int 1)) σ) (h0 : ¬ isLt x.toInt = true → Φ (some (.int 0)) σ) : wp true (d + 1) nR_isLetter [.int x] σ Φ := by
  rw [isLt_e] at h1 h0
  have k1 : (97 : Int32).toInt = 97 := rfl
  have k2 : (122 : Int32).toInt = 122 := rfl
  have k3 : (65 : Int32).toInt = 65 := rfl
  have k4 : (90 : Int32).toInt = 90 := rfl
  apply wR_isLetter
  simp only [pI, pL, pR, pV, i10, ↓reduceIte, eR_isLetter_0, eR_isLetter_12, eR_isLetter_24, eR_isLetter_28, eR_isLetter_29]
  simp only [ilt, ile, k1, k2, k3, k4, cond, zB_1, zB_0]
  repeat' split
  all_goals first
    | exact h1 (by omega)
    | exact h0 (by omega)
theorem sR_isDigit {d : Nat} {Φ : Po} {σ : Sg} {x : Int32} (h1 : isDg x.toInt = true → Φ (some (.int 1)) σ) (h0 : ¬ isDg x.toInt = true → Φ (some (.int 0)) σ) : wp true (d + 1) nR_isDigit [.int x] σ Φ := by
  rw [isDg_e] at h1 h0
  have k1 : (48 : Int32).toInt = 48 := rfl
  have k2 : (57 : Int32).toInt = 57 := rfl
  apply wR_isDigit
  simp only [pI, pL, pR, pV, i10, ↓reduceIte, eR_isDigit_0, eR_isDigit_16, eR_isDigit_17]
  simp only [ilt, ile, k1, k2, cond, zB_1, zB_0]
  repeat' split
  all_goals first
    | exact h1 (by omega)
    | exact h0 (by omega)
theorem sR_isSpelled {d : Nat} {Φ : Po} {L : Nat} {B : Nat → Int} {σ : Sg} {i p e : Nat} (g : TpC L B σ) (hi : i < 42) (hp : rd σ 83 2 = p) (he : rd σ 83 3 = e) (hpe : p ≤ e ∧ e ≤ L) (h1 : spl i = mk (fun j => B (p + j)) (e - p) → Φ (some (.int 1)) σ) (h0 : ¬ spl i = mk (fun j => B (p + j)) (e - p) → Φ (some (.int 0)) σ) : wp true (d + 5) nR_isSpelled [.ref 83, .ref (wfS (90000 + i))] σ Φ := by
  obtain ⟨-, k2, k3, k4, -, -⟩ := txK i hi
  have hT := g.1
  have hL := hT.1
  have g2 : (gI σ 83 2).toInt = p := hp
  have g3 : (gI σ 83 3).toInt = e := he
  have eS : (spl i = mk (fun j => B (p + j)) (e - p)) = (sl i = e - p ∧ ∀ j, j < e - p → sp i j = B (p + j)) := mk_eq
  rw [eS] at h1 h0
  have lp : sl i = e - p → ∀ (n j : Nat) (x2 : Int32), j + n = sl i → x2.toInt = j → (∀ m, m < j → sp i m = B (p + m)) → bR_isSpelled_20 true NOB (wp true (d + 4)) Φ (kR_isSpelled (d + 4) Φ) [.ref 83, .ref (wfS (90000 + i)), .int x2] [] σ := by
    intro hs n
    induction n with
    | zero =>
      intro j x2 hj h2 hm
      simp only [pI, pL, pR, pV, i10, ↓reduceIte, eR_isSpelled_20]
      rw [k2]
      simp only [cond]
      refine sS_length hi (fun r hr => ?_)
      simp only [pI, pL, pR, pV, i10, ↓reduceIte, eR_isSpelled_25]
      simp only [ile, hr, h2]
      rw [if_pos (by omega)]
      simp only [pI, pL, pR, pV, i10, ↓reduceIte, eR_isSpelled_55]
      exact h1 ⟨hs, fun m hm2 => hm m (by omega)⟩
    | succ n ih =>
      intro j x2 hj h2 hm
      have h21 : (x2 + 1).toInt = ((j + 1 : Nat) : Int) := by rw [tq1 x2 (by omega), h2]; omega
      have ej : (gI σ 83 2 + x2).toInt = ((p + j : Nat) : Int) := by rw [tP (by rw [g2, h2]; omega), g2, h2]; omega
      have ixj : ix (gI σ 83 2 + x2) = p + j := ix_of ej
      simp only [pI, pL, pR, pV, i10, ↓reduceIte, eR_isSpelled_20]
      rw [k2]
      simp only [cond]
      refine sS_length hi (fun r hr => ?_)
      simp only [pI, pL, pR, pV, i10, ↓reduceIte, eR_isSpelled_25]
      simp only [ile, hr, h2]
      rw [if_neg (by omega), k2]
      simp only [cond]
      refine sS_charAt hi (by omega) h2 (fun q hq => ?_)
      have hb : (gI σ 82 (p + j)).toInt = B (p + j) := g.2.2 _ (by omega)
      simp only [pI, pL, pR, pV, i10, ↓reduceIte, eR_isSpelled_33]
      rw [ixj]
      simp only [ieq, hq, hb]
      refine ⟨⟨by omega, by omega⟩, ?_⟩
      split
      next z =>
        simp only [pI, pL, pR, pV, i10, ↓reduceIte, eR_isSpelled_49]
        exact hR_isSpelled_20 _ _ _ _ _ (ih (j + 1) _ (by omega) h21 (fun m hm2 => by
          by_cases e : m = j
          · subst e; exact z
          · exact hm m (by omega)))
      next z => exact h0 (fun q => z (q.2 j (by omega)))
  apply wR_isSpelled
  simp only [pI, pL, pR, pV, i10, ↓reduceIte, eR_isSpelled_0]
  rw [k2]
  simp only [cond]
  refine sS_length hi (fun r hr => ?_)
  have e32 : (gI σ 83 3 - gI σ 83 2).toInt = (e : Int) - p := by rw [tM (by rw [g3, g2]; omega), g3, g2]
  simp only [pI, pL, pR, pV, i10, ↓reduceIte, eR_isSpelled_4]
  simp only [ieq, hr, e32]
  split
  next z =>
    simp only [pI, pL, pR, pV, i10, ↓reduceIte, eR_isSpelled_18]
    exact lp (by omega) (sl i) 0 0 (by omega) rfl (fun m hm => by omega)
  next z => exact h0 (fun q => z (by omega))
theorem sR_spelled {d : Nat} {Φ : Po} {L : Nat} {B : Nat → Int} {σ : Sg} {p e : Nat} (g : TpC L B σ) (hp : rd σ 83 2 = p) (he : rd σ 83 3 = e) (hpe : p ≤ e ∧ e ≤ L) (h : Φ (some (.ref (90000 + ordOf (mk (fun j => B (p + j)) (e - p))))) σ) : wp true (d + 6) nR_spelled [.ref 83] σ Φ := by
  have k42 : (42 : Int32).toInt = 42 := rfl
  have lp : ∀ (n i : Nat) (x1 : Int32), i + n = 42 → x1.toInt = i → ordF (mk (fun j => B (p + j)) (e - p)) n i = ordOf (mk (fun j => B (p + j)) (e - p)) → bR_spelled_2 true NOB (wp true (d + 5)) Φ (kR_spelled (d + 5) Φ) [.ref 83, .int x1] [] σ := by
    intro n
    induction n with
    | zero =>
      intro i x1 hi h1 hO
      simp only [pI, pL, pR, pV, i10, ↓reduceIte, eR_spelled_2]
      simp only [ile, h1, k42]
      rw [if_pos (by omega)]
      simp only [pI, pL, pR, pV, i10, ↓reduceIte, eR_spelled_37]
      rw [← hO] at h
      exact h
    | succ n ih =>
      intro i x1 hi h1 hO
      have hO : (if spl i = mk (fun j => B (p + j)) (e - p) then i else ordF (mk (fun j => B (p + j)) (e - p)) n (i + 1)) = ordOf (mk (fun j => B (p + j)) (e - p)) := hO
      have h11 : (x1 + 1).toInt = ((i + 1 : Nat) : Int) := by rw [tq1 x1 (by omega), h1]; omega
      have i1 : ix x1 = i := ix_of h1
      obtain ⟨k1, -⟩ := txK i (by omega)
      simp only [pI, pL, pR, pV, i10, ↓reduceIte, eR_spelled_2]
      simp only [ile, h1, k42]
      rw [if_neg (by omega), i1, k1]
      simp only [cond]
      refine ⟨⟨by omega, by omega⟩, ?_⟩
      refine sR_isSpelled g (by omega) hp he hpe (fun z => ?_) (fun z => ?_)
      · rw [if_pos z] at hO
        simp only [pI, pL, pR, pV, i10, ↓reduceIte, eR_spelled_22]
        rw [i1, hO]
        exact ⟨⟨by omega, by omega⟩, h⟩
      · rw [if_neg z] at hO
        simp only [pI, pL, pR, pV, i10, ↓reduceIte, eR_spelled_22, eR_spelled_31]
        exact hR_spelled_2 _ _ _ _ _ (ih (i + 1) _ (by omega) h11 hO)
  apply wR_spelled
  simp only [pI, pL, pR, pV, i10, ↓reduceIte, eR_spelled_0]
  exact lp 42 0 0 rfl rfl rfl
