/-! A WORLD IS COPIED: both sides -/
theorem sM_copy {d : Nat} {Φ : Po} {σ0 : Sg} {a b : Nat} (ha : shp a = (2, 4016)) (hb : shp b = (2, 4016)) (h1 : Nat.beq a 94001 = false) (hab : a ≠ b) (h : ∀ σ' : Sg, Fr [(b, 0, 4016)] σ0 σ' → (∀ k, k < 4016 → gI σ' b k = gI σ0 a k) → Φ none σ') : wp true (d + 1) nM_copy [.ref a, .ref b] σ0 Φ := by
  have lp : ∀ (m i : Nat) (σ : Sg) (x : Int32), i + m = 4016 → x.toInt = i → Fr [(b, 0, 4016)] σ0 σ → (∀ k, k < i → gI σ b k = gI σ0 a k) → bM_copy_2 true NOB (wp true d) Φ (kM_copy d Φ) [.ref a, .ref b, .int x] [] σ := by
    intro m
    induction m with
    | zero =>
      intro i σ x hi hx hF hP
      simp only [pI, pL, pR, pV, i10, ↓reduceIte, eM_copy_2]
      simp only [ile, show (4016 : Int32).toInt = 4016 from rfl, hx]
      rw [if_pos (by omega)]
      simp only [pI, pL, pR, pV, i10, ↓reduceIte, eM_copy_21]
      obtain rfl : i = 4016 := by omega
      exact h σ hF hP
    | succ m ih =>
      intro i σ x hi hx hF hP
      simp only [pI, pL, pR, pV, i10, ↓reduceIte, eM_copy_2]
      have xi : ix x = i := ix_of hx
      simp only [ile, show (4016 : Int32).toInt = 4016 from rfl, hx]
      rw [if_neg (by omega)]
      simp only [o_iald, h1, ha, cond, lvx, Bool.true_or]
      refine ⟨⟨by omega, by omega⟩, ?_⟩
      rw [eM_copy_14]
      simp only [o_iast, hb, cond, lvx, Bool.true_or]
      refine ⟨⟨by omega, by omega⟩, ?_⟩
      simp only [pI, pL, pR, pV, i10, ↓reduceIte, eM_copy_15]
      rw [xi]
      refine hM_copy_2 _ _ _ _ _ (ih (i + 1) _ (x + 1) (by omega) (by rw [t1 (by omega), hx]; omega) (hF.tr (Fr.sI (inS_r (lo := 0) (hi := 4016) (by simp) (by omega)))) (fun k hk => ?_))
      have hsrc : gI σ a i = gI σ0 a i := hF.1 _ _ (not_inS (fun e he q => by
        rw [List.mem_singleton] at he
        subst he
        exact hab q.1.symm))
      by_cases z : k = i
      · rw [z, gIeq, hsrc]
      · rw [gIne2 z]
        exact hP k (by omega)
  apply wM_copy
  simp only [pI, pL, pR, pV, i10, ↓reduceIte, eM_copy_0]
  exact lp 4016 0 σ0 0 (by omega) rfl Fr.rf (fun k hk => absurd hk (by omega))
/-- the class's world: its ints -/
abbrev fW : Ls := (List.range 30).map (fun i => (4 + i, 0, 75)) ++ [(2, 0, 75), (1, 2, 5), (1, 6, 7), (1, 9, 12), (1, 14, 15), (1, 16, 17), (34, 0, 6), (35, 0, 6), (36, 0, 36), (37, 0, 8), (38, 0, 8), (39, 0, 5), (40, 0, 5)]
def fWt (b : Nat) : Ls := fW.map (fun e => (e.1 + b, e.2))
theorem fW_r : ∀ e, e ∈ fW → 1 ≤ e.1 ∧ e.1 ≤ 40 := by decide +kernel
theorem fWt_in {b x k : Nat} (h : inS fW x k = true) : inS (fWt b) (x + b) k = true := by
  obtain ⟨e, he, e1, e2, e3⟩ := inS_ex h
  obtain ⟨y, lo, hi⟩ := e
  have e1 : y = x := e1
  subst e1
  exact inS_r (lo := lo) (hi := hi) (List.mem_map.mpr ⟨_, he, rfl⟩) ⟨e2, e3⟩
theorem fWt_no {bt bs x k : Nat} (hb : (bs = 0 ∧ bt = 40) ∨ (bs = 40 ∧ bt = 0)) (hx : 1 ≤ x ∧ x ≤ 40) : inS (fWt bt) (x + bs) k = false := not_inS (fun e he q => by
  obtain ⟨f, hf, rfl⟩ := List.mem_map.mp he
  have := fW_r f hf
  have q1 : f.1 + bt = x + bs := q.1
  omega)
/-- the cells of S are copied -/
def Cp (bs bt : Nat) (S : Ls) (σ0 σ : Sg) : Prop := Fr (fWt bt) σ0 σ ∧ (∀ x k, (1 ≤ x ∧ x ≤ 40) → inS S x k = true → gI σ (x + bt) k = gI σ0 (x + bs) k)
theorem Cp.src {bs bt : Nat} {S : Ls} {σ0 σ : Sg} (hb : (bs = 0 ∧ bt = 40) ∨ (bs = 40 ∧ bt = 0)) (h : Cp bs bt S σ0 σ) {x k : Nat} (hx : 1 ≤ x ∧ x ≤ 40) : gI σ (x + bs) k = gI σ0 (x + bs) k := h.1.1 _ _ (fWt_no hb hx)
theorem inS_cons {e : Nat × Nat × Nat} {S : Ls} {x k : Nat} (h : inS (e :: S) x k = true) : (x = e.1 ∧ e.2.1 ≤ k ∧ k < e.2.2) ∨ inS S x k = true := by
  obtain ⟨f, hf, f1, f2, f3⟩ := inS_ex h
  rcases List.mem_cons.mp hf with rfl | hf
  · exact Or.inl ⟨f1.symm, f2, f3⟩
  · obtain ⟨y, lo, hi⟩ := f
    have f1 : y = x := f1
    subst f1
    exact Or.inr (inS_r hf ⟨f2, f3⟩)
theorem Cp.row {bs bt : Nat} {S : Ls} {σ0 σ : Sg} {x n : Nat} (hb : (bs = 0 ∧ bt = 40) ∨ (bs = 40 ∧ bt = 0)) (hx : 1 ≤ x ∧ x ≤ 40) (hi : ∀ k, k < n → inS fW x k = true) (h : Cp bs bt S σ0 σ) : Cp bs bt ((x, 0, n) :: S) σ0 (cpI σ (x + bs) 0 (x + bt) 0 n) := by
  refine ⟨h.1.tr (Fr.cp (fun k _ k2 => fWt_in (hi k (by omega)))), fun y k hy hk => ?_⟩
  by_cases z : y = x ∧ k < n
  · obtain ⟨rfl, zk⟩ := z
    rw [cp_at zk]
    exact h.src hb hx
  · have hs : inS S y k = true := by
      rcases inS_cons hk with q | q
      · exact absurd ⟨q.1, q.2.2⟩ z
      · exact q
    rw [gI_cpI]
    by_cases w : y + bt = x + bt
    · have : y = x := by omega
      subst this
      try rw [if_pos rfl]
      rw [if_neg (by omega)]
      exact h.2 y k hy hs
    · rw [if_neg w]
      exact h.2 y k hy hs
theorem Cp.fld {bs bt : Nat} {S : Ls} {σ0 σ : Sg} {j : Nat} (hb : (bs = 0 ∧ bt = 40) ∨ (bs = 40 ∧ bt = 0)) (hj : inS fW 1 j = true) (h : Cp bs bt S σ0 σ) : Cp bs bt ((1, j, j + 1) :: S) σ0 (sI σ (1 + bt) j (gI σ (1 + bs) j)) := by
  refine ⟨h.1.tr (Fr.sI (fWt_in hj)), fun y k hy hk => ?_⟩
  by_cases z : y = 1 ∧ k = j
  · obtain ⟨rfl, rfl⟩ := z
    rw [gIeq]
    exact h.src hb (by omega)
  · have hs : inS S y k = true := by
      rcases inS_cons hk with q | q
      · have q2 : j ≤ k := q.2.1
        have q3 : k < j + 1 := q.2.2
        exact absurd ⟨q.1, by omega⟩ z
      · exact q
    by_cases w : y = 1
    · subst w
      rw [gIne2 (by omega)]
      exact h.2 1 k hy hs
    · rw [gIne (by omega)]
      exact h.2 y k hy hs
