/-! TEXTS: the reference behind a ONE -/
theorem sv_l0 {l : Nat} {st : List Int} (h : Sv l st) (q : (10 ≤ tp st ∧ tp st ≤ 15) ∨ (20 ≤ tp st ∧ tp st ≤ 22)) : l = 0 := by
  cases st with
  | nil =>
    rw [tp_nil] at q
    omega
  | cons o r =>
    obtain ⟨h1, -⟩ := h
    rw [tp_cons] at q
    unfold Okp at h1
    rcases h1 with h1 | ⟨h1, -⟩ | ⟨h1, -⟩ | ⟨h1, h2, -⟩ | ⟨h1, h2, -⟩ | ⟨h1, h2, -⟩ | ⟨h1, h2, -⟩
    · omega
    · omega
    · omega
    · exact h2
    · exact h2
    · exact h2
    · exact h2
theorem s5F {l : Nat} {st : List Int} (hS : Sv l st) (hW : Wv st) (h41 : tp st ≠ 41) : (tp (setl 5 st).1 = -1 ∨ tp (setl 5 st).1 = 40 ∨ (10 ≤ tp (setl 5 st).1 ∧ tp (setl 5 st).1 ≤ 15) ∨ (20 ≤ tp (setl 5 st).1 ∧ tp (setl 5 st).1 ≤ 22)) ∧ ((40 : Int) ∈ st ↔ tp (setl 5 st).1 = 40) ∧ (l ≠ 0 → tp (setl 5 st).1 = -1 ∨ tp (setl 5 st).1 = 40) := by
  obtain ⟨h1, h2⟩ := set5_top st hS hW h41
  have hS5 := (setl_sv (k := 5) st hS).1
  refine ⟨h1, ?_, fun q => ?_⟩
  · rw [h2]
    constructor
    · intro q
      rcases h1 with z | z | z | z
      · exact absurd q (no40 _ hS5 (Or.inl z))
      · exact z
      · exact absurd q (no40 _ hS5 (Or.inr (Or.inl z)))
      · exact absurd q (no40 _ hS5 (Or.inr (Or.inr z)))
    · intro q
      exact tp_in q (by decide)
  · rcases h1 with z | z | z | z
    · exact Or.inl z
    · exact Or.inr z
    · exact absurd (sv_l0 hS5 (Or.inl z)) q
    · exact absurd (sv_l0 hS5 (Or.inr z)) q
def bw (l o : Nat) (s : Int) : Int := if 29 ≤ o ∧ o ≤ 32 then (o : Int) - 25 else if l = 0 ∧ s ≠ 40 then (if 10 ≤ s ∧ s ≤ 15 then (if o = 21 then 21 else if o = 20 then 22 else -1) else if 23 ≤ o ∧ o ≤ 28 then (o : Int) - 13 else -1) else -1
theorem sM_compareOf {d : Nat} {Φ : Po} {L : Nat} {B : Nat → Int} {σ : Sg} {i : Nat} (hk : MTk L B i σ) (h : ∀ v : Int32, v.toInt = (if 23 ≤ tokO L B i ∧ tokO L B i ≤ 28 then ((tokO L B i : Nat) : Int) - 13 else -1) → Φ (some (.int v)) σ) : wp true (d + 1) nM_compareOf [.ref 120] σ Φ := by
  have e9 : (gI σ 120 9).toInt = rd σ 120 9 := rfl
  obtain ⟨s0, s1, ss⟩ := KW_sign hk.2.2.1
  have eO : ordP L B (tokP L B i) = tokO L B i := rfl
  have n : ∀ (o : Nat) (c : Int32) (z : Int), o ∈ sgL → kO o = z → c.toInt = z → (gI σ 120 9 = c) = (tokO L B i = o) := fun o c z h1 h2 h3 => by
    simp only [ieq, e9, h3]
    rw [← h2]
    exact propext (ss o h1)
  apply wM_compareOf
  simp only [pI, pL, pR, pV, i10, ↓reduceIte, eM_compareOf_0, eM_compareOf_14, eM_compareOf_27, eM_compareOf_41, eM_compareOf_54, eM_compareOf_68, eM_compareOf_82, eM_compareOf_83]
  simp only [n 23 60 60 (by decide) rfl rfl, n 24 4 4 (by decide) rfl rfl, n 25 62 62 (by decide) rfl rfl, n 26 5 5 (by decide) rfl rfl, n 27 61 61 (by decide) rfl rfl, n 28 35 35 (by decide) rfl rfl]
  by_cases c23 : tokO L B i = 23
  · rw [if_pos c23]
    exact h _ (by rw [c23]; rfl)
  rw [if_neg c23]
  by_cases c24 : tokO L B i = 24
  · rw [if_pos c24]
    exact h _ (by rw [c24]; rfl)
  rw [if_neg c24]
  by_cases c25 : tokO L B i = 25
  · rw [if_pos c25]
    exact h _ (by rw [c25]; rfl)
  rw [if_neg c25]
  by_cases c26 : tokO L B i = 26
  · rw [if_pos c26]
    exact h _ (by rw [c26]; rfl)
  rw [if_neg c26]
  by_cases c27 : tokO L B i = 27
  · rw [if_pos c27]
    exact h _ (by rw [c27]; rfl)
  rw [if_neg c27]
  by_cases c28 : tokO L B i = 28
  · rw [if_pos c28]
    exact h _ (by rw [c28]; rfl)
  rw [if_neg c28]
  exact h _ (by rw [if_neg (by omega)]; rfl)
theorem sM_betweenOf {d : Nat} {Φ : Po} {t L l i : Nat} {B : Nat → Int} {st : List Int} {cd : List (Int × Int)} {σ : Sg} (hk : MTk L B i σ) (hP : MPt t l st cd σ) (hS : Sv l st) (hW : Wv st) (h41 : tp st ≠ 41) (h160 : st.length ≤ 160) (h : ∀ v : Int32, v.toInt = bw l (tokO L B i) (tp (setl 5 st).1) → Φ (some (.int v)) σ) : wp true (d + 3) nM_betweenOf [.ref 120] σ Φ := by
  have e9 : (gI σ 120 9).toInt = rd σ 120 9 := rfl
  have k0 : (0 : Int32).toInt = 0 := rfl
  obtain ⟨q1, q2, q3⟩ := s5F hS hW h41
  obtain ⟨s0, s1, ss⟩ := KW_sign hk.2.2.1
  have eO : ordP L B (tokP L B i) = tokO L B i := rfl
  have n : ∀ (o : Nat) (c : Int32) (z : Int), o ∈ sgL → kO o = z → c.toInt = z → (gI σ 120 9 = c) = (tokO L B i = o) := fun o c z h1 h2 h3 => by
    simp only [ieq, e9, h3]
    rw [← h2]
    exact propext (ss o h1)
  have g19 : (gI σ 120 19).toInt = if l = 0 then 1 else 0 := hP.2.2.2.2.2.2.2
  have c19 : (gI σ 120 19 = 0) = (l ≠ 0) := by
    simp only [ieq, g19, k0]
    by_cases c : l = 0
    · rw [if_pos c]
      exact propext ⟨fun z => by omega, fun z => absurd c z⟩
    · rw [if_neg c]
      exact propext ⟨fun _ => c, fun _ => rfl⟩
  unfold bw at h
  apply wM_betweenOf
  simp only [pI, pL, pR, pV, i10, ↓reduceIte, eM_betweenOf_0]
  simp only [n 29 43 43 (by decide) rfl rfl]
  by_cases c29 : tokO L B i = 29
  · rw [if_pos c29]
    exact h _ (by rw [c29]; rfl)
  rw [if_neg c29]
  simp only [pI, pL, pR, pV, i10, ↓reduceIte, eM_betweenOf_11]
  simp only [n 30 45 45 (by decide) rfl rfl]
  by_cases c30 : tokO L B i = 30
  · rw [if_pos c30]
    exact h _ (by rw [c30]; rfl)
  rw [if_neg c30]
  simp only [pI, pL, pR, pV, i10, ↓reduceIte, eM_betweenOf_22]
  simp only [n 31 42 42 (by decide) rfl rfl]
  by_cases c31 : tokO L B i = 31
  · rw [if_pos c31]
    exact h _ (by rw [c31]; rfl)
  rw [if_neg c31]
  simp only [pI, pL, pR, pV, i10, ↓reduceIte, eM_betweenOf_34]
  simp only [n 32 47 47 (by decide) rfl rfl]
  by_cases c32 : tokO L B i = 32
  · rw [if_pos c32]
    exact h _ (by rw [c32]; rfl)
  rw [if_neg c32]
  rw [if_neg (by omega)] at h
  have no : ¬ (l = 0 ∧ tp (setl 5 st).1 ≠ 40) → bM_betweenOf_60 true NOB (wp true (d + 2)) Φ (kM_betweenOf (d + 2) Φ) [.ref 120] [] σ := fun q => by
    rw [if_neg q] at h
    simp only [pI, pL, pR, pV, i10, ↓reduceIte, eM_betweenOf_60]
    exact h _ rfl
  simp only [pI, pL, pR, pV, i10, ↓reduceIte, eM_betweenOf_46]
  simp only [c19]
  by_cases c : l ≠ 0
  · rw [if_pos c]
    exact no (fun z => c z.1)
  · rw [if_neg c]
    have c : l = 0 := by omega
    refine sM_isOpen hP h160 (fun z => ?_) (fun z => ?_)
    · simp only [pI, pL, pR, pV, i10, ↓reduceIte, eM_betweenOf_57]
      try rw [if_neg (by decide)]
      exact no (fun y => y.2 (q2.mp z))
    · have z' : tp (setl 5 st).1 ≠ 40 := fun y => z (q2.mpr y)
      rw [if_pos ⟨c, z'⟩] at h
      simp only [pI, pL, pR, pV, i10, ↓reduceIte, eM_betweenOf_57]
      try simp only [if_true]
      simp only [pI, pL, pR, pV, i10, ↓reduceIte, eM_betweenOf_62]
      refine sM_isCompared hP (Sv_ops hS) h160 (fun y => ?_) (fun y => ?_)
      · rw [if_pos y] at h
        simp only [pI, pL, pR, pV, i10, ↓reduceIte, eM_betweenOf_66]
        try rw [if_neg (by decide)]
        simp only [pI, pL, pR, pV, i10, ↓reduceIte, eM_betweenOf_74]
        refine sM_w3 ?_
        simp only [pI, pL, pR, pV, i10, ↓reduceIte, eM_betweenOf_84]
        refine sM_isWord (o := 21) (by decide) wd21 hk (fun w => ?_) (fun w => ?_)
        · rw [if_pos w] at h
          simp only [pI, pL, pR, pV, i10, ↓reduceIte, eM_betweenOf_87]
          try rw [if_neg (by decide)]
          simp only [pI, pL, pR, pV, i10, ↓reduceIte, eM_betweenOf_115]
          exact h _ rfl
        · rw [if_neg w] at h
          simp only [pI, pL, pR, pV, i10, ↓reduceIte, eM_betweenOf_87]
          try simp only [if_true]
          simp only [pI, pL, pR, pV, i10, ↓reduceIte, eM_betweenOf_95]
          refine sM_w2 ?_
          simp only [pI, pL, pR, pV, i10, ↓reduceIte, eM_betweenOf_103]
          refine sM_isWord (o := 20) (by decide) wd20 hk (fun w2 => ?_) (fun w2 => ?_)
          · rw [if_pos w2] at h
            simp only [pI, pL, pR, pV, i10, ↓reduceIte, eM_betweenOf_106]
            try rw [if_neg (by decide)]
            simp only [pI, pL, pR, pV, i10, ↓reduceIte, eM_betweenOf_115]
            exact h _ rfl
          · rw [if_neg w2] at h
            simp only [pI, pL, pR, pV, i10, ↓reduceIte, eM_betweenOf_106]
            try simp only [if_true]
            simp only [pI, pL, pR, pV, i10, ↓reduceIte, eM_betweenOf_114, eM_betweenOf_115]
            exact h _ rfl
      · rw [if_neg y] at h
        simp only [pI, pL, pR, pV, i10, ↓reduceIte, eM_betweenOf_66]
        try simp only [if_true]
        refine sM_compareOf hk (fun v hv => ?_)
        simp only [pI, pL, pR, pV, i10, ↓reduceIte, eM_betweenOf_73]
        exact h v hv
/-- what bhF says, in the reference's order -/
theorem bh_op {l o : Nat} {st : List Int} (hS : Sv l st) (hW : Wv st) (h41 : tp st ≠ 41) (h : 0 ≤ bw l o (tp (setl 5 st).1)) : (bhF l o st).1 = 0 ∧ (bhF l o st).2.2.2 = 0 ∧ bw l o (tp (setl 5 st).1) ∈ opsL ∧ (rk (bw l o (tp (setl 5 st).1)) = 4 ∨ rk (bw l o (tp (setl 5 st).1)) = 5 ∨ rk (bw l o (tp (setl 5 st).1)) = 6 ∨ rk (bw l o (tp (setl 5 st).1)) = 1 ∨ rk (bw l o (tp (setl 5 st).1)) = 2) ∧ ∀ k, k = (if rk (bw l o (tp (setl 5 st).1)) = 4 then 5 else rk (bw l o (tp (setl 5 st).1))) → (bhF l o st).2.1 = bw l o (tp (setl 5 st).1) :: (setl k st).1 ∧ (bhF l o st).2.2.1 = (setl k st).2 := by
  obtain ⟨q1, q2, q3⟩ := s5F hS hW h41
  have two := fun (k : Int) (hk : k ≤ 5) => setl_two hk st
  have e : bhF l o st = if 29 ≤ o ∧ o ≤ 32 then (0, ((o : Int) - 25) :: (setl (rk ((o : Int) - 25)) st).1, (setl (rk ((o : Int) - 25)) st).2, 0) else
    if o = 37 ∧ tp (setl 5 st).1 = 40 then (0, (setl 7 (setl 5 st).1.tail).1, (setl 5 st).2 ++ (setl 7 (setl 5 st).1.tail).2, 1) else
    if (23 ≤ o ∧ o ≤ 28) ∧ l = 0 ∧ (tp (setl 5 st).1 = -1 ∨ (20 ≤ tp (setl 5 st).1 ∧ tp (setl 5 st).1 ≤ 22)) then (0, ((o : Int) - 13) :: (setl 5 st).1, (setl 5 st).2, 0) else
    if (o = 20 ∨ o = 21) ∧ (10 ≤ tp (setl 5 st).1 ∧ tp (setl 5 st).1 ≤ 15) then (0, (42 - (o : Int)) :: (setl (rk (42 - (o : Int))) (setl 5 st).1).1, (setl 5 st).2 ++ (setl (rk (42 - (o : Int))) (setl 5 st).1).2, 0) else
    if o = 38 ∧ (l = 0 ∧ (10 ≤ tp (setl 5 st).1 ∧ tp (setl 5 st).1 ≤ 15) ∨ l ≠ 0 ∧ tp (setl 5 st).1 = -1) then (0, (setl 1 (setl 5 st).1).1, (setl 5 st).2 ++ (setl 1 (setl 5 st).1).2, 2) else
    (1, (setl 5 st).1, (setl 5 st).2, 1) := if_neg h41
  rw [e]
  unfold bw at h ⊢
  generalize tp (setl 5 st).1 = s at *
  by_cases c1 : 29 ≤ o ∧ o ≤ 32
  · rw [if_pos c1, if_pos c1]
    have tb : ∀ o : Nat, o < 33 → 29 ≤ o → ((o : Int) - 25) ∈ opsL ∧ (rk ((o : Int) - 25) = 5 ∨ rk ((o : Int) - 25) = 6) := by decide
    obtain ⟨t1, t2⟩ := tb o (by omega) c1.1
    refine ⟨rfl, rfl, t1, by omega, fun k hk => ?_⟩
    rw [if_neg (by omega)] at hk
    rw [hk]
    exact ⟨rfl, rfl⟩
  rw [if_neg c1] at h ⊢
  rw [if_neg c1]
  by_cases c2 : l = 0 ∧ s ≠ 40
  · rw [if_pos c2] at h ⊢
    rw [if_neg (fun z => c2.2 z.2)]
    by_cases c3 : 10 ≤ s ∧ s ≤ 15
    · rw [if_pos c3] at h ⊢
      rw [if_neg (by omega)]
      by_cases c21 : o = 21
      · subst c21
        try rw [if_pos rfl]
        rw [if_pos ⟨Or.inr rfl, c3⟩]
        have r2 : rk 21 = 2 := by decide
        refine ⟨rfl, rfl, by decide, by omega, fun k hk => ?_⟩
        rw [if_neg (by omega), r2] at hk
        have e2 : (42 : Int) - ((21 : Nat) : Int) = 21 := rfl
        rw [hk, two 2 (by omega), e2, r2]
        exact ⟨rfl, rfl⟩
      · rw [if_neg c21] at h ⊢
        by_cases c20 : o = 20
        · subst c20
          try rw [if_pos rfl]
          rw [if_pos ⟨Or.inl rfl, c3⟩]
          have r1 : rk 22 = 1 := by decide
          refine ⟨rfl, rfl, by decide, by omega, fun k hk => ?_⟩
          rw [if_neg (by omega), r1] at hk
          have e2 : (42 : Int) - ((20 : Nat) : Int) = 22 := rfl
          rw [hk, two 1 (by omega), e2, r1]
          exact ⟨rfl, rfl⟩
        · rw [if_neg c20] at h
          omega
    · rw [if_neg c3] at h ⊢
      by_cases c4 : 23 ≤ o ∧ o ≤ 28
      · rw [if_pos c4]
        rw [if_pos (show (23 ≤ o ∧ o ≤ 28) ∧ l = 0 ∧ (s = -1 ∨ (20 ≤ s ∧ s ≤ 22)) from ⟨c4, c2.1, by omega⟩)]
        have tb : ∀ o : Nat, o < 29 → 23 ≤ o → ((o : Int) - 13) ∈ opsL ∧ rk ((o : Int) - 13) = 4 := by decide
        obtain ⟨t1, t2⟩ := tb o (by omega) c4.1
        refine ⟨rfl, rfl, t1, by omega, fun k hk => ?_⟩
        rw [if_pos t2] at hk
        rw [hk]
        exact ⟨rfl, rfl⟩
      · rw [if_neg c4] at h
        omega
  · rw [if_neg c2] at h
    omega
theorem bh_no {l o : Nat} {st : List Int} (hS : Sv l st) (hW : Wv st) (h41 : tp st ≠ 41) (h : bw l o (tp (setl 5 st).1) < 0) : (o = 37 ∧ tp (setl 5 st).1 = 40 → bhF l o st = (0, (setl 7 (setl 5 st).1.tail).1, (setl 5 st).2 ++ (setl 7 (setl 5 st).1.tail).2, 1)) ∧ (¬ (o = 37 ∧ tp (setl 5 st).1 = 40) → ((o = 38 ∧ tp (setl 5 st).1 ≠ 40 ∧ (l ≠ 0 ∨ (10 ≤ tp (setl 5 st).1 ∧ tp (setl 5 st).1 ≤ 15)) → bhF l o st = (0, (setl 1 st).1, (setl 1 st).2, 2)) ∧ (¬ (o = 38 ∧ tp (setl 5 st).1 ≠ 40 ∧ (l ≠ 0 ∨ (10 ≤ tp (setl 5 st).1 ∧ tp (setl 5 st).1 ≤ 15))) → (bhF l o st).1 = 1))) := by
  obtain ⟨q1, q2, q3⟩ := s5F hS hW h41
  have two := setl_two (show (1 : Int) ≤ 5 by decide) st
  have e : bhF l o st = if 29 ≤ o ∧ o ≤ 32 then (0, ((o : Int) - 25) :: (setl (rk ((o : Int) - 25)) st).1, (setl (rk ((o : Int) - 25)) st).2, 0) else
    if o = 37 ∧ tp (setl 5 st).1 = 40 then (0, (setl 7 (setl 5 st).1.tail).1, (setl 5 st).2 ++ (setl 7 (setl 5 st).1.tail).2, 1) else
    if (23 ≤ o ∧ o ≤ 28) ∧ l = 0 ∧ (tp (setl 5 st).1 = -1 ∨ (20 ≤ tp (setl 5 st).1 ∧ tp (setl 5 st).1 ≤ 22)) then (0, ((o : Int) - 13) :: (setl 5 st).1, (setl 5 st).2, 0) else
    if (o = 20 ∨ o = 21) ∧ (10 ≤ tp (setl 5 st).1 ∧ tp (setl 5 st).1 ≤ 15) then (0, (42 - (o : Int)) :: (setl (rk (42 - (o : Int))) (setl 5 st).1).1, (setl 5 st).2 ++ (setl (rk (42 - (o : Int))) (setl 5 st).1).2, 0) else
    if o = 38 ∧ (l = 0 ∧ (10 ≤ tp (setl 5 st).1 ∧ tp (setl 5 st).1 ≤ 15) ∨ l ≠ 0 ∧ tp (setl 5 st).1 = -1) then (0, (setl 1 (setl 5 st).1).1, (setl 5 st).2 ++ (setl 1 (setl 5 st).1).2, 2) else
    (1, (setl 5 st).1, (setl 5 st).2, 1) := if_neg h41
  rw [e]
  unfold bw at h
  generalize tp (setl 5 st).1 = s at *
  have c1 : ¬ (29 ≤ o ∧ o ≤ 32) := fun z => by
    rw [if_pos z] at h
    omega
  rw [if_neg c1] at h ⊢
  have c4 : ¬ ((23 ≤ o ∧ o ≤ 28) ∧ l = 0 ∧ (s = -1 ∨ (20 ≤ s ∧ s ≤ 22))) := fun z => by
    rw [if_pos (by omega), if_neg (by omega), if_pos (by omega)] at h
    omega
  have c5 : ¬ ((o = 20 ∨ o = 21) ∧ (10 ≤ s ∧ s ≤ 15)) := fun z => by
    have l0 : l = 0 := Classical.byContradiction (fun y => by have := q3 y; omega)
    rw [if_pos (by omega), if_pos z.2] at h
    rcases z.1 with y | y
    · rw [if_neg (by omega), if_pos y] at h
      omega
    · rw [if_pos y] at h
      omega
  refine ⟨fun q => by rw [if_pos q], fun q => ?_⟩
  rw [if_neg q, if_neg c4, if_neg c5]
  refine ⟨fun z => ?_, fun z => ?_⟩
  · have y : o = 38 ∧ (l = 0 ∧ (10 ≤ s ∧ s ≤ 15) ∨ l ≠ 0 ∧ s = -1) := by
      refine ⟨z.1, ?_⟩
      by_cases c : l = 0
      · exact Or.inl ⟨c, by omega⟩
      · have := q3 c
        exact Or.inr ⟨c, by omega⟩
    rw [if_pos y, two]
  · have y : ¬ (o = 38 ∧ (l = 0 ∧ (10 ≤ s ∧ s ≤ 15) ∨ l ≠ 0 ∧ s = -1)) := fun w => z (by
      refine ⟨w.1, ?_⟩
      rcases w.2 with v | v
      · exact ⟨by omega, Or.inr v.2⟩
      · exact ⟨by omega, Or.inl v.1⟩)
    rw [if_neg y]
