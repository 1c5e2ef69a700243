/-! TEXTS: the reference looks into its pile -/
theorem m1y (p : Int32) (n : Nat) (h : p.toInt = n) (hn : n ≤ 1000) : (p + (-1)).toInt = (n : Int) - 1 := by
  have k : (-1 : Int32).toInt = -1 := rfl
  rw [tP (by rw [k, h]; omega), k, h]
  omega
theorem MStk_mem {σ : Sg} {x : Int} : ∀ st : List Int, MStk σ st → (x ∈ st ↔ ∃ k, k < st.length ∧ rd σ 125 k = x)
  | [], _ => ⟨fun h => (by cases h), fun ⟨k, h, _⟩ => absurd h (Nat.not_lt_zero k)⟩
  | o :: r, ⟨h1, h2⟩ => by
    have ih := MStk_mem (x := x) r h2
    rw [List.mem_cons, List.length_cons]
    constructor
    · intro q
      rcases q with q | q
      · exact ⟨r.length, by omega, by rw [h1, q]⟩
      · obtain ⟨k, hk, e⟩ := ih.mp q
        exact ⟨k, by omega, e⟩
    · rintro ⟨k, hk, e⟩
      by_cases z : k = r.length
      · subst z
        exact Or.inl (by rw [← e, h1])
      · exact Or.inr (ih.mpr ⟨k, by omega, e⟩)
theorem lM_isOpen {d : Nat} {Φ : Po} {σ : Sg} {st : List Int} (h16 : rd σ 120 16 = (st.length : Nat)) (hS : MStk σ st) (h160 : st.length ≤ 160) (h1 : (40 : Int) ∈ st → Φ (some (.int 1)) σ) (h0 : ¬ (40 : Int) ∈ st → Φ (some (.int 0)) σ) : ∀ (n j : Nat) (x1 : Int32), j + n = st.length → x1.toInt = (j : Nat) → (∀ k, k < j → rd σ 125 k ≠ 40) → bM_isOpen_2 true NOB (wp true d) Φ (kM_isOpen d Φ) [.ref 120, .int x1] [] σ := by
  have k40 : (40 : Int32).toInt = 40 := rfl
  have g16 : (gI σ 120 16).toInt = (st.length : Nat) := h16
  rw [MStk_mem st hS] at h1 h0
  intro n
  induction n with
  | zero =>
    intro j x1 hj hx hl
    simp only [pI, pL, pR, pV, i10, ↓reduceIte, eM_isOpen_2]
    simp only [ile, g16, hx]
    rw [if_pos (by omega)]
    simp only [pI, pL, pR, pV, i10, ↓reduceIte, eM_isOpen_29]
    exact h0 (fun ⟨k, hk, e⟩ => hl k (by omega) e)
  | succ n ih =>
    intro j x1 hj hx hl
    have hix : ix x1 = j := ix_of hx
    have ej : (gI σ 125 j).toInt = rd σ 125 j := rfl
    simp only [pI, pL, pR, pV, i10, ↓reduceIte, eM_isOpen_2]
    simp only [ile, g16, hx]
    rw [if_neg (by omega), hix]
    simp only [ieq, ej, k40]
    refine ⟨⟨by omega, by omega⟩, ?_⟩
    by_cases c : rd σ 125 j = 40
    · rw [if_pos c]
      exact h1 ⟨j, by omega, c⟩
    · rw [if_neg c]
      simp only [pI, pL, pR, pV, i10, ↓reduceIte, eM_isOpen_23]
      refine hM_isOpen_2 _ _ _ _ _ (ih (j + 1) _ (by omega) (by rw [tq1 _ (by omega), hx]; omega) (fun k hk => ?_))
      by_cases z : k = j
      · rw [z]; exact c
      · exact hl k (by omega)
theorem sM_isOpen {d : Nat} {Φ : Po} {t l : Nat} {σ : Sg} {st : List Int} {cd : List (Int × Int)} (hP : MPt t l st cd σ) (h160 : st.length ≤ 160) (h1 : (40 : Int) ∈ st → Φ (some (.int 1)) σ) (h0 : ¬ (40 : Int) ∈ st → Φ (some (.int 0)) σ) : wp true (d + 1) nM_isOpen [.ref 120] σ Φ := by
  apply wM_isOpen
  simp only [pI, pL, pR, pV, i10, ↓reduceIte, eM_isOpen_0]
  exact lM_isOpen hP.2.2.2.1 hP.2.2.2.2.1 h160 h1 h0 st.length 0 0 (by omega) rfl (fun k hk => absurd hk (Nat.not_lt_zero k))
/-- a top that compares, below words that bind more -/
theorem set5_c {o : Int} {r : List Int} : (4 < rk o → (setl 5 (o :: r)).1 = (setl 5 r).1) ∧ (¬ 4 < rk o → (setl 5 (o :: r)).1 = o :: r) := by
  have e : setl 5 (o :: r) = if 5 ≤ rk o then ((setl 5 r).1, (o, 0) :: (setl 5 r).2) else (o :: r, []) := rfl
  rw [e]
  exact ⟨fun q => by rw [if_pos (by omega)], fun q => by rw [if_neg (by omega)]⟩
theorem rk4 {o : Int} : rk o = 4 ↔ (10 ≤ o ∧ o ≤ 15) ∨ (16 ≤ o ∧ o ≤ 39 ∧ o ≠ 20 ∧ o ≠ 21 ∧ o ≠ 22) := by
  unfold rk
  repeat' split
  all_goals omega
theorem lM_isCompared {d : Nat} {Φ : Po} {σ : Sg} : ∀ (st : List Int) (x1 : Int32), MStk σ st → (∀ x, x ∈ st → x ∈ opsL) → st.length ≤ 160 → x1.toInt = (st.length : Int) - 1 → ((10 ≤ tp (setl 5 st).1 ∧ tp (setl 5 st).1 ≤ 15) → Φ (some (.int 1)) σ) → (¬ (10 ≤ tp (setl 5 st).1 ∧ tp (setl 5 st).1 ≤ 15) → Φ (some (.int 0)) σ) → bM_isCompared_7 true NOB (wp true (d + 1)) Φ (kM_isCompared (d + 1) Φ) [.ref 120, .int x1] [] σ := by
  have k4 : (4 : Int32).toInt = 4 := rfl
  have k0 : (0 : Int32).toInt = 0 := rfl
  intro st
  induction st with
  | nil =>
    intro x1 hS hv h160 hx h1 h0
    have hx : x1.toInt = -1 := hx
    simp only [pI, pL, pR, pV, i10, ↓reduceIte, eM_isCompared_7]
    simp only [ilt, hx, k0]
    rw [if_pos (by omega)]
    simp only [pI, pL, pR, pV, i10, ↓reduceIte, eM_isCompared_30]
    simp only [ilt, hx, k0]
    rw [if_pos (by omega)]
    simp only [pI, pL, pR, pV, i10, ↓reduceIte, eM_isCompared_51, eM_isCompared_52]
    simp only [cond, zB_0]
    exact h0 (fun q => by
      have q1 : (10 : Int) ≤ -1 := q.1
      omega)
  | cons o r ih =>
    intro x1 hS hv h160 hx h1 h0
    rw [List.length_cons] at hx h160
    have hx : x1.toInt = (r.length : Nat) := by omega
    have hix : ix x1 = r.length := ix_of hx
    have ho := hv o List.mem_cons_self
    have g125 : (gI σ 125 r.length).toInt = o := hS.1
    simp only [pI, pL, pR, pV, i10, ↓reduceIte, eM_isCompared_7]
    simp only [ilt, hx, k0]
    rw [if_neg (by omega), hix]
    refine ⟨⟨by omega, by omega⟩, ?_⟩
    refine sM_rank (by rw [g125]; exact ho) (fun v hv1 => ?_)
    rw [g125] at hv1
    simp only [pI, pL, pR, pV, i10, ↓reduceIte, eM_isCompared_20]
    simp only [ile, hv1, k4]
    by_cases c : rk o ≤ 4
    · rw [if_pos c]
      have e := (set5_c (o := o) (r := r)).2 (by omega)
      rw [e] at h1 h0
      have h1 : (10 ≤ o ∧ o ≤ 15) → Φ (some (.int 1)) σ := h1
      have h0 : ¬ (10 ≤ o ∧ o ≤ 15) → Φ (some (.int 0)) σ := h0
      simp only [pI, pL, pR, pV, i10, ↓reduceIte, eM_isCompared_30]
      simp only [ilt, hx, k0]
      rw [if_neg (by omega), hix]
      refine ⟨⟨by omega, by omega⟩, ?_⟩
      refine sM_rank (by rw [g125]; exact ho) (fun w hw => ?_)
      rw [g125] at hw
      simp only [pI, pL, pR, pV, i10, ↓reduceIte, eM_isCompared_43]
      simp only [ieq, hw, k4]
      have q4 : rk o = 4 ↔ (10 ≤ o ∧ o ≤ 15) := by
        have : ∀ x, x ∈ opsL → (rk x = 4 ↔ (10 ≤ x ∧ x ≤ 15)) := by decide
        exact this o ho
      by_cases c4 : rk o = 4
      · rw [if_pos c4]
        simp only [pI, pL, pR, pV, i10, ↓reduceIte, eM_isCompared_52]
        simp only [cond, zB_1]
        exact h1 (q4.mp c4)
      · rw [if_neg c4]
        simp only [pI, pL, pR, pV, i10, ↓reduceIte, eM_isCompared_51, eM_isCompared_52]
        simp only [cond, zB_0]
        exact h0 (fun z => c4 (q4.mpr z))
    · rw [if_neg c]
      have e := (set5_c (o := o) (r := r)).1 (by omega)
      rw [e] at h1 h0
      have hz := m1y x1 r.length hx (by omega)
      have h2 : r.length ≤ 160 := by omega
      generalize x1 + (-1) = x2 at hz
      exact hM_isCompared_7 _ _ _ _ _ (ih x2 hS.2 (fun x hx => hv x (List.mem_cons_of_mem _ hx)) h2 hz h1 h0)
theorem sM_isCompared {d : Nat} {Φ : Po} {t l : Nat} {σ : Sg} {st : List Int} {cd : List (Int × Int)} (hP : MPt t l st cd σ) (hv : ∀ x, x ∈ st → x ∈ opsL) (h160 : st.length ≤ 160) (h1 : (10 ≤ tp (setl 5 st).1 ∧ tp (setl 5 st).1 ≤ 15) → Φ (some (.int 1)) σ) (h0 : ¬ (10 ≤ tp (setl 5 st).1 ∧ tp (setl 5 st).1 ≤ 15) → Φ (some (.int 0)) σ) : wp true (d + 2) nM_isCompared [.ref 120] σ Φ := by
  have g16 : (gI σ 120 16).toInt = (st.length : Nat) := hP.2.2.2.1
  apply wM_isCompared
  simp only [pI, pL, pR, pV, i10, ↓reduceIte, eM_isCompared_0]
  refine lM_isCompared st _ hP.2.2.2.2.1 hv h160 ?_ h1 h0
  rw [tM (by rw [g16, tl1]; omega), g16, tl1]
theorem sM_isAskAhead {d : Nat} {Φ : Po} {t l : Nat} {σ : Sg} {st : List Int} {cd : List (Int × Int)} (hP : MPt t l st cd σ) (hS : Sv l st) (h160 : st.length ≤ 160) (h1 : (l = 0 ∧ (tp st = -1 ∨ (20 ≤ tp st ∧ tp st ≤ 22))) → Φ (some (.int 1)) σ) (h0 : ¬ (l = 0 ∧ (tp st = -1 ∨ (20 ≤ tp st ∧ tp st ≤ 22))) → Φ (some (.int 0)) σ) : wp true (d + 2) nM_isAskAhead [.ref 120] σ Φ := by
  have k0 : (0 : Int32).toInt = 0 := rfl
  have k1 : (1 : Int32).toInt = 1 := rfl
  have k3 : (3 : Int32).toInt = 3 := rfl
  obtain ⟨p1, p2, p3, p4, p5, p6, p7, p8⟩ := id hP
  have g19 : (gI σ 120 19).toInt = if l = 0 then 1 else 0 := p8
  have g16 : (gI σ 120 16).toInt = (st.length : Nat) := p4
  apply wM_isAskAhead
  simp only [pI, pL, pR, pV, i10, ↓reduceIte, eM_isAskAhead_0]
  simp only [ieq, g19, g16, k0]
  by_cases c : l = 0
  · rw [if_pos c, if_neg (by omega)]
    have fin : (tp st = -1 ∨ (20 ≤ tp st ∧ tp st ≤ 22)) → bM_isAskAhead_36 true NOB (wp true (d + 1)) Φ (kM_isAskAhead (d + 1) Φ) [.ref 120] [] σ := fun q => by
      simp only [pI, pL, pR, pV, i10, ↓reduceIte, eM_isAskAhead_36]
      refine sM_isOpen hP h160 (fun z => absurd z (no40 st hS (by omega))) (fun _ => ?_)
      simp only [pI, pL, pR, pV, i10, ↓reduceIte, eM_isAskAhead_40]
      try simp only [if_true]
      simp only [pI, pL, pR, pV, i10, ↓reduceIte, eM_isAskAhead_48]
      simp only [cond, zB_1]
      exact h1 ⟨c, q⟩
    cases st with
    | nil =>
      rw [if_pos (by rfl)]
      exact fin (Or.inl rfl)
    | cons o r =>
      rw [if_neg (by rw [List.length_cons]; omega)]
      rw [List.length_cons] at g16 h160
      have a16 : (gI σ 120 16 - 1).toInt = (r.length : Nat) := by rw [tM (by rw [g16, tl1]; omega), g16, tl1]; omega
      have i16 : ix (gI σ 120 16 - 1) = r.length := ix_of a16
      have g125 : (gI σ 125 r.length).toInt = o := p5.1
      rw [i16]
      generalize gI σ 120 16 - 1 = y at *
      refine ⟨⟨by omega, by omega⟩, ?_⟩
      have ho := ops_sv hS (List.mem_cons_self (a := o) (l := r))
      refine sM_rank (by rw [g125]; exact ho) (fun v hv1 => ?_)
      rw [g125] at hv1
      have r13 : (1 ≤ rk o ∧ rk o ≤ 3) ↔ (20 ≤ o ∧ o ≤ 22) := by
        have : ∀ x, x ∈ opsL → ((1 ≤ rk x ∧ rk x ≤ 3) ↔ (20 ≤ x ∧ x ≤ 22)) := by decide
        exact this o ho
      have om : o ≠ -1 := by
        have : ∀ x, x ∈ opsL → x ≠ -1 := by decide
        exact this o ho
      simp only [pI, pL, pR, pV, i10, ↓reduceIte, eM_isAskAhead_28]
      refine sM_isIn (fun q => ?_) (fun q => ?_)
      · rw [k1, k3, hv1] at q
        simp only [pI, pL, pR, pV, i10, ↓reduceIte, eM_isAskAhead_33]
        try rw [if_neg (by decide)]
        exact fin (Or.inr (r13.mp q))
      · rw [k1, k3, hv1] at q
        simp only [pI, pL, pR, pV, i10, ↓reduceIte, eM_isAskAhead_33]
        try simp only [if_true]
        simp only [pI, pL, pR, pV, i10, ↓reduceIte, eM_isAskAhead_47, eM_isAskAhead_48]
        simp only [cond, zB_0]
        refine h0 (fun z => ?_)
        have z2 : o = -1 ∨ (20 ≤ o ∧ o ≤ 22) := z.2
        rcases z2 with z2 | z2
        · exact om z2
        · exact q (r13.mpr z2)
  · rw [if_neg c]
    try rw [if_pos rfl]
    simp only [pI, pL, pR, pV, i10, ↓reduceIte, eM_isAskAhead_47, eM_isAskAhead_48]
    simp only [cond, zB_0]
    exact h0 (fun z => c z.1)
