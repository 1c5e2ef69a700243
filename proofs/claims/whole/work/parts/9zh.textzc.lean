/-! TEXTS: the reference reads a deed -/
theorem wrdT_f {L w : Nat} {B : Nat → Int} {r : Tr} (h : r.1 ≠ 0) : wrdT L B w r = r := if_pos h
theorem numT_f {L : Nat} {lo hi : Int} {B : Nat → Int} {r : Tr} (h : r.1 ≠ 0) : numT L B lo hi r = r := if_pos h
abbrev FMd (q : Nat) : Ls := [(120, 7, 12), (123, q, q + 4)]
theorem FMd_no {q a k : Nat} (h : (a ≠ 120 ∨ k < 7 ∨ 12 ≤ k) ∧ (a ≠ 123 ∨ k < q ∨ q + 4 ≤ k)) : inS (FMd q) a k = false := not_inS (fun e he z => by
  obtain ⟨z1, z2, z3⟩ := z
  rcases List.mem_cons.mp he with rfl | he
  · have z1 : 120 = a := z1
    have z2 : 7 ≤ k := z2
    have z3 : k < 12 := z3
    omega
  rw [List.mem_singleton] at he
  subst he
  have z1 : 123 = a := z1
  have z2 : q ≤ k := z2
  have z3 : k < q + 4 := z3
  omega)
theorem Fr_td {q : Nat} {σ σ' : Sg} (h : Fr FMt σ σ') : Fr (FMd q) σ σ' := h.cov (fun e he => by
  rw [List.mem_singleton] at he
  subst he
  exact ⟨(120, 7, 12), by simp, rfl, by decide, by decide⟩)
def DMt (L : Nat) (B : Nat → Int) (q : Nat) (σ0 : Sg) (i : Nat) (σ : Sg) : Prop := Fr (FMd q) σ0 σ ∧ TpM L B σ ∧ MTk L B i σ ∧ i ≤ L
def FDd (Φ : Po) (q : Nat) (σ0 : Sg) (f : Int) (p : Nat) : Prop := ∀ (σ' : Sg) (v : Int32), Fr (FMd q) σ0 σ' → rd σ' 120 8 = (p : Nat) → v.toInt = f → Φ (some (.int v)) σ'
theorem sM_figure {d : Nat} {Φ : Po} {L q i j : Nat} {B : Nat → Int} {lo hi : Int} {σ0 σ : Sg} {x1 x2 x3 : Int32} (g : DMt L B q σ0 i σ) (hj : j < 4) (hq : q + 4 ≤ 2820) (hx1 : x1.toInt = ((q + j : Nat) : Int)) (hx2 : x2.toInt = lo) (hx3 : x3.toInt = hi) (h99 : lo ≤ 9999 ∧ hi ≤ 9999)
    (h0 : (numT L B lo hi (0, 0, i)).1 = 0 → ∀ σ' : Sg, DMt L B q σ0 (numT L B lo hi (0, 0, i)).2.2 σ' → rd σ' 123 (q + j) = tokN L B i → (∀ k, k ≠ q + j → rd σ' 123 k = rd σ 123 k) → Φ (some (.int 0)) σ')
    (hf : (numT L B lo hi (0, 0, i)).1 ≠ 0 → FDd Φ q σ0 (numT L B lo hi (0, 0, i)).1 (numT L B lo hi (0, 0, i)).2.1) : wp true (d + 3) nM_figure [.ref 120, .int x1, .int x2, .int x3] σ Φ := by
  obtain ⟨hF, hT, hk, hi'⟩ := g
  have k1 : (1 : Int32).toInt = 1 := rfl
  have e9 : (gI σ 120 9).toInt = rd σ 120 9 := rfl
  have e10 : (gI σ 120 10).toInt = rd σ 120 10 := rfl
  have s1 := (KW_sign hk.2.2.1).2.1
  have eO : ordP L B (tokP L B i) = tokO L B i := rfl
  rw [eO] at s1
  have s1' : (gI σ 120 9 = 1) = (tokO L B i = 39) := by rw [ieq, e9, k1]; exact propext s1
  have eN : numT L B lo hi (0, 0, i) = if tokO L B i ≠ 39 then (1, tokP L B i, 0) else if tokN L B i < lo ∨ hi < tokN L B i then (2, tokP L B i, 0) else (0, 0, tokE L B i) := if_neg (by simp)
  rw [eN] at h0 hf
  apply wM_figure
  simp only [pI, pL, pR, pV, i10, ↓reduceIte, eM_figure_0]
  simp only [s1']
  by_cases c : tokO L B i = 39
  · rw [if_pos c]
    rw [if_neg (fun z => z c)] at h0 hf
    obtain ⟨n1, n2⟩ := hk.2.2.2 c
    simp only [pI, pL, pR, pV, i10, ↓reduceIte, eM_figure_10]
    refine sM_isIn (fun z => ?_) (fun z => ?_)
    · rw [hx2, hx3, e10] at z
      rw [if_neg (by omega)] at h0
      simp only [pI, pL, pR, pV, i10, ↓reduceIte, eM_figure_19]
      try rw [if_neg (by decide)]
      simp only [pI, pL, pR, pV, i10, ↓reduceIte, eM_figure_24]
      rw [show ix x1 = q + j from ix_of hx1]
      refine ⟨⟨by omega, by omega⟩, ?_⟩
      have hF1 : Fr (FMd q) σ (sI σ 123 (q + j) (gI σ 120 10)) := Fr.sI (inS_r (lo := q) (hi := q + 4) (by simp) (by omega))
      have ea : ∀ a k, a ≠ 123 → rd (sI σ 123 (q + j) (gI σ 120 10)) a k = rd σ a k := fun a k w => rdne w
      refine sM_nextToken (hT.e (ea _ _ (by omega)) (fun k _ => ea _ _ (by omega))) (by rw [ea _ _ (by omega)]; exact hk.2.1) (tokE_L hT.1 hi') (fun σ' a b e => ?_)
      simp only [pI, pL, pR, pV, i10, ↓reduceIte, eM_figure_38]
      refine h0 rfl σ' ⟨(hF.tr hF1).tr (Fr_td a), b, e, tokE_L hT.1 hi'⟩ ?_ (fun k w => ?_)
      · rw [a.rd (FMt_no (by omega)), rdeq, e10]
        omega
      · rw [a.rd (FMt_no (by omega)), rdne2 w]
    · rw [hx2, hx3, e10] at z
      rw [if_pos (by omega)] at hf
      simp only [pI, pL, pR, pV, i10, ↓reduceIte, eM_figure_19]
      try simp only [if_true]
      exact hf (show ¬ (2 : Int) = 0 by decide) σ 2 hF hk.1 rfl
  · rw [if_neg c]
    rw [if_pos c] at hf
    exact hf (show ¬ (1 : Int) = 0 by decide) σ 1 hF hk.1 rfl
theorem sM_worded {d : Nat} {Φ : Po} {L q i j o : Nat} {B : Nat → Int} {lo hi : Int} {σ0 σ : Sg} {y : Int64} {x1 x2 x3 : Int32} (ho : o ∈ wL ∧ o ≠ 6 ∧ o ≠ 11) (hy : y.toInt = pkW (spl o)) (g : DMt L B q σ0 i σ) (hj : j < 4) (hq : q + 4 ≤ 2820) (hx1 : x1.toInt = ((q + j : Nat) : Int)) (hx2 : x2.toInt = lo) (hx3 : x3.toInt = hi) (h99 : lo ≤ 9999 ∧ hi ≤ 9999)
    (h0 : (numT L B lo hi (wrdT L B o (0, 0, i))).1 = 0 → ∀ σ' : Sg, DMt L B q σ0 (numT L B lo hi (wrdT L B o (0, 0, i))).2.2 σ' → rd σ' 123 (q + j) = tokN L B (wrdT L B o (0, 0, i)).2.2 → (∀ k, k ≠ q + j → rd σ' 123 k = rd σ 123 k) → Φ (some (.int 0)) σ')
    (hf : (numT L B lo hi (wrdT L B o (0, 0, i))).1 ≠ 0 → FDd Φ q σ0 (numT L B lo hi (wrdT L B o (0, 0, i))).1 (numT L B lo hi (wrdT L B o (0, 0, i))).2.1) : wp true (d + 4) nM_worded [.ref 120, .long y, .int x1, .int x2, .int x3] σ Φ := by
  obtain ⟨hF, hT, hk, hi'⟩ := id g
  have eW : wrdT L B o (0, 0, i) = if tokO L B i = o then (0, 0, tokE L B i) else (1, tokP L B i, 0) := if_neg (by simp)
  rw [eW] at h0 hf
  apply wM_worded
  simp only [pI, pL, pR, pV, i10, ↓reduceIte, eM_worded_0]
  refine sM_isWord ho hy hk (fun c => ?_) (fun c => ?_)
  · rw [if_pos c] at h0 hf
    simp only [pI, pL, pR, pV, i10, ↓reduceIte, eM_worded_5]
    try rw [if_neg (by decide)]
    simp only [pI, pL, pR, pV, i10, ↓reduceIte, eM_worded_10]
    refine sM_nextToken hT hk.2.1 (tokE_L hT.1 hi') (fun σ1 a b e => ?_)
    simp only [pI, pL, pR, pV, i10, ↓reduceIte, eM_worded_14]
    refine sM_figure (d := d) (lo := lo) (hi := hi) ⟨hF.tr (Fr_td a), b, e, tokE_L hT.1 hi'⟩ hj hq hx1 hx2 hx3 h99 (fun z σ' w1 w2 w3 => ?_) (fun z σ' v w1 w2 w3 => ?_)
    · simp only [pI, pL, pR, pV, i10, ↓reduceIte, eM_worded_23]
      exact h0 z σ' w1 w2 (fun k w => by rw [w3 k w, a.rd (FMt_no (by omega))])
    · simp only [pI, pL, pR, pV, i10, ↓reduceIte, eM_worded_23]
      exact hf z σ' v w1 w2 w3
  · rw [if_neg c] at h0 hf
    simp only [pI, pL, pR, pV, i10, ↓reduceIte, eM_worded_5]
    try simp only [if_true]
    exact hf (show ¬ (1 : Int) = 0 by decide) σ 1 hF hk.1 rfl
theorem sM_two0 {d : Nat} {Φ : Po} {L q i o : Nat} {B : Nat → Int} {a1 a2 : Int} {σ0 σ : Sg} {y : Int64} {x1 x2 x5 : Int32} (ho : o ∈ wL ∧ o ≠ 6 ∧ o ≠ 11) (hy : y.toInt = pkW (spl o)) (g : DMt L B q σ0 i σ) (hq : q + 4 ≤ 2820) (hx1 : x1.toInt = (q : Nat)) (hx2 : x2.toInt = a1) (hx5 : x5.toInt = a2) (h99 : a1 ≤ 9999 ∧ a2 ≤ 9999)
    (h0 : (numT L B 0 a2 (wrdT L B o (numT L B 0 a1 (0, 0, i)))).1 = 0 → ∀ σ' : Sg, DMt L B q σ0 (numT L B 0 a2 (wrdT L B o (numT L B 0 a1 (0, 0, i)))).2.2 σ' → rd σ' 123 (q + 1) = tokN L B i → rd σ' 123 (q + 2) = tokN L B (wrdT L B o (numT L B 0 a1 (0, 0, i))).2.2 → (∀ k, k < q + 1 ∨ q + 3 ≤ k → rd σ' 123 k = rd σ 123 k) → Φ (some (.int 0)) σ')
    (hf : (numT L B 0 a2 (wrdT L B o (numT L B 0 a1 (0, 0, i)))).1 ≠ 0 → FDd Φ q σ0 (numT L B 0 a2 (wrdT L B o (numT L B 0 a1 (0, 0, i)))).1 (numT L B 0 a2 (wrdT L B o (numT L B 0 a1 (0, 0, i)))).2.1) : wp true (d + 5) nM_two0 [.ref 120, .int x1, .int x2, .long y, .int x5] σ Φ := by
  have k0 : (0 : Int32).toInt = 0 := rfl
  have l2 : (2 : Int32).toInt = 2 := rfl
  apply wM_two0
  simp only [pI, pL, pR, pV, i10, ↓reduceIte, eM_two0_0]
  refine sM_figure (d := d + 1) (j := 1) (lo := 0) (hi := a1) g (by omega) hq (by rw [tq1 _ (by omega), hx1]; omega) rfl hx2 (by omega) (fun z σ1 w1 w2 w3 => ?_) (fun z σ' v w1 w2 w3 => ?_)
  · have e1 := (numT_0 z).2.2.2
    simp only [pI, pL, pR, pV, i10, ↓reduceIte, eM_two0_9]
    try simp only [if_true]
    simp only [pI, pL, pR, pV, i10, ↓reduceIte, eM_two0_21]
    rw [e1] at w1 h0 hf
    refine sM_worded (d := d) (j := 2) (lo := 0) (hi := a2) ho hy w1 (by omega) hq (by rw [tP (by rw [hx1, l2]; omega), hx1, l2]; omega) rfl hx5 (by omega) (fun y1 σ' v1 v2 v3 => ?_) (fun y1 σ' v v1 v2 v3 => ?_)
    · simp only [pI, pL, pR, pV, i10, ↓reduceIte, eM_two0_32]
      refine h0 y1 σ' v1 ?_ v2 (fun k hk => ?_)
      · rw [v3 _ (by omega)]
        exact w2
      · rw [v3 _ (by omega), w3 _ (by omega)]
    · simp only [pI, pL, pR, pV, i10, ↓reduceIte, eM_two0_32]
      exact hf y1 σ' v v1 v2 v3
  · have e1 : numT L B 0 a2 (wrdT L B o (numT L B 0 a1 (0, 0, i))) = numT L B 0 a1 (0, 0, i) := by rw [wrdT_f z, numT_f z]
    rw [e1] at hf
    have vn : ¬ v.toInt = 0 := by rw [w3]; exact z
    simp only [pI, pL, pR, pV, i10, ↓reduceIte, eM_two0_9]
    simp only [ieq, k0]
    rw [if_neg vn]
    simp only [pI, pL, pR, pV, i10, ↓reduceIte, eM_two0_32]
    exact hf z σ' v w1 w2 w3
theorem sM_three {d : Nat} {Φ : Po} {L q i o1 o2 : Nat} {B : Nat → Int} {a1 l2 a2 l3 a3 : Int} {σ0 σ : Sg} {y z : Int64} {x1 x2 x5 x8 x9 : Int32} (ho1 : o1 ∈ wL ∧ o1 ≠ 6 ∧ o1 ≠ 11) (hy : y.toInt = pkW (spl o1)) (ho2 : o2 ∈ wL ∧ o2 ≠ 6 ∧ o2 ≠ 11) (hz : z.toInt = pkW (spl o2)) (hl2 : (y = W6 119 101 105 103 104 116 → l2 = 1) ∧ (y ≠ W6 119 101 105 103 104 116 → l2 = 0)) (g : DMt L B q σ0 i σ) (hq : q + 4 ≤ 2820) (hx1 : x1.toInt = (q : Nat)) (hx2 : x2.toInt = a1) (hx5 : x5.toInt = a2) (hx8 : x8.toInt = l3) (hx9 : x9.toInt = a3) (h99 : a1 ≤ 9999 ∧ a2 ≤ 9999 ∧ l3 ≤ 9999 ∧ a3 ≤ 9999)
    (h0 : (numT L B l3 a3 (wrdT L B o2 (numT L B l2 a2 (wrdT L B o1 (numT L B 0 a1 (0, 0, i)))))).1 = 0 → ∀ σ' : Sg, DMt L B q σ0 (numT L B l3 a3 (wrdT L B o2 (numT L B l2 a2 (wrdT L B o1 (numT L B 0 a1 (0, 0, i)))))).2.2 σ' → rd σ' 123 (q + 1) = tokN L B i → rd σ' 123 (q + 2) = tokN L B (wrdT L B o1 (numT L B 0 a1 (0, 0, i))).2.2 → rd σ' 123 (q + 3) = tokN L B (wrdT L B o2 (numT L B l2 a2 (wrdT L B o1 (numT L B 0 a1 (0, 0, i))))).2.2 → (∀ k, k < q + 1 ∨ q + 4 ≤ k → rd σ' 123 k = rd σ 123 k) → Φ (some (.int 0)) σ')
    (hf : (numT L B l3 a3 (wrdT L B o2 (numT L B l2 a2 (wrdT L B o1 (numT L B 0 a1 (0, 0, i)))))).1 ≠ 0 → FDd Φ q σ0 (numT L B l3 a3 (wrdT L B o2 (numT L B l2 a2 (wrdT L B o1 (numT L B 0 a1 (0, 0, i)))))).1 (numT L B l3 a3 (wrdT L B o2 (numT L B l2 a2 (wrdT L B o1 (numT L B 0 a1 (0, 0, i)))))).2.1) : wp true (d + 6) nM_three [.ref 120, .int x1, .int x2, .long y, .int x5, .long z, .int x8, .int x9] σ Φ := by
  have k0 : (0 : Int32).toInt = 0 := rfl
  have c2 : (2 : Int32).toInt = 2 := rfl
  have c3 : (3 : Int32).toInt = 3 := rfl
  apply wM_three
  simp only [pI, pL, pR, pV, i10, ↓reduceIte, eM_three_0]
  refine sM_figure (d := d + 2) (j := 1) (lo := 0) (hi := a1) g (by omega) hq (by rw [tq1 _ (by omega), hx1]; omega) rfl hx2 (by omega) (fun w σ1 w1 w2 w3 => ?_) (fun w σ' v w1 w2 w3 => ?_)
  · have e1 := (numT_0 w).2.2.2
    simp only [pI, pL, pR, pV, i10, ↓reduceIte, eM_three_9]
    try simp only [if_true]
    rw [e1] at w1 h0 hf
    have body : ∀ x : Int32, x.toInt = l2 → bM_three_46 true NOB (wp true (d + 5)) Φ (kM_three (d + 5) Φ) [.ref 120, .int x1, .int x2, .long y, .retAddr 0, .int x5, .long z, .retAddr 0, .int x8, .int x9, .int 0] [.int x, .int (x1 + 2), .long y, .ref 120] σ1 := fun x hx => by
      simp only [pI, pL, pR, pV, i10, ↓reduceIte, eM_three_46]
      have l01 : l2 ≤ 9999 := by
        by_cases q : y = W6 119 101 105 103 104 116
        · have := hl2.1 q
          omega
        · have := hl2.2 q
          omega
      refine sM_worded (d := d + 1) (j := 2) (lo := l2) (hi := a2) ho1 hy w1 (by omega) hq (by rw [tP (by rw [hx1, c2]; omega), hx1, c2]; omega) hx hx5 (by omega) (fun y1 σ2 v1 v2 v3 => ?_) (fun y1 σ' v v1 v2 v3 => ?_)
      · have e2 := (numT_0 y1).2.2.2
        simp only [pI, pL, pR, pV, i10, ↓reduceIte, eM_three_51, eM_three_53]
        try simp only [if_true]
        simp only [pI, pL, pR, pV, i10, ↓reduceIte, eM_three_63]
        rw [e2] at v1 h0 hf
        refine sM_worded (d := d + 1) (j := 3) (lo := l3) (hi := a3) ho2 hz v1 (by omega) hq (by rw [tP (by rw [hx1, c3]; omega), hx1, c3]; omega) hx8 hx9 (by omega) (fun y2 σ' u1 u2 u3 => ?_) (fun y2 σ' v u1 u2 u3 => ?_)
        · simp only [pI, pL, pR, pV, i10, ↓reduceIte, eM_three_76]
          refine h0 y2 σ' u1 ?_ ?_ u2 (fun k hk => ?_)
          · rw [u3 _ (by omega), v3 _ (by omega)]
            exact w2
          · rw [u3 _ (by omega)]
            exact v2
          · rw [u3 _ (by omega), v3 _ (by omega), w3 _ (by omega)]
        · simp only [pI, pL, pR, pV, i10, ↓reduceIte, eM_three_76]
          exact hf y2 σ' v u1 u2 u3
      · rw [wrdT_f y1, numT_f y1] at hf
        have vn : ¬ v.toInt = 0 := by rw [v3]; exact y1
        simp only [pI, pL, pR, pV, i10, ↓reduceIte, eM_three_51, eM_three_53]
        simp only [ieq, k0]
        rw [if_neg vn]
        simp only [pI, pL, pR, pV, i10, ↓reduceIte, eM_three_76]
        exact hf y1 σ' v v1 v2 v3
    refine sM_w6 (d := d) ?_
    simp only [pI, pL, pR, pV, i10, ↓reduceIte, eM_three_37]
    simp only [lg_cmp_eq]
    by_cases q : y = W6 119 101 105 103 104 116
    · rw [if_pos q]
      exact body 1 (by rw [hl2.1 q]; rfl)
    · rw [if_neg q]
      simp only [pI, pL, pR, pV, i10, ↓reduceIte, eM_three_45]
      exact body 0 (by rw [hl2.2 q]; rfl)
  · have e1 : numT L B l3 a3 (wrdT L B o2 (numT L B l2 a2 (wrdT L B o1 (numT L B 0 a1 (0, 0, i))))) = numT L B 0 a1 (0, 0, i) := by rw [wrdT_f w, numT_f w, wrdT_f w, numT_f w]
    rw [e1] at hf
    have vn : ¬ v.toInt = 0 := by rw [w3]; exact w
    simp only [pI, pL, pR, pV, i10, ↓reduceIte, eM_three_9]
    simp only [ieq, k0]
    rw [if_neg vn]
    simp only [pI, pL, pR, pV, i10, ↓reduceIte, eM_three_53]
    simp only [ieq, k0]
    rw [if_neg vn]
    simp only [pI, pL, pR, pV, i10, ↓reduceIte, eM_three_76]
    exact hf w σ' v w1 w2 w3
