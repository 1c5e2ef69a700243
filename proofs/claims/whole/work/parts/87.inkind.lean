/-! IN KIND: how many of a kind -/
theorem extP_s {kd : Nat → Nat} {P : Nat → Nat → Nat} {n i : Nat} : extP kd P n (i + 1) = grd (P i) (kd i) 1000 (extP kd P n i).1 := rfl
theorem lC_take {d : Nat} {Φ : Po} {lws : Lws} {E : En} {c : Co} {a : Nat → Int} {σ : Sg} {x2 x3 x6 : Int32} {K N i : Nat} {P : Nat → Nat → Nat} (g : Wd lws E c a σ) (hK : a 7 = K) (hP : Prc (kdF a) K P) (hN : N ≤ 999) (hA : ∀ s, s ≤ N → (gI σ 87 s).toInt = cv (P 0 s)) (h3 : x3.toInt = N) (h6 : x6.toInt = i) (hi : i < K) :
    ∀ (n l cnt : Nat) (x4 x5 : Int32), l ≤ n → n ≤ 1000 → l ≤ N → x4.toInt = l → x5.toInt = cnt → cnt + n ≤ 1000 → cnt + l ≤ N → Ivk (kdF a) P i l →
      (∀ y4 y5 : Int32, y4.toInt = (grd (P i) (kdF a i) n l).1 → y5.toInt = cnt + (grd (P i) (kdF a i) n l).2 → Ivk (kdF a) P (i + 1) (grd (P i) (kdF a i) n l).1 → bC_piecesOf_84 true NOB (wp true d) Φ (kC_piecesOf d Φ) [.ref 86, .ref 40, .int x2, .int x3, .int y4, .int y5, .int x6] [] σ) →
      bC_piecesOf_30 true NOB (wp true d) Φ (kC_piecesOf d Φ) [.ref 86, .ref 40, .int x2, .int x3, .int x4, .int x5, .int x6] [] σ := by
  have hFAR : FAR = 1000000000 := rfl
  obtain ⟨u1, u2, u3, u4, u5⟩ := g.kd
  obtain ⟨b1, b2, b3⟩ := u4 i (by omega)
  have e40 : (gI σ 40 i).toInt = kdF a i := by rw [u3 i (by omega), b2]
  have hix : ix x6 = i := ix_of h6
  intro n
  induction n with
  | zero =>
    intro l cnt x4 x5 hl hn hlN h4 h5 hcn hcl hiv KK
    obtain rfl : l = 0 := by omega
    have kk := KK x4 x5 h4 (by rw [h5]; show (cnt : Int) = cnt + ((0 : Nat) : Int); omega) ⟨hiv.1, fun j hj hjl => by
      have hjl : kdF a j ≤ 0 := hjl
      have := hP.2.2 j (by omega)
      omega⟩
    simp only [pI, pL, pR, pV, i10, ↓reduceIte, eC_piecesOf_30]
    rw [hix]
    simp only [ile, ilt, h3, h4, h5, e40]
    by_cases z0 : (N : Int) ≤ cnt
    · rw [if_pos z0]
      exact kk
    · rw [if_neg z0]
      refine ⟨⟨by omega, by omega⟩, ?_⟩
      rw [if_pos (by omega)]
      exact kk
  | succ n ih =>
    intro l cnt x4 x5 hl hn hlN h4 h5 hcn hcl hiv KK
    have eG : grd (P i) (kdF a i) (n + 1) l = if kdF a i ≤ l ∧ P i (l - kdF a i) + 1 = P i l then ((grd (P i) (kdF a i) n (l - kdF a i)).1, (grd (P i) (kdF a i) n (l - kdF a i)).2 + 1) else (l, 0) := rfl
    rw [eG] at KK
    have hr : (x4 - gI σ 40 i).toInt = l - kdF a i := by rw [tM (by rw [h4, e40]; omega), h4, e40]
    have hix4 : ix x4 = l := ix_of h4
    have fin : ¬ (kdF a i ≤ l ∧ P i (l - kdF a i) + 1 = P i l) → bC_piecesOf_84 true NOB (wp true d) Φ (kC_piecesOf d Φ) [.ref 86, .ref 40, .int x2, .int x3, .int x4, .int x5, .int x6] [] σ := by
      intro q
      rw [if_neg q] at KK
      refine KK x4 x5 h4 (by rw [h5]; show (cnt : Int) = cnt + ((0 : Nat) : Int); omega) ⟨hiv.1, fun j hj hjl => ?_⟩
      have hjl : kdF a j ≤ l := hjl
      by_cases e : j = i
      · subst e
        intro z
        exact q ⟨hjl, ((hP.cond hi hiv hjl).1).mp z⟩
      · exact hiv.2 j (by omega) hjl
    simp only [pI, pL, pR, pV, i10, ↓reduceIte, eC_piecesOf_30]
    rw [hix, hix4]
    generalize x4 - gI σ 40 i = rI at hr ⊢
    simp only [ile, ilt, h3, h4, h5, e40]
    by_cases z0 : (N : Int) ≤ cnt
    · rw [if_pos z0]
      exact fin (fun q => by omega)
    rw [if_neg z0]
    refine ⟨⟨by omega, by omega⟩, ?_⟩
    split
    next z => exact fin (fun q => by omega)
    next z =>
      have hkl : kdF a i ≤ l := by omega
      have hir : ix rI = l - kdF a i := ix_of (by omega)
      rw [hir]
      refine ⟨⟨by omega, by omega⟩, ⟨by omega, by omega⟩, ⟨by omega, by omega⟩, ?_⟩
      have hl1 := (hP.z K 0 (by omega)).2 l (by omega)
      have hf := hiv.1
      have vl : (gI σ 87 l).toInt = P 0 l := by rw [hA l hlN]; unfold cv; rw [if_neg (by omega)]
      have hsl := hP.sm l hf
      have vl1 : (gI σ 87 l - 1).toInt = P 0 l - 1 := by rw [tM (by rw [vl, tl1]; omega), vl, tl1]
      have cr : (gI σ 87 (l - kdF a i) = gI σ 87 l - 1) = (P i (l - kdF a i) + 1 = P i l) := by
        simp only [ieq, vl1, hA (l - kdF a i) (by omega)]
        rw [← propext (hP.cond hi hiv hkl).1]
        unfold cv
        split
        next y => exact propext ⟨fun x => by omega, fun x => by omega⟩
        next y => exact propext ⟨fun x => by omega, fun x => by omega⟩
      simp only [cr]
      split
      next y =>
        rw [if_pos ⟨hkl, y⟩] at KK
        refine ⟨⟨by omega, by omega⟩, hC_piecesOf_30 _ _ _ _ _ (ih (l - kdF a i) (cnt + 1) rI (x5 + 1) (by omega) (by omega) (by omega) (by rw [hr]; omega) (by rw [tq1 x5 (by omega), h5]; omega) (by omega) (by omega) (((hP.cond hi hiv hkl).2) (((hP.cond hi hiv hkl).1).mpr y)) (fun y4 y5 k4 k5 k6 => KK y4 y5 k4 (by rw [k5]; show ((cnt + 1 : Nat) : Int) + _ = (cnt : Int) + ((_ + 1 : Nat) : Int); omega) k6))⟩
      next y => exact fin (fun q => y q.2)
theorem sC_pieces {d : Nat} {Φ : Po} {lws : Lws} {E : En} {c : Co} {a : Nat → Int} {σ : Sg} {x2 x3 : Int32} {K N w : Nat} {P : Nat → Nat → Nat} (g : Wd lws E c a σ) (hK : a 7 = K) (hP : Prc (kdF a) K P) (h2 : x2.toInt = w) (hw : w < K) (h3 : x3.toInt = N) (hN : N ≤ 999) (hA : ∀ s, s ≤ N → (gI σ 87 s).toInt = cv (P 0 s)) (h : ∀ v : Int32, v.toInt = (if P 0 N = FAR then -1 else ((extP (kdF a) P N (w + 1)).2 : Int)) → Φ (some (.int v)) σ) : wp true (d + 1) nC_piecesOf [.ref 86, .ref 40, .int x2, .int x3] σ Φ := by
  have hFAR : FAR = 1000000000 := rfl
  have u2 := g.kd.2.1
  have hix3 : ix x3 = N := ix_of h3
  have lp : ∀ (n i : Nat) (x4 x5 x6 : Int32), i + n = w + 1 → x6.toInt = i → x4.toInt = (extP (kdF a) P N i).1 → (i = w + 1 → x5.toInt = (extP (kdF a) P N i).2) → Ivk (kdF a) P i (extP (kdF a) P N i).1 → P 0 N ≠ FAR → bC_piecesOf_21 true NOB (wp true d) Φ (kC_piecesOf d Φ) [.ref 86, .ref 40, .int x2, .int x3, .int x4, .int x5, .int x6] [] σ := by
    intro n
    induction n with
    | zero =>
      intro i x4 x5 x6 hi h6 h4 h5 hiv hne
      obtain rfl : i = w + 1 := by omega
      simp only [pI, pL, pR, pV, i10, ↓reduceIte, eC_piecesOf_21]
      simp only [ilt, h2, h6]
      rw [if_pos (by omega)]
      simp only [pI, pL, pR, pV, i10, ↓reduceIte, eC_piecesOf_90]
      exact h x5 (by rw [if_neg hne, h5 rfl])
    | succ n ih =>
      intro i x4 x5 x6 hi h6 h4 h5 hiv hne
      have hb := extP_b (kd := kdF a) (P := P) (n := N) i
      simp only [pI, pL, pR, pV, i10, ↓reduceIte, eC_piecesOf_21]
      simp only [ilt, h2, h6]
      rw [if_neg (by omega)]
      have hgb := grd_b (Q := P i) (k := kdF a i) 1000 (extP (kdF a) P N i).1
      refine lC_take g hK hP hN hA h3 h6 (by omega) 1000 (extP (kdF a) P N i).1 0 x4 0 (by omega) (Nat.le_refl _) hb h4 rfl (by omega) (by omega) hiv (fun y4 y5 k4 k5 k6 => ?_)
      simp only [pI, pL, pR, pV, i10, ↓reduceIte, eC_piecesOf_84]
      exact hC_piecesOf_21 _ _ _ _ _ (ih (i + 1) y4 y5 (x6 + 1) (by omega) (by rw [tq1 x6 (by omega), h6]; omega) (by rw [extP_s]; exact k4) (fun _ => by rw [k5, extP_s, Int.natCast_zero, Int.zero_add]) (by rw [extP_s]; exact k6) hne)
  apply wC_piecesOf
  simp only [pI, pL, pR, pV, i10, ↓reduceIte, eC_piecesOf_0]
  rw [hix3]
  refine ⟨⟨by omega, by omega⟩, ?_⟩
  have cr : (gI σ 87 N = -1) = (P 0 N = FAR) := by
    simp only [ieq, hA N (Nat.le_refl _), show (-1 : Int32).toInt = -1 from rfl]
    unfold cv
    split
    next y => exact propext ⟨fun _ => y, fun _ => rfl⟩
    next y => exact propext ⟨fun x => by omega, fun x => absurd x y⟩
  simp only [cr]
  split
  next z => exact h _ (by rw [if_pos z]; rfl)
  next z =>
    simp only [pI, pL, pR, pV, i10, ↓reduceIte, eC_piecesOf_12]
    have hf := hP.far (k := 0) (Nat.zero_le _) N
    exact lp (w + 1) 0 x3 0 0 (by omega) rfl h3 (fun q => by omega) ⟨by show P 0 N < FAR; omega, fun j hj => by omega⟩ z
theorem lM_kinds {d : Nat} {Φ : Po} {lws : Lws} {E : En} {c : Co} {a : Nat → Int} {σ : Sg} {x1 x2 x5 : Int32} {K N i : Nat} {P : Nat → Nat → Nat} (g : Wd lws E c a σ) (hK : a 7 = K) (hP : Prc (kdF a) K P) (hN : N ≤ 999) (hA : ∀ k s, k ≤ K → s ≤ N → (gI σ 136 (1000 * k + s)).toInt = P k s) (h5 : x5.toInt = i) (hi : i < K) :
    ∀ (n l cnt : Nat) (x3 x4 : Int32), l ≤ n → n ≤ 1000 → l ≤ N → x3.toInt = l → x4.toInt = cnt → cnt + n ≤ 1000 →
      (∀ y3 y4 : Int32, y3.toInt = (grd (P i) (kdF a i) n l).1 → y4.toInt = cnt + (grd (P i) (kdF a i) n l).2 → bM_inKind_156 true NOB (wp true d) Φ (kM_inKind d Φ) [.ref 120, .int x1, .int x2, .int y3, .int y4, .int x5] [] σ) →
      bM_inKind_78 true NOB (wp true d) Φ (kM_inKind d Φ) [.ref 120, .int x1, .int x2, .int x3, .int x4, .int x5] [] σ := by
  have hFAR : FAR = 1000000000 := rfl
  obtain ⟨u1, u2, u3, u4, u5⟩ := g.kd
  obtain ⟨b1, b2, b3⟩ := u4 i (by omega)
  have e141 : (141 + x5).toInt = 141 + i := by rw [tk (n := 141) rfl (by omega), h5]; rfl
  have e141x : ix (141 + x5) = 141 + i := ix_of (by omega)
  have ekd : (gI σ 121 (141 + i)).toInt = kdF a i := (u5 _).trans b2
  intro n
  induction n with
  | zero =>
    intro l cnt x3 x4 hl hn hlN h3 h4 hcn KK
    obtain rfl : l = 0 := by omega
    simp only [pI, pL, pR, pV, i10, ↓reduceIte, eM_inKind_78]
    rw [e141x]
    simp only [ilt, h3, ekd]
    refine ⟨⟨by omega, by omega⟩, ?_⟩
    rw [if_pos (by omega)]
    exact KK x3 x4 h3 (by rw [h4]; show (cnt : Int) = cnt + ((0 : Nat) : Int); omega)
  | succ n ih =>
    intro l cnt x3 x4 hl hn hlN h3 h4 hcn KK
    have eG : grd (P i) (kdF a i) (n + 1) l = if kdF a i ≤ l ∧ P i (l - kdF a i) + 1 = P i l then ((grd (P i) (kdF a i) n (l - kdF a i)).1, (grd (P i) (kdF a i) n (l - kdF a i)).2 + 1) else (l, 0) := rfl
    rw [eG] at KK
    have fin : ¬ (kdF a i ≤ l ∧ P i (l - kdF a i) + 1 = P i l) → bM_inKind_156 true NOB (wp true d) Φ (kM_inKind d Φ) [.ref 120, .int x1, .int x2, .int x3, .int x4, .int x5] [] σ := by
      intro q
      rw [if_neg q] at KK
      exact KK x3 x4 h3 (by rw [h4]; show (cnt : Int) = cnt + ((0 : Nat) : Int); omega)
    have ek : (1000 * x5 + x3).toInt = 1000 * i + l := by
      simp only [ta, tm, Int32.reduceToInt]
      omega
    have ekx : ix (1000 * x5 + x3) = 1000 * i + l := ix_of (by omega)
    simp only [pI, pL, pR, pV, i10, ↓reduceIte, eM_inKind_78]
    rw [e141x, ekx]
    simp only [ilt, h3, ekd]
    refine ⟨⟨by omega, by omega⟩, ?_⟩
    split
    next z => exact fin (fun q => by omega)
    next z =>
      have hkl : kdF a i ≤ l := by omega
      have er : (1000 * x5 + x3 - gI σ 121 (141 + i)).toInt = 1000 * i + (l - kdF a i : Nat) := by rw [tM (by rw [ek, ekd]; omega), ek, ekd]; omega
      have erx : ix (1000 * x5 + x3 - gI σ 121 (141 + i)) = 1000 * i + (l - kdF a i) := ix_of (by omega)
      have hr : (x3 - gI σ 121 (141 + i)).toInt = (l - kdF a i : Nat) := by rw [tM (by rw [h3, ekd]; omega), h3, ekd]; omega
      rw [erx]
      refine ⟨⟨by omega, by omega⟩, ⟨by omega, by omega⟩, ⟨by omega, by omega⟩, ?_⟩
      have v1 := hA i (l - kdF a i) (by omega) (by omega)
      have v2 := hA i l (by omega) hlN
      have f1 := hP.far (k := i) (by omega) (l - kdF a i)
      have cr : (gI σ 136 (1000 * i + (l - kdF a i)) + 1 = gI σ 136 (1000 * i + l)) = (P i (l - kdF a i) + 1 = P i l) := by
        have e1 : (gI σ 136 (1000 * i + (l - kdF a i)) + 1).toInt = P i (l - kdF a i) + 1 := by rw [tP (by rw [v1, tl1]; omega), v1, tl1]
        simp only [ieq, e1, v2]
        exact propext ⟨fun x => by omega, fun x => by omega⟩
      simp only [cr]
      split
      next y =>
        rw [if_pos ⟨hkl, y⟩] at KK
        refine ⟨⟨by omega, by omega⟩, hM_inKind_78 _ _ _ _ _ (ih (l - kdF a i) (cnt + 1) _ (x4 + 1) (by omega) (by omega) (by omega) hr (by rw [tq1 x4 (by omega), h4]; omega) (by omega) (fun y3 y4 k3 k4 => KK y3 y4 k3 (by rw [k4]; show ((cnt + 1 : Nat) : Int) + _ = (cnt : Int) + ((_ + 1 : Nat) : Int); omega)))⟩
      next y => exact fin (fun q => y q.2)
theorem sM_kinds {d : Nat} {Φ : Po} {lws : Lws} {E : En} {c : Co} {a : Nat → Int} {σ : Sg} {x1 x2 : Int32} {K N w : Nat} {P : Nat → Nat → Nat} (g : Wd lws E c a σ) (hK : a 7 = K) (hP : Prc (kdF a) K P) (h1 : x1.toInt = N) (hN : N ≤ 999) (hA : ∀ k s, k ≤ K → s ≤ N → (gI σ 136 (1000 * k + s)).toInt = P k s) (h2 : x2.toInt = w) (hw : w < K) (h : ∀ v : Int32, v.toInt = (extP (kdF a) P N (w + 1)).2 → Φ (some (.int v)) σ) : bM_inKind_61 true NOB (wp true d) Φ (kM_inKind d Φ) [.ref 120, .int x1, .int x2, .retAddr 0, .retAddr 0, .retAddr 0] [] σ := by
  have lp : ∀ (r i : Nat) (x3 x4 x5 : Int32), i + r = w + 1 → x5.toInt = i → x3.toInt = (extP (kdF a) P N i).1 → (i = w + 1 → x4.toInt = (extP (kdF a) P N i).2) → bM_inKind_69 true NOB (wp true d) Φ (kM_inKind d Φ) [.ref 120, .int x1, .int x2, .int x3, .int x4, .int x5] [] σ := by
    have u2 := g.kd.2.1
    intro r
    induction r with
    | zero =>
      intro i x3 x4 x5 hi h5 h3 h4
      obtain rfl : i = w + 1 := by omega
      simp only [pI, pL, pR, pV, i10, ↓reduceIte, eM_inKind_69]
      simp only [ilt, h2, h5]
      rw [if_pos (by omega)]
      simp only [pI, pL, pR, pV, i10, ↓reduceIte, eM_inKind_162]
      exact h _ (h4 rfl)
    | succ r ih =>
      intro i x3 x4 x5 hi h5 h3 h4
      have hb := extP_b (kd := kdF a) (P := P) (n := N) i
      simp only [pI, pL, pR, pV, i10, ↓reduceIte, eM_inKind_69]
      simp only [ilt, h2, h5]
      rw [if_neg (by omega)]
      refine lM_kinds g hK hP hN hA h5 (by omega) 1000 (extP (kdF a) P N i).1 0 x3 0 (by omega) (Nat.le_refl _) hb h3 rfl (by omega) (fun y3 y4 k3 k4 => ?_)
      simp only [pI, pL, pR, pV, i10, ↓reduceIte, eM_inKind_156]
      exact hM_inKind_69 _ _ _ _ _ (ih (i + 1) y3 y4 (x5 + 1) (by omega) (by rw [tq1 x5 (by omega), h5]; omega) (by rw [extP_s]; exact k3) (fun _ => by rw [k4, extP_s, Int.natCast_zero, Int.zero_add]))
  simp only [pI, pL, pR, pV, i10, ↓reduceIte, eM_inKind_61]
  exact lp (w + 1) 0 x1 0 0 (by omega) rfl h1 (fun q => by omega)
theorem cvF {v : Nat} (h : v = FAR) : cv v = -1 := by
  unfold cv
  rw [if_pos h]
def qInK (n k : Int32) (_ : En) (_ : Co) (a : Nat → Int) : Int := if (0 ≤ n.toInt ∧ n.toInt ≤ 999) ∧ (-1 ≤ k.toInt ∧ k.toInt ≤ a 7 - 1) then (if k.toInt = -1 then cv (pcP (kdF a) (a 7).toNat 0 (ix n)) else if pcP (kdF a) (a 7).toNat 0 (ix n) = FAR then -1 else ((extP (kdF a) (pcP (kdF a) (a 7).toNat) (ix n) (ix k + 1)).2 : Int)) else -1
theorem p_inKind (n k : Int32) : PairI Rel nX_inKind nM_inKind [.int n, .int k] := by
  have hFAR : FAR = 1000000000 := rfl
  refine qryJ (qInK n k) (fun lws σ Φ hR h => ?_) (fun lws σ Φ hR h => ?_)
  · apply wX_inKind
    simp only [pI, pL, pR, pV, i10, ↓reduceIte, eX_inKind_0]
    have g0 := Wd.i hR
    unfold qInK at h
    generalize EE lws σ = E at h g0
    generalize mc σ 121 = c at h g0
    generalize rd σ 121 = a at h g0
    obtain ⟨u1, u2, u3, u4, u5⟩ := g0.kd
    have k0 : (0 : Int32).toInt = 0 := rfl
    have km : (-1 : Int32).toInt = -1 := rfl
    have k9 : (999 : Int32).toInt = 999 := rfl
    have no : ¬ ((0 ≤ n.toInt ∧ n.toInt ≤ 999) ∧ (-1 ≤ k.toInt ∧ k.toInt ≤ a 7 - 1)) → bX_inKind_27 true NOB (wp true 12) Φ (kX_inKind 12 Φ) [.ref 0, .int n, .int k] [] σ := fun q => by
      rw [if_neg q] at h
      simp only [pI, pL, pR, pV, i10, ↓reduceIte, eX_inKind_27]
      exact h _ _ Fr.rf.fi rfl
    simp only [ilt, k0, km, k9, u1]
    split
    next z => exact no (fun q => by omega)
    next z =>
      split
      next y => exact no (fun q => by omega)
      next y =>
        split
        next x => exact no (fun q => by omega)
        next x =>
          split
          next w =>
            rw [if_pos ⟨by omega, by omega⟩] at h
            obtain ⟨K, hK⟩ : ∃ K : Nat, a 7 = K := ⟨(a 7).toNat, by omega⟩
            have hKn : (a 7).toNat = K := by omega
            rw [hKn] at h
            have hP := g0.prc hK
            have hix := ix_to (x := n) (by omega)
            simp only [pI, pL, pR, pV, i10, ↓reduceIte, eX_inKind_29]
            refine sC_count g0 hK hP (u1.trans hK) hix.symm (by omega) (fun σ1 hF1 hA => ?_)
            have hFx : Fr XS σ σ1 := hF1.mo (by decide)
            have g1 := g0.x hFx.fi
            have cN : (k = -1) = (k.toInt = -1) := by rw [ieq, km]
            simp only [pI, pL, pR, pV, i10, ↓reduceIte, eX_inKind_51]
            simp only [cN]
            split
            next q =>
              rw [if_pos q] at h
              simp only [pI, pL, pR, pV, i10, ↓reduceIte, eX_inKind_84]
              exact ⟨⟨by omega, by omega⟩, h _ _ hFx.fi (hA _ (Nat.le_refl _))⟩
            next q =>
              rw [if_neg q] at h
              simp only [pI, pL, pR, pV, i10, ↓reduceIte, eX_inKind_68]
              have hixk := ix_to (x := k) (by omega)
              refine sC_pieces g1 hK hP hixk.symm (by omega) hix.symm (by omega) hA (fun v hv => ?_)
              simp only [pI, pL, pR, pV, i10, ↓reduceIte, eX_inKind_84]
              exact h _ _ hFx.fi hv
          next w => exact no (fun q => by omega)
  · apply wM_inKind
    simp only [pI, pL, pR, pV, i10, ↓reduceIte, eM_inKind_0]
    have g0 := Wd.i hR
    unfold qInK at h
    generalize EE lws σ = E at h g0
    generalize mc σ 121 = c at h g0
    generalize rd σ 121 = a at h g0
    obtain ⟨u1, u2, u3, u4, u5⟩ := g0.kd
    have km : (-1 : Int32).toInt = -1 := rfl
    have e7 : (gI σ 121 (ix 7)).toInt = a 7 := u5 7
    have e71 : (gI σ 121 (ix 7) - 1).toInt = a 7 - 1 := by rw [tM (by rw [e7, tl1]; omega), e7, tl1]
    refine sM_isIn (fun q => ?_) (fun q => ?_)
    · rw [tl0, show (999 : Int32).toInt = 999 from rfl] at q
      simp only [pI, pL, pR, pV, i10, ↓reduceIte, eM_inKind_8]
      refine ⟨⟨by decide, by decide⟩, ?_⟩
      refine sM_isIn (fun y => ?_) (fun y => ?_)
      · rw [km, e71] at y
        rw [if_pos ⟨q, y⟩] at h
        obtain ⟨K, hK⟩ : ∃ K : Nat, a 7 = K := ⟨(a 7).toNat, by omega⟩
        have hKn : (a 7).toNat = K := by omega
        rw [hKn] at h
        have hP := g0.prc hK
        have hix := ix_to (x := n) (by omega)
        simp only [pI, pL, pR, pV, i10, ↓reduceIte, eM_inKind_25, eM_inKind_30]
        refine sM_lay136 g0 hK hP hix.symm (by omega) (fun σ1 hF1 hA => ?_)
        have hFm : Fr MS σ σ1 := hF1.mo (by decide)
        have g1 := g0.m hFm.fi
        have hA0 : (gI σ1 136 (ix n)).toInt = pcP (kdF a) K 0 (ix n) := by
          have := hA 0 (ix n) (Nat.zero_le _) (Nat.le_refl _)
          rw [show 1000 * 0 + ix n = ix n from by omega] at this
          exact this
        have hf := hP.far (k := 0) (Nat.zero_le _) (ix n)
        obtain ⟨p, hp⟩ : ∃ p, p = pcP (kdF a) K 0 (ix n) := ⟨_, rfl⟩
        rw [← hp] at hA0 h hf
        refine Or.elim (show p < FAR ∨ p = FAR from by omega) (fun z => ?_) (fun z => ?_)
        · simp only [pI, pL, pR, pV, i10, ↓reduceIte, eM_inKind_35]
          simp only [ilt, hA0, show (1000000000 : Int32).toInt = 1000000000 from rfl]
          refine ⟨⟨by omega, by omega⟩, ?_⟩
          rw [if_pos (by omega)]
          have cN : (k = -1) = (k.toInt = -1) := by rw [ieq, km]
          simp only [pI, pL, pR, pV, i10, ↓reduceIte, eM_inKind_49]
          simp only [cN]
          split
          next w =>
            rw [if_pos w] at h
            refine ⟨⟨by omega, by omega⟩, h _ _ hFm.fi ?_⟩
            rw [hA0]
            unfold cv
            rw [if_neg (by omega)]
          next w =>
            rw [if_neg w, if_neg (by omega)] at h
            have hixk := ix_to (x := k) (by omega)
            exact sM_kinds g1 hK hP hix.symm (by omega) hA hixk.symm (by omega) (fun v hv => h _ _ hFm.fi hv)
        · simp only [pI, pL, pR, pV, i10, ↓reduceIte, eM_inKind_35]
          simp only [ilt, hA0, show (1000000000 : Int32).toInt = 1000000000 from rfl]
          refine ⟨⟨by omega, by omega⟩, ?_⟩
          rw [if_neg (by omega)]
          have hF : p = FAR := z
          refine h _ _ hFm.fi ?_
          by_cases w : k.toInt = -1
          · rw [if_pos w, cvF hF]; rfl
          · rw [if_neg w, if_pos hF]; rfl
      · rw [km, e71] at y
        rw [if_neg (fun z => y z.2)] at h
        simp only [pI, pL, pR, pV, i10, ↓reduceIte, eM_inKind_25, eM_inKind_28]
        exact h _ _ Fr.rf.fi rfl
    · rw [tl0, show (999 : Int32).toInt = 999 from rfl] at q
      rw [if_neg (fun z => q z.1)] at h
      simp only [pI, pL, pR, pV, i10, ↓reduceIte, eM_inKind_8, eM_inKind_28]
      exact h _ _ Fr.rf.fi rfl
