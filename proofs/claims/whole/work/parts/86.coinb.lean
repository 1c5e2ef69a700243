/-! IN KIND: both sides' tables -/
theorem Prc.sm {kd : Nat → Nat} {K : Nat} {P : Nat → Nat → Nat} (h : Prc kd K P) (s : Nat) : P 0 s < FAR → P 0 s ≤ s := by
  induction s using Nat.strongRecOn with
  | ind s is =>
    intro hf
    by_cases q : s = 0
    · subst q
      rw [(h.z K 0 (by omega)).1]
      omega
    · obtain ⟨i, h1, h2, h3⟩ := h.ex K 0 (by omega) s (by omega) hf
      have hk := h.2.2 i h1
      have := is (s - kd i) (by omega) (by omega)
      have t := h.tri (i := i) h1 i 0 (by omega) s h2
      omega
def kdF (a : Nat → Int) (i : Nat) : Nat := (a (141 + i)).toNat
def cv (v : Nat) : Int := if v = FAR then -1 else v
theorem Wd.kd {lws : Lws} {E : En} {c : Co} {a : Nat → Int} {σ : Sg} (g : Wd lws E c a σ) : (gI σ 1 16).toInt = a 7 ∧ (0 ≤ a 7 ∧ a 7 ≤ 5) ∧ (∀ k, k < 5 → (gI σ 40 k).toInt = a (141 + k)) ∧ (∀ k : Nat, (k : Int) < a 7 → (1 ≤ a (141 + k) ∧ a (141 + k) ≤ 99) ∧ a (141 + k) = kdF a k ∧ kdF a k ≤ 99) ∧ (∀ k, (gI σ 121 k).toInt = a k) := by
  obtain ⟨g1, rfl, rfl, rfl⟩ := g
  obtain ⟨t1, t2, t3, t4⟩ := g1.1.2.2.2.2.2.1
  refine ⟨t1, t2, t3, fun k hk => ⟨t4 k hk, ?_, ?_⟩, fun _ => rfl⟩
  · have := t4 k hk
    unfold kdF
    omega
  · have := t4 k hk
    unfold kdF
    omega
theorem Wd.prc {lws : Lws} {E : En} {c : Co} {a : Nat → Int} {σ : Sg} (g : Wd lws E c a σ) {K : Nat} (hK : a 7 = K) : Prc (kdF a) K (pcP (kdF a) K) := pcP_r (fun k hk => by
  have := (g.kd.2.2.2.1 k (by omega))
  omega)
theorem sC_count {d : Nat} {Φ : Po} {lws : Lws} {E : En} {c : Co} {a : Nat → Int} {σ : Sg} {x2 x3 : Int32} {K N : Nat} {P : Nat → Nat → Nat} (g : Wd lws E c a σ) (hK : a 7 = K) (hP : Prc (kdF a) K P) (h2 : x2.toInt = K) (h3 : x3.toInt = N) (hN : N ≤ 999) (h : ∀ σ' : Sg, Fr [(87, 0, 1000)] σ σ' → (∀ s, s ≤ N → (gI σ' 87 s).toInt = cv (P 0 s)) → Φ none σ') : wp true (d + 1) nC_count [.ref 86, .ref 40, .int x2, .int x3] σ Φ := by
  have hFAR : FAR = 1000000000 := rfl
  obtain ⟨u1, u2, u3, u4, u5⟩ := g.kd
  have k0 : (0 : Int32).toInt = 0 := rfl
  have km : (-1 : Int32).toInt = -1 := rfl
  have f40 : ∀ σ' : Sg, Fr [(87, 0, 1000)] σ σ' → ∀ k, gI σ' 40 k = gI σ 40 k := fun σ' hF k => hF.1 _ _ (not_inS (fun e he z => by
    rw [List.mem_singleton] at he
    subst he
    exact absurd z.1 (by decide)))
  have inner : ∀ (m : Nat) (x4 : Int32), x4.toInt = m → 1 ≤ m → m ≤ N →
      (∀ (σ' : Sg) (x5 : Int32) (v6 : Value), Fr [(87, 0, 1000)] σ σ' → (∀ s, s < m + 1 → (gI σ' 87 s).toInt = cv (P 0 s)) → bC_count_110 true NOB (wp true d) Φ (kC_count d Φ) [.ref 86, .ref 40, .int x2, .int x3, .int x4, .int x5, v6] [] σ') →
      ∀ (n i : Nat) (σ' : Sg) (x5 : Int32) (v6 : Value), i + n = K → x5.toInt = i → Fr [(87, 0, 1000)] σ σ' → (∀ s, s < m → (gI σ' 87 s).toInt = cv (P 0 s)) → (gI σ' 87 m).toInt = cv (mnP (kdF a) (P 0) m i) → bC_count_27 true NOB (wp true d) Φ (kC_count d Φ) [.ref 86, .ref 40, .int x2, .int x3, .int x4, .int x5, v6] [] σ' := by
    intro m x4 h4 hm1 hmN KK n
    induction n with
    | zero =>
      intro i σ' x5 v6 hi h5 hF hs hm
      simp only [pI, pL, pR, pV, i10, ↓reduceIte, eC_count_27]
      simp only [ile, h2, h5]
      rw [if_pos (by omega)]
      obtain rfl : i = K := by omega
      refine KK σ' x5 v6 hF (fun s hs2 => ?_)
      by_cases e : s = m
      · subst e
        rw [hm, hP.mn hm1]
      · exact hs s (by omega)
    | succ n ih =>
      intro i σ' x5 v6 hi h5 hF hs hm
      obtain ⟨b1, b2, b3⟩ := u4 i (by omega)
      have e40 : (gI σ' 40 i).toInt = kdF a i := by rw [f40 σ' hF, u3 i (by omega), b2]
      have hix : ix x5 = i := ix_of h5
      have h51 : (x5 + 1).toInt = ((i + 1 : Nat) : Int) := by rw [tq1 x5 (by omega), h5]; omega
      have hr : (x4 - gI σ' 40 i).toInt = m - kdF a i := by rw [tM (by rw [h4, e40]; omega), h4, e40]
      have hix4 : ix x4 = m := ix_of h4
      have hmb := mnP_b (kd := kdF a) (A := P 0) (s := m) i
      have eS : mnP (kdF a) (P 0) m (i + 1) = if kdF a i ≤ m ∧ P 0 (m - kdF a i) ≠ FAR ∧ P 0 (m - kdF a i) + 1 < mnP (kdF a) (P 0) m i then P 0 (m - kdF a i) + 1 else mnP (kdF a) (P 0) m i := rfl
      simp only [pI, pL, pR, pV, i10, ↓reduceIte, eC_count_27]
      rw [hix, hix4]
      generalize x4 - gI σ' 40 i = rI at hr ⊢
      have skip : ∀ v : Value, mnP (kdF a) (P 0) m (i + 1) = mnP (kdF a) (P 0) m i → bC_count_104 true NOB (wp true d) Φ (kC_count d Φ) [.ref 86, .ref 40, .int x2, .int x3, .int x4, .int x5, .int rI] [] σ' := by
        intro v e
        simp only [pI, pL, pR, pV, i10, ↓reduceIte, eC_count_104]
        exact hC_count_27 _ _ _ _ _ (ih (i + 1) σ' (x5 + 1) _ (by omega) h51 hF hs (by rw [e]; exact hm))
      simp only [ile, ilt, h2, h5, hr, k0]
      rw [if_neg (by omega)]
      refine ⟨⟨by omega, by omega⟩, ?_⟩
      split
      next z => exact skip (.int 0) (by rw [eS, if_neg (fun q => by omega)])
      next z =>
        have hir : ix rI = m - kdF a i := ix_of (by omega)
        have hsr := hs (m - kdF a i) (by omega)
        rw [hir]
        have cr : (gI σ' 87 (m - kdF a i) = -1) = (P 0 (m - kdF a i) = FAR) := by
          simp only [ieq, hsr, km]
          unfold cv
          split
          next y => exact propext ⟨fun _ => y, fun _ => rfl⟩
          next y => exact propext ⟨fun x => by omega, fun x => absurd x y⟩
        have cw : (gI σ' 87 m = -1) = (mnP (kdF a) (P 0) m i = FAR) := by
          simp only [ieq, hm, km]
          unfold cv
          split
          next y => exact propext ⟨fun _ => y, fun _ => rfl⟩
          next y => exact propext ⟨fun x => by omega, fun x => absurd x y⟩
        refine ⟨⟨by omega, by omega⟩, ?_⟩
        simp only [cr]
        split
        next y => exact skip (.int 0) (by rw [eS, if_neg (fun q => q.2.1 y)])
        next y =>
          have hfr := hP.far (k := 0) (Nat.zero_le _) (m - kdF a i)
          have hsm := hP.sm (m - kdF a i) (by omega)
          have vr : (gI σ' 87 (m - kdF a i)).toInt = P 0 (m - kdF a i) := by rw [hsr]; unfold cv; rw [if_neg y]
          have vr1 : (gI σ' 87 (m - kdF a i) + 1).toInt = P 0 (m - kdF a i) + 1 := by rw [tq1 _ (by omega), vr]
          have put : P 0 (m - kdF a i) + 1 < mnP (kdF a) (P 0) m i → bC_count_88 true NOB (wp true d) Φ (kC_count d Φ) [.ref 86, .ref 40, .int x2, .int x3, .int x4, .int x5, .int rI] [] σ' := by
            intro q
            rw [if_pos ⟨by omega, y, q⟩] at eS
            simp only [pI, pL, pR, pV, i10, ↓reduceIte, eC_count_88, eC_count_104]
            rw [hir, hix4]
            refine ⟨⟨by omega, by omega⟩, ⟨by omega, by omega⟩, hC_count_27 _ _ _ _ _ (ih (i + 1) _ (x5 + 1) _ (by omega) h51 (hF.tr (Fr.sI (inS_r (lo := 0) (hi := 1000) (by simp) (by omega)))) (fun s hs2 => ?_) ?_)⟩
            · rw [gIne2 (by omega)]
              exact hs s hs2
            · rw [gIeq, vr1, eS]
              unfold cv
              rw [if_neg (by omega)]
              omega
          refine ⟨⟨by omega, by omega⟩, ?_⟩
          simp only [cw]
          split
          next x => exact put (by omega)
          next x =>
            have vm : (gI σ' 87 m).toInt = mnP (kdF a) (P 0) m i := by rw [hm]; unfold cv; rw [if_neg x]
            refine ⟨⟨by omega, by omega⟩, ⟨by omega, by omega⟩, ?_⟩
            simp only [vm, vr1]
            split
            next w => exact skip (.int 0) (by rw [eS, if_neg (fun q => by omega)])
            next w => exact put (by omega)
  have outer : ∀ (n m : Nat) (σ' : Sg) (x4 : Int32) (v5 v6 : Value), m + n = N + 1 → x4.toInt = m → 1 ≤ m → Fr [(87, 0, 1000)] σ σ' → (∀ s, s < m → (gI σ' 87 s).toInt = cv (P 0 s)) → bC_count_10 true NOB (wp true d) Φ (kC_count d Φ) [.ref 86, .ref 40, .int x2, .int x3, .int x4, v5, v6] [] σ' := by
    intro n
    induction n with
    | zero =>
      intro m σ' x4 v5 v6 hm h4 h1 hF hs
      simp only [pI, pL, pR, pV, i10, ↓reduceIte, eC_count_10]
      simp only [ilt, h3, h4]
      rw [if_pos (by omega)]
      simp only [pI, pL, pR, pV, i10, ↓reduceIte, eC_count_116]
      exact h σ' hF (fun s hs2 => hs s (by omega))
    | succ n ih =>
      intro m σ' x4 v5 v6 hm h4 h1 hF hs
      have hix4 : ix x4 = m := ix_of h4
      simp only [pI, pL, pR, pV, i10, ↓reduceIte, eC_count_10]
      simp only [ilt, h3, h4]
      rw [if_neg (by omega), hix4]
      refine ⟨⟨by omega, by omega⟩, ?_⟩
      refine inner m x4 h4 h1 (by omega) (fun σ2 x5 v7 hF2 hs2 => ?_) K 0 _ 0 v6 (by omega) rfl (hF.tr (Fr.sI (inS_r (lo := 0) (hi := 1000) (by simp) (by omega)))) (fun s hs2 => by rw [gIne2 (by omega)]; exact hs s hs2) (by rw [gIeq]; rfl)
      simp only [pI, pL, pR, pV, i10, ↓reduceIte, eC_count_110]
      exact hC_count_10 _ _ _ _ _ (ih (m + 1) σ2 (x4 + 1) _ _ (by omega) (by rw [tq1 x4 (by omega), h4]; omega) (by omega) hF2 hs2)
  apply wC_count
  simp only [pI, pL, pR, pV, i10, ↓reduceIte, eC_count_0]
  refine ⟨⟨by decide, by decide⟩, ?_⟩
  refine outer N 1 _ 1 _ _ (by omega) rfl (Nat.le_refl _) (Fr.sI (by decide)) (fun s hs => ?_)
  obtain rfl : s = 0 := by omega
  rw [show ix 0 = 0 from rfl, gIeq, (hP.z K 0 (by omega)).1]
  rfl
theorem sM_lay136 {d : Nat} {Φ : Po} {lws : Lws} {E : En} {c : Co} {a : Nat → Int} {σ : Sg} {x1 : Int32} {K N : Nat} {P : Nat → Nat → Nat} (g : Wd lws E c a σ) (hK : a 7 = K) (hP : Prc (kdF a) K P) (h1 : x1.toInt = N) (hN : N ≤ 999) (h : ∀ σ' : Sg, Fr [(136, 0, 6000)] σ σ' → (∀ k s, k ≤ K → s ≤ N → (gI σ' 136 (1000 * k + s)).toInt = P k s) → Φ none σ') : wp true (d + 1) nM_layPieces [.ref 120, .int x1] σ Φ := by
  have hFAR : FAR = 1000000000 := rfl
  obtain ⟨u1, u2, u3, u4, u5⟩ := g.kd
  have k0 : (0 : Int32).toInt = 0 := rfl
  have kf : (1000000000 : Int32).toInt = FAR := rfl
  have f121 : ∀ σ' : Sg, Fr [(136, 0, 6000)] σ σ' → ∀ k, (gI σ' 121 k).toInt = a k := fun σ' hF k => by
    rw [hF.1 _ _ (not_inS (fun e he z => by
      rw [List.mem_singleton] at he
      subst he
      exact absurd z.1 (by decide)))]
    exact u5 k
  have inner : ∀ (k : Nat) (x2 : Int32), x2.toInt = k → k ≤ K →
      (∀ (σ' : Sg) (x3 : Int32) (v4 v5 : Value), Fr [(136, 0, 6000)] σ σ' → (∀ j s, k ≤ j → j ≤ K → s ≤ N → (gI σ' 136 (1000 * j + s)).toInt = P j s) → bM_layPieces_142 true NOB (wp true d) Φ (kM_layPieces d Φ) [.ref 120, .int x1, .int x2, .int x3, v4, v5] [] σ') →
      ∀ (n m : Nat) (σ' : Sg) (x3 : Int32) (v4 v5 : Value), m + n = N + 1 → x3.toInt = m → Fr [(136, 0, 6000)] σ σ' → (∀ j s, k ≤ j → j ≤ K → s ≤ N → (k < j ∨ s < m) → (gI σ' 136 (1000 * j + s)).toInt = P j s) → bM_layPieces_14 true NOB (wp true d) Φ (kM_layPieces d Φ) [.ref 120, .int x1, .int x2, .int x3, v4, v5] [] σ' := by
    intro k x2 h2 hk KK n
    induction n with
    | zero =>
      intro m σ' x3 v4 v5 hm h3 hF hs
      simp only [pI, pL, pR, pV, i10, ↓reduceIte, eM_layPieces_14]
      simp only [ilt, h1, h3]
      rw [if_pos (by omega)]
      exact KK σ' x3 v4 v5 hF (fun j s hj1 hj2 hs2 => hs j s hj1 hj2 hs2 (by omega))
    | succ n ih =>
      intro m σ' x3 v4 v5 hm h3 hF hs
      have h31 : (x3 + 1).toInt = ((m + 1 : Nat) : Int) := by rw [tq1 x3 (by omega), h3]; omega
      have e7 : (gI σ' 121 (ix 7)).toInt = K := (f121 σ' hF 7).trans hK
      have ek : (1000 * x2 + x3).toInt = 1000 * k + m := by
        simp only [ta, tm, Int32.reduceToInt]
        omega
      have ekx : ix (1000 * x2 + x3) = 1000 * k + m := ix_of (by omega)
      -- the store
      have put : ∀ (x4 : Int32) (w5 : Value), x4.toInt = P k m → bM_layPieces_122 true NOB (wp true d) Φ (kM_layPieces d Φ) [.ref 120, .int x1, .int x2, .int x3, .int x4, w5] [] σ' := by
        intro x4 w5 h4
        simp only [pI, pL, pR, pV, i10, ↓reduceIte, eM_layPieces_122]
        rw [ekx]
        refine ⟨⟨by omega, by omega⟩, hM_layPieces_14 _ _ _ _ _ (ih (m + 1) _ (x3 + 1) _ _ (by omega) h31 (hF.tr (Fr.sI (inS_r (lo := 0) (hi := 6000) (by simp) (by omega)))) (fun j s hj1 hj2 hs2 hjs => ?_))⟩
        by_cases e : 1000 * j + s = 1000 * k + m
        · have ej : j = k := by omega
          have es : s = m := by omega
          subst ej es
          rw [gIeq, h4]
        · rw [gIne2 e]
          exact hs j s hj1 hj2 hs2 (by omega)
      -- behind the first value
      have go : ∀ b : Int32, b.toInt = (if m = 0 then 0 else FAR : Nat) → bM_layPieces_30 true NOB (wp true d) Φ (kM_layPieces d Φ) [.ref 120, .int x1, .int x2, .int x3, v4, v5] [.int b] σ' := by
        intro b hb
        simp only [pI, pL, pR, pV, i10, ↓reduceIte, eM_layPieces_30]
        refine ⟨⟨by decide, by decide⟩, ?_⟩
        have e141 : (141 + x2).toInt = 141 + k := by rw [tk (n := 141) rfl (by omega), h2]; rfl
        have e141x : ix (141 + x2) = 141 + k := ix_of (by omega)
        have ek1 : (1000 * (x2 + 1) + x3).toInt = 1000 * (k + 1) + m := by
          simp only [ta, tm, Int32.reduceToInt]
          omega
        have ek1x : ix (1000 * (x2 + 1) + x3) = 1000 * (k + 1) + m := ix_of (by omega)
        rw [e141x, ek1x]
        simp only [ile, e7, h2]
        split
        next z =>
          obtain rfl : k = K := by omega
          exact put b v5 (by rw [hb, hP.1])
        next z =>
          obtain ⟨b1, b2, b3⟩ := u4 k (by omega)
          have eP := hP.2.1 k (by omega) m
          have hp1 := hs (k + 1) m (by omega) (by omega) (by omega) (by omega)
          have hf1 := hP.far (k := k + 1) (by omega) m
          have kd1 : (gI σ' 121 (141 + k)).toInt = kdF a k := (f121 σ' hF _).trans b2
          refine ⟨⟨by omega, by omega⟩, ⟨by omega, by omega⟩, ?_⟩
          have mid : ∀ (had : Int32) (H : Nat), had.toInt = H → P k m = min (P (k + 1) m) H → bM_layPieces_104 true NOB (wp true d) Φ (kM_layPieces d Φ) [.ref 120, .int x1, .int x2, .int x3, .int (gI σ' 136 (1000 * (k + 1) + m)), v5] [.int had] σ' := by
            intro had H hhad eP
            simp only [pI, pL, pR, pV, i10, ↓reduceIte, eM_layPieces_104]
            simp only [ile, hp1, hhad]
            split
            next y =>
              simp only [pI, pL, pR, pV, i10, ↓reduceIte, eM_layPieces_118, eM_layPieces_120]
              exact put _ _ (by rw [hp1, eP]; omega)
            next y =>
              simp only [pI, pL, pR, pV, i10, ↓reduceIte, eM_layPieces_120]
              exact put _ _ (by rw [hhad, eP]; omega)
          simp only [kd1, h3]
          split
          next y =>
            simp only [pI, pL, pR, pV, i10, ↓reduceIte, eM_layPieces_79]
            rw [e141x]
            have ekd : (1000 * x2 + x3 - gI σ' 121 (141 + k)).toInt = 1000 * k + (m - kdF a k : Nat) := by rw [tM (by rw [ek, kd1]; omega), ek, kd1]; omega
            have ekdx : ix (1000 * x2 + x3 - gI σ' 121 (141 + k)) = 1000 * k + (m - kdF a k) := ix_of (by omega)
            rw [ekdx]
            have hp2 := hs k (m - kdF a k) (Nat.le_refl _) (by omega) (by omega) (Or.inr (by omega))
            have hf2 := hP.far (k := k) (by omega) (m - kdF a k)
            rw [if_pos (by omega)] at eP
            refine ⟨⟨by omega, by omega⟩, ⟨by omega, by omega⟩, mid _ _ ?_ eP⟩
            rw [tP (by rw [hp2, tl1]; omega), hp2, tl1]
            omega
          next y =>
            rw [if_neg (by omega)] at eP
            exact mid _ _ kf eP
      simp only [pI, pL, pR, pV, i10, ↓reduceIte, eM_layPieces_14]
      simp only [ilt, h1, h3]
      rw [if_neg (by omega)]
      have c0 : (x3 = 0) = (m = 0) := by
        simp only [ieq, h3, k0]
        exact propext (by omega)
      simp only [c0]
      split
      next z => exact go 0 (by rw [if_pos z]; rfl)
      next z =>
        simp only [pI, pL, pR, pV, i10, ↓reduceIte, eM_layPieces_27]
        exact go _ (by rw [if_neg z, kf])
  have outer : ∀ (n : Nat) (σ' : Sg) (x2 : Int32) (v3 v4 v5 : Value), x2.toInt = (n : Int) - 1 → n ≤ K + 1 → Fr [(136, 0, 6000)] σ σ' → (∀ j s, n ≤ j → j ≤ K → s ≤ N → (gI σ' 136 (1000 * j + s)).toInt = P j s) → bM_layPieces_8 true NOB (wp true d) Φ (kM_layPieces d Φ) [.ref 120, .int x1, .int x2, v3, v4, v5] [] σ' := by
    intro n
    induction n with
    | zero =>
      intro σ' x2 v3 v4 v5 h2 hn hF hs
      simp only [pI, pL, pR, pV, i10, ↓reduceIte, eM_layPieces_8]
      simp only [ilt, h2, k0]
      rw [if_pos (by omega)]
      simp only [pI, pL, pR, pV, i10, ↓reduceIte, eM_layPieces_148]
      exact h σ' hF (fun k s hk hs2 => hs k s (Nat.zero_le _) hk hs2)
    | succ n ih =>
      intro σ' x2 v3 v4 v5 h2 hn hF hs
      simp only [pI, pL, pR, pV, i10, ↓reduceIte, eM_layPieces_8]
      simp only [ilt, h2, k0]
      rw [if_neg (by omega)]
      refine inner n x2 (by omega) (by omega) (fun σ2 x3 v4 v5 hF2 hs2 => ?_) (N + 1) 0 σ' 0 v4 v5 (by omega) rfl hF (fun j s hj1 hj2 hs2 hjs => hs j s (by omega) hj2 hs2)
      simp only [pI, pL, pR, pV, i10, ↓reduceIte, eM_layPieces_142]
      have e : (x2 + (-1)).toInt = (n : Int) - 1 := by rw [tP (by rw [h2, show (-1 : Int32).toInt = -1 from rfl]; omega), h2, show (-1 : Int32).toInt = -1 from rfl]; omega
      generalize x2 + (-1) = y at e
      exact hM_layPieces_8 _ _ _ _ _ (ih σ2 y _ _ _ e (by omega) hF2 hs2)
  apply wM_layPieces
  simp only [pI, pL, pR, pV, i10, ↓reduceIte, eM_layPieces_0]
  have e7 : (gI σ 121 (ix 7)).toInt = K := (u5 7).trans hK
  exact ⟨⟨by decide, by decide⟩, outer (K + 1) σ _ _ _ _ (by omega) (Nat.le_refl _) Fr.rf (fun j s h1 h2 => by omega)⟩
