/-! THE REFERENCE'S DAY -/
abbrev FMc : List (Nat × Nat × Nat) := [(126, 0, 8), (127, 0, 330), (128, 0, 330), (121, 8, 10), (121, 13, 18), (121, 21, 26), (121, 29, 34), (121, 37, 42), (121, 45, 50), (121, 53, 58), (121, 61, 63), (121, 65, 67), (121, 69, 71), (121, 73, 75), (121, 77, 79), (121, 81, 83), (120, 25, 28)]
abbrev FM : List (Nat × Nat × Nat) := FMc ++ [(121, 10, 11), (121, 1556, 4016)]
theorem inM : ∀ k, k < 44 → inS FMc 121 (mix k) = true := by decide
theorem fM {σ : Sg} {k : Nat} {v : Int32} (h : k < 44) : Fr FMc σ (sI σ 121 (mix k) v) := Fr.sI (inM k h)
theorem f120 {σ : Sg} {k : Nat} {v : Int32} (h : 25 ≤ k ∧ k < 28) : Fr FMc σ (sI σ 120 k v) := Fr.sI (inS_r (lo := 25) (hi := 28) (by decide) h)
theorem FMLs {σ σ' : Sg} (h : Fr FML σ σ') : Fr FMc σ σ' := h.mo (by decide)
theorem FMcs {σ σ' : Sg} (h : Fr FMc σ σ') : Fr FM σ σ' := h.mo (fun e he => List.mem_append_left _ he)
theorem inFMs : ∀ w, w < 6 → inS FM 121 (12 + 8 * w) = false ∧ inS FM 121 (60 + 4 * w) = false := by decide
theorem inFM3 {k : Nat} : inS FM 123 k = false := by
  unfold inS
  simp only [FM, FMc, List.any_append, List.any_cons, List.any_nil, nbeq (by decide : (126 : Nat) ≠ 123), nbeq (by decide : (127 : Nat) ≠ 123), nbeq (by decide : (128 : Nat) ≠ 123), nbeq (by decide : (121 : Nat) ≠ 123), nbeq (by decide : (120 : Nat) ≠ 123), Bool.false_and, Bool.or_false]
theorem MEm {σ σ' : Sg} {E : En} (h : Fr FM σ σ') (g : ME σ E) : ME σ' E :=
  ME.of ⟨h.rd rfl, h.rd rfl, h.rd rfl⟩ (fun w hw => h.rd (inFMs w hw).1) (fun w hw => h.rd (inFMs w hw).2) (fun _ => h.rd inFM3) g
theorem MEc {σ σ' : Sg} {E : En} (h : Fr FMc σ σ') (g : ME σ E) : ME σ' E := MEm (FMcs h) g
theorem lM_weights {d : Nat} {Φ : Po} {σ : Sg} {E : En} {c : Co} (hO : Ok E c) (hn : rd σ 121 0 = eN E) (hc : mc σ 121 = c) (h : ∀ v : Int32, v.toInt = wsum c (eN E) → Φ (some (.int v)) σ) :
    ∀ (n : Nat) (a x : Int32), x.toInt + n = eN E → 0 ≤ x.toInt → a.toInt = wsum c (ix x) → bM_weights_4 true NOB (wp true (d + 1)) Φ (kM_weights (d + 1) Φ) [.ref 120, .int a, .int x] [] σ
  | 0, a, x, hx, h0, ha => by
    simp only [pI, pL, pR, pV, i10, ↓reduceIte, eM_weights_4, eM_weights_42]
    have e4 : (gI σ 121 (ix 0)).toInt = eN E := hn
    simp only [ile, e4]
    rw [if_pos (by omega)]
    have : ix x = eN E := by unfold ix; omega
    exact ⟨⟨by decide, by decide⟩, h _ (by rw [ha, this])⟩
  | n + 1, a, x, hx, h0, ha => by
    simp only [pI, pL, pR, pV, i10, ↓reduceIte, eM_weights_4]
    have h6 := hO.1
    have e4 : (gI σ 121 (ix 0)).toInt = eN E := hn
    simp only [ile, e4]
    rw [if_neg (by omega)]
    refine ⟨⟨by decide, by decide⟩, ?_⟩
    have hxx := ix_to h0
    have hw := wsum_r hO (ix x) (by omega)
    have hcw := (hO.w (w := ix x) (by omega)).2.2.1
    have eS : wsum c (ix x + 1) = wsum c (ix x) + (if c (24 + ix x) = 0 then c (12 + ix x) else 0) := rfl
    have fin : ∀ z : Int32, z.toInt = (if c (24 + ix x) = 0 then c (12 + ix x) else 0) → bM_weights_34 true NOB (wp true (d + 1)) Φ (kM_weights (d + 1) Φ) [.ref 120, .int a, .int x] [.int z, .int a] σ := by
      intro z hz
      have hzb : 0 ≤ z.toInt ∧ z.toInt ≤ 99 := by rw [hz]; split <;> omega
      simp only [pI, pL, pR, pV, i10, ↓reduceIte, eM_weights_34]
      refine hM_weights_4 _ _ _ _ _ (lM_weights hO hn hc h n _ (x + 1) ?_ ?_ ?_)
      · rw [t1 (by omega)]; omega
      · rw [t1 (by omega)]; omega
      · rw [ix1 (by omega), tP (by omega), ha, hz, eS]
    refine sM_getG (by omega) (fun g hg => ?_)
    simp only [pI, pL, pR, pV, i10, ↓reduceIte, eM_weights_21]
    rw [hc] at hg
    have c0 : (g = 0) = (g.toInt = 0) := by rw [ieq]; rfl
    simp only [c0, hg]
    split
    next z =>
      refine sM_getW (by omega) (fun u hu => ?_)
      simp only [pI, pL, pR, pV, i10, ↓reduceIte, eM_weights_30]
      exact fin u (by rw [hu, hc, if_pos z])
    next z =>
      simp only [pI, pL, pR, pV, i10, ↓reduceIte, eM_weights_33]
      exact fin 0 (by rw [if_neg z]; rfl)
theorem sM_weights {d : Nat} {Φ : Po} {σ : Sg} {E : En} {c : Co} (hO : Ok E c) (hn : rd σ 121 0 = eN E) (hc : mc σ 121 = c) (h : ∀ v : Int32, v.toInt = wsum c (eN E) → Φ (some (.int v)) σ) : wp true (d + 2) nM_weights [.ref 120] σ Φ := by
  apply wM_weights
  simp only [pI, pL, pR, pV, i10, ↓reduceIte, eM_weights_0]
  exact lM_weights hO hn hc h (eN E) 0 0 (by rw [tl0]; omega) (by decide) rfl
theorem sM_anew {d : Nat} {Φ : Po} {σ : Sg} {c : Co} (hc : mc σ 121 = c) (hx : 0 ≤ c 43 ∧ c 43 < 30427) (h : ∀ σ' : Sg, Fr FMc σ σ' → mc σ' 121 = upc c 43 (nextX (c 43)) → Φ none σ') : wp true (d + 1) nM_anew [.ref 120] σ Φ := by
  apply wM_anew
  simp only [pI, pL, pR, pV, i10, ↓reduceIte, eM_anew_0]
  have e : (gI σ 121 (ix 9)).toInt = c 43 := by rw [← hc]; rfl
  have e0 : ((gI σ 121 (ix 9)).toInt64).toInt = c 43 := by rw [Int32.toInt_toInt64, e]
  have e1 : ((gI σ 121 (ix 9)).toInt64 * 353).toInt = c 43 * 353 := by rw [jX (by rw [e0, show (353 : Int64).toInt = 353 from rfl]; omega), e0]; rfl
  have e2 : ((gI σ 121 (ix 9)).toInt64 * 353 + 233).toInt = c 43 * 353 + 233 := by rw [jP (by rw [e1, show (233 : Int64).toInt = 233 from rfl]; omega), e1]; rfl
  have e3 : (((gI σ 121 (ix 9)).toInt64 * 353 + 233) % 30427).toInt = nextX (c 43) := by rw [jRt, e2, Int.tmod_eq_emod_of_nonneg (by omega)]; rfl
  have hr := nextX_r (c 43)
  refine ⟨⟨by decide, by decide⟩, by decide, ⟨by decide, by decide⟩, h _ (fM (k := 43) (by omega)) ?_⟩
  rw [mc_sI (k := 43) (n := ix 9) (by omega) rfl, hc, j32 (by rw [e3]; omega), e3]
theorem lM_drawn {d : Nat} {Φ : Po} {σ : Sg} {E : En} {c : Co} {x : Int} (hO : Ok E c) (hc : mc σ 121 = c) (hx : x < wsum c (eN E)) (h : ∀ v : Int32, v.toInt = drw c x (eN E) 0 → Φ (some (.int v)) σ) :
    ∀ (n : Nat) (l i : Int32), i.toInt + n = eN E → 0 ≤ i.toInt → l.toInt = x - wsum c (ix i) → wsum c (ix i) ≤ x → drw c x n (ix i) = drw c x (eN E) 0 → bM_drawn_28 true NOB (wp true (d + 1)) Φ (kM_drawn (d + 1) Φ) [.ref 120, .int l, .int i] [] σ
  | 0, l, i, hi, h0, ha, hle, hd => by
    have : ix i = eN E := by unfold ix; omega
    rw [this] at hle
    omega
  | n + 1, l, i, hi, h0, ha, hle, hd => by
    simp only [pI, pL, pR, pV, i10, ↓reduceIte, eM_drawn_28]
    have h6 := hO.1
    have hxx := ix_to h0
    have hw := wsum_r hO (ix i) (by omega)
    have hw2 := wsum_r hO (eN E) (Nat.le_refl _)
    have hcw := (hO.w (w := ix i) (by omega)).2.2.1
    have hg01 := (hO.w (w := ix i) (by omega)).2.2.2.2
    have eS : wsum c (ix i + 1) = wsum c (ix i) + (if c (24 + ix i) = 0 then c (12 + ix i) else 0) := rfl
    have hd : (if x < wsum c (ix i + 1) then ix i else drw c x n (ix i + 1)) = drw c x (eN E) 0 := hd
    refine sM_getG (by omega) (fun g hg => ?_)
    simp only [pI, pL, pR, pV, i10, ↓reduceIte, eM_drawn_34]
    rw [hc] at hg
    have cr : (g = 1) = (c (24 + ix i) = 1) := by rw [ieq, hg]; rfl
    simp only [cr]
    have goon : ¬ x < wsum c (ix i + 1) → bM_drawn_48 true NOB (wp true (d + 1)) Φ (kM_drawn (d + 1) Φ) [.ref 120, .int l, .int i] [] σ := by
      intro hno
      rw [if_neg hno] at hd
      have fin : ∀ z : Int32, z.toInt = (if c (24 + ix i) = 0 then c (12 + ix i) else 0) → bM_drawn_69 true NOB (wp true (d + 1)) Φ (kM_drawn (d + 1) Φ) [.ref 120, .int l, .int i] [.int z, .int l] σ := by
        intro z hz
        have hzb : 0 ≤ z.toInt ∧ z.toInt ≤ 99 := by rw [hz]; split <;> omega
        simp only [pI, pL, pR, pV, i10, ↓reduceIte, eM_drawn_69]
        refine hM_drawn_28 _ _ _ _ _ (lM_drawn hO hc hx h n _ (i + 1) ?_ ?_ ?_ ?_ ?_)
        · rw [t1 (by omega)]; omega
        · rw [t1 (by omega)]; omega
        · rw [ix1 (by omega), tM (by omega), ha, eS, hz]; omega
        · rw [ix1 (by omega)]; omega
        · rw [ix1 (by omega)]; exact hd
      simp only [pI, pL, pR, pV, i10, ↓reduceIte, eM_drawn_48]
      refine sM_getG (by omega) (fun g2 hg2 => ?_)
      simp only [pI, pL, pR, pV, i10, ↓reduceIte, eM_drawn_55]
      rw [hc] at hg2
      have cd : (g2 = 1) = (c (24 + ix i) = 1) := by rw [ieq, hg2]; rfl
      simp only [cd]
      split
      next z => exact fin 0 (by rw [if_neg (by omega)]; rfl)
      next z =>
        simp only [pI, pL, pR, pV, i10, ↓reduceIte, eM_drawn_63]
        refine sM_getW (by omega) (fun u hu => ?_)
        simp only [pI, pL, pR, pV, i10, ↓reduceIte, eM_drawn_63]
        exact fin u (by rw [hu, hc, if_pos (by omega)])
    split
    next z => exact goon (by rw [eS, if_neg (by omega)]; omega)
    next z =>
      refine sM_getW (by omega) (fun u hu => ?_)
      simp only [pI, pL, pR, pV, i10, ↓reduceIte, eM_drawn_45]
      rw [hc] at hu
      simp only [ilt, ha, hu]
      split
      next y =>
        rw [if_pos (by rw [eS, if_pos (by omega)]; omega)] at hd
        simp only [pI, pL, pR, pV, i10, ↓reduceIte, eM_drawn_77]
        exact h _ (by rw [← hd]; omega)
      next y => exact goon (by rw [eS, if_pos (by omega)]; omega)
theorem sM_drawn {d : Nat} {Φ : Po} {σ : Sg} {E : En} {c : Co} (hO : Ok E c) (hn : rd σ 121 0 = eN E) (hc : mc σ 121 = c) (h0 : wsum c (eN E) = 0 → Φ (some (.int (-1))) σ) (h : wsum c (eN E) ≠ 0 → ∀ (v : Int32) (σ' : Sg), Fr FMc σ σ' → mc σ' 121 = upc c 43 (nextX (c 43)) → v.toInt = drw c (c 43 % wsum c (eN E)) (eN E) 0 → Φ (some (.int v)) σ') : wp true (d + 3) nM_drawn [.ref 120] σ Φ := by
  apply wM_drawn
  simp only [pI, pL, pR, pV, i10, ↓reduceIte, eM_drawn_0]
  refine sM_weights hO hn hc (fun s hs => ?_)
  simp only [pI, pL, pR, pV, i10, ↓reduceIte, eM_drawn_4]
  have c0 : (s = 0) = (s.toInt = 0) := by rw [ieq]; rfl
  simp only [c0, hs]
  split
  next z => exact h0 z
  next z =>
    simp only [pI, pL, pR, pV, i10, ↓reduceIte, eM_drawn_9]
    refine ⟨⟨by decide, by decide⟩, ?_⟩
    refine sM_weights hO hn hc (fun s2 hs2 => ?_)
    simp only [pI, pL, pR, pV, i10, ↓reduceIte, eM_drawn_20]
    refine ⟨ne0 (by rw [hs2]; exact z), ?_⟩
    have hwb := wsum_r hO (eN E) (Nat.le_refl _)
    have h6 := hO.1
    refine sM_anew hc hO.2.2.2.1 (fun σ' hF hc' => ?_)
    simp only [pI, pL, pR, pV, i10, ↓reduceIte, eM_drawn_26]
    have e9 : (gI σ 121 (ix 9)).toInt = c 43 := by rw [← hc]; rfl
    have hm : (gI σ 121 (ix 9) % s2).toInt = c 43 % wsum c (eN E) := by rw [tR (by rw [e9]; exact hO.2.2.2.1.1), e9, hs2]
    have hO' : Ok E (upc c 43 (nextX (c 43))) := hO.X (nextX_r _)
    have cg : ∀ j, j < 19 → (upc c 43 (nextX (c 43))) (24 + j) = c (24 + j) ∧ (upc c 43 (nextX (c 43))) (12 + j) = c (12 + j) := fun j q => ⟨upc_ne (by omega), upc_ne (by omega)⟩
    have ew : wsum (upc c 43 (nextX (c 43))) (eN E) = wsum c (eN E) := wsum_cg _ (fun w hw => cg w (by omega))
    have ed : ∀ y, drw (upc c 43 (nextX (c 43))) y (eN E) 0 = drw c y (eN E) 0 := fun y => drw_cg _ _ (fun w hw => cg w (by omega))
    refine lM_drawn (x := c 43 % wsum c (eN E)) hO' hc' (by rw [ew]; exact Int.emod_lt_of_pos _ (by omega)) (fun u hu => h z u σ' hF hc' (by rw [hu, ed])) (eN E) _ 0 (by rw [tl0]; omega) (by decide) ?_ ?_ rfl
    · rw [hm]
      show _ = _ - wsum (upc c 43 (nextX (c 43))) 0
      show _ = _ - (0 : Int)
      omega
    · show (0 : Int) ≤ _
      exact Int.emod_nonneg _ z
theorem sM_blow {d : Nat} {Φ : Po} {σ : Sg} {E : En} {c : Co} (hO : Ok E c) (hE : ME σ E) (hc : mc σ 121 = c) (h : ∀ σ' : Sg, Fr FMc σ σ' → mc σ' 121 = (blowS E c).1 → rd σ' 120 25 = (blowS E c).2.1 → rd σ' 120 26 = (blowS E c).2.2 → Φ none σ') : wp true (d + 8) nM_blow [.ref 120] σ Φ := by
  apply wM_blow
  simp only [pI, pL, pR, pV, i10, ↓reduceIte, eM_blow_0]
  refine sM_drawn hO hE.1 hc (fun z => ?_) (fun z v σ2 hF2 hc2 hv => ?_)
  · simp only [pI, pL, pR, pV, i10, ↓reduceIte, eM_blow_4]
    have eb : blowS E c = (c, -1, 0) := by unfold blowS; rw [if_pos z]
    refine h _ ((f120 (by omega)).tr (f120 (by omega))) ?_ ?_ ?_
    · rw [mc_ne (by omega), mc_ne (by omega), eb]; exact hc
    · rw [rdne2 (by omega), rdeq, eb]; rfl
    · rw [rdeq, eb]; rfl
  · have hdr := drawn_r hO z
    have h6 := hO.1
    generalize hwn : drw c (c 43 % wsum c (eN E)) (eN E) 0 = wN at hdr hv
    have hix : ix v = wN := ix_of hv
    have hO2 : Ok E (upc c 43 (nextX (c 43))) := hO.X (nextX_r _)
    have eb : blowS E c = (upc (upc c 43 (nextX (c 43))) (6 + wN) (if comesF E (upc c 43 (nextX (c 43))) wN then blowsF E (upc c 43 (nextX (c 43))) wN else 0), if 0 < (if comesF E (upc c 43 (nextX (c 43))) wN then blowsF E (upc c 43 (nextX (c 43))) wN else 0) then (wN : Int) else -1, (if comesF E (upc c 43 (nextX (c 43))) wN then blowsF E (upc c 43 (nextX (c 43))) wN else 0)) := by
      unfold blowS
      rw [if_neg z, hwn]
    generalize hcx : upc c 43 (nextX (c 43)) = cx at hc2 hO2 eb
    have hvb : 0 ≤ v.toInt ∧ v.toInt < eN E := by omega
    have hF3 : Fr FMc σ (sI (sI σ2 120 25 (-1)) 120 26 0) := hF2.tr ((f120 (by omega)).tr (f120 (by omega)))
    have hc3 : mc (sI (sI σ2 120 25 (-1)) 120 26 0) 121 = cx := by rw [mc_ne (by omega), mc_ne (by omega)]; exact hc2
    have e25 : rd (sI (sI σ2 120 25 (-1)) 120 26 0) 120 25 = -1 := by rw [rdne2 (by omega), rdeq]; rfl
    have hforce : ∀ (σ4 : Sg) (fI : Int32), Fr FMc σ σ4 → mc σ4 121 = cx → rd σ4 120 25 = -1 → fI.toInt = (if comesF E cx wN then blowsF E cx wN else 0) → bM_blow_39 true NOB (wp true (d + 7)) Φ (kM_blow (d + 7) Φ) [.ref 120, .int v] [.int fI, .ref 120] σ4 := by
      intro σ4 fI hF4 hc4 hv4 hfI
      rw [← hfI] at eb
      simp only [pI, pL, pR, pV, i10, ↓reduceIte, eM_blow_39]
      rw [gIeq]
      refine sM_putF (by omega) (fun σ5 he hc5 => ?_)
      have hF5 : Fr FMc σ σ5 := by
        rw [he, ← mix_f (by omega : ix v < 6)]
        exact hF4.tr ((f120 (by omega)).tr (fM (by omega)))
      have g26 : gI σ5 120 26 = fI := by rw [he, gIne (by omega), gIeq]
      have g25 : rd σ5 120 25 = -1 := by rw [he, rdne (by omega), rdne2 (by omega)]; exact hv4
      rw [mc_ne (by omega), hc4, hix] at hc5
      simp only [pI, pL, pR, pV, i10, ↓reduceIte, eM_blow_52, eM_blow_64]
      rw [g26]
      simp only [ile, tl0]
      split
      next y =>
        refine h _ hF5 ?_ ?_ ?_
        · rw [hc5, eb]
        · rw [g25, eb]
          show (-1 : Int) = if 0 < fI.toInt then _ else _
          rw [if_neg (by omega)]
        · show (gI σ5 120 26).toInt = _
          rw [g26, eb]
      next y =>
        refine h _ (hF5.tr (f120 (by omega))) ?_ ?_ ?_
        · rw [mc_ne (by omega), hc5, eb]
        · rw [rdeq, eb]
          show v.toInt = if 0 < fI.toInt then _ else _
          rw [if_pos (by omega), hv]
        · rw [rdne2 (by omega), eb]
          show (gI σ5 120 26).toInt = _
          rw [g26]
    simp only [pI, pL, pR, pV, i10, ↓reduceIte, eM_blow_4]
    rw [if_neg (fun e => by rw [e] at hvb; exact absurd hvb.1 (by decide))]
    simp only [pI, pL, pR, pV, i10, ↓reduceIte, eM_blow_21]
    refine sM_isComing hO2 (MEc hF3 hE) hc3 hvb (fun σ4 r hF4 hr => ?_)
    simp only [pI, pL, pR, pV, i10, ↓reduceIte, eM_blow_27]
    have hc4 : mc σ4 121 = cx := (fml_mc hF4).trans hc3
    have e254 : rd σ4 120 25 = -1 := (fml_rd hF4 (by omega)).trans e25
    have cr : (r = 0) = (r.toInt = 0) := by rw [ieq]; rfl
    simp only [cr, hr, hix]
    split
    next y =>
      simp only [pI, pL, pR, pV, i10, ↓reduceIte, eM_blow_38]
      refine hforce σ4 0 (hF3.tr (FMLs hF4)) hc4 e254 ?_
      rw [tl0]
      cases hcm : comesF E cx wN with
      | true => rw [hcm] at y; exact absurd y (by decide)
      | false => rfl
    next y =>
      refine sM_blowsNow hO2 (MEc (hF3.tr (FMLs hF4)) hE) hc4 hvb (fun σ5 r5 hF5 hr5 => ?_)
      simp only [pI, pL, pR, pV, i10, ↓reduceIte, eM_blow_35]
      refine hforce σ5 r5 ((hF3.tr (FMLs hF4)).tr (FMLs hF5)) ((fml_mc hF5).trans hc4) ((fml_rd hF5 (by omega)).trans e254) ?_
      rw [hr5, hix]
      cases hcm : comesF E cx wN with
      | true => rfl
      | false => rw [hcm] at y; exact absurd rfl y
theorem sM_takeFrom {d : Nat} {Φ : Po} {σ : Sg} {E : En} {c : Co} {w f : Int} {x : Int32} (hO : Ok E c) (hE : ME σ E) (hc : mc σ 121 = c) (hx : 0 ≤ x.toInt ∧ x.toInt < eV E) (hT : 0 ≤ c (36 + ix x) ∧ c (36 + ix x) ≤ 1000000) (hw : (w = -1 ∧ f = 0) ∨ (0 ≤ w ∧ w < eN E)) (hf : 0 ≤ f ∧ f ≤ 9) (hw1 : rd σ 120 25 = w) (hf1 : rd σ 120 26 = f) (ht1 : 0 ≤ rd σ 120 27 ∧ rd σ 120 27 ≤ 1000000) (h : ∀ σ' : Sg, Fr FMc σ σ' → mc σ' 121 = takeQ E w f (takeP E w f c (ix x)) (ix x) → rd σ' 120 25 = w → rd σ' 120 26 = f → rd σ' 120 27 = rd σ 120 27 + (if w = -1 then 0 else takesF E c w.toNat (ix x) f) → Φ none σ') : wp true (d + 8) nM_takeFrom [.ref 120, .int x] σ Φ := by
  apply wM_takeFrom
  simp only [pI, pL, pR, pV, i10, ↓reduceIte, eM_takeFrom_0]
  have h6 := hO.2.1
  have hxx := ix_to hx.1
  have hx6 : 0 ≤ x.toInt ∧ x.toInt < 6 := by omega
  have hxv : ix x < eV E := by omega
  have ew : (gI σ 120 25).toInt = w := hw1
  have ef : (gI σ 120 26).toInt = f := hf1
  obtain ⟨p1, p2, p3⟩ := takeP_ok (w := w) (f := f) hO hxv
  have tail : ∀ (σ2 : Sg) (v2 : Value), Fr FMc σ σ2 → mc σ2 121 = takeP E w f c (ix x) → rd σ2 120 25 = w → rd σ2 120 26 = f → rd σ2 120 27 = rd σ 120 27 + (if w = -1 then 0 else takesF E c w.toNat (ix x) f) → bM_takeFrom_68 true NOB (wp true (d + 7)) Φ (kM_takeFrom (d + 7) Φ) [.ref 120, .int x, v2] [] σ2 := by
    intro σ2 v2 hF2 hc2 hw2 hf2 ht2
    simp only [pI, pL, pR, pV, i10, ↓reduceIte, eM_takeFrom_68]
    have ew2 : (gI σ2 120 25).toInt = w := hw2
    have ef2 : (gI σ2 120 26).toInt = f := hf2
    refine sM_ofP hx6 (fun p hp => ?_)
    simp only [pI, pL, pR, pV, i10, ↓reduceIte, eM_takeFrom_77]
    refine sM_catchOf p1 (MEc hF2 hE) hc2 (by rw [ew2]; omega) (by rw [ew2, ef2]; omega) hx (by rw [ef2]; exact hf) (fun σ3 r hF3 hr => ?_)
    simp only [pI, pL, pR, pV, i10, ↓reduceIte, eM_takeFrom_90]
    rw [ew2, ef2] at hr
    rw [hc2] at hp
    have hpb := p1.v hxv
    have hcb : 0 ≤ catchF E (takeP E w f c (ix x)) w (ix x) f ∧ catchF E (takeP E w f c (ix x)) w (ix x) f ≤ 99 := clamp_r (by omega)
    refine sM_cut (by decide) (fun m hm => ?_)
    simp only [pI, pL, pR, pV, i10, ↓reduceIte, eM_takeFrom_99]
    refine sM_layP hx6 (fun σ4 he hc4 => ?_)
    simp only [pI, pL, pR, pV, i10, ↓reduceIte, eM_takeFrom_102]
    have hm2 : m.toInt = min 9999 (takeP E w f c (ix x) (30 + ix x) + catchF E (takeP E w f c (ix x)) w (ix x) f) := by
      rw [hm, Int32.toInt_toInt64, tP (by omega), hp, hr]
      show clamp 0 9999 _ = _
      unfold clamp
      repeat' split
      all_goals omega
    refine h _ ?_ ?_ ?_ ?_ ?_
    · rw [he, ← mix_p (ix6 hx6)]
      exact (hF2.tr (FMLs hF3)).tr (fM (by omega))
    · rw [hc4, fml_mc hF3, hc2, hm2]
      rfl
    · rw [he, rdne (by omega), fml_rd hF3 (by omega)]; exact hw2
    · rw [he, rdne (by omega), fml_rd hF3 (by omega)]; exact hf2
    · rw [he, rdne (by omega), fml_rd hF3 (by omega)]; exact ht2
  have cw : (gI σ 120 25 = -1) = (w = -1) := by rw [ieq, ew]; rfl
  simp only [cw]
  split
  next z =>
    refine tail σ _ Fr.rf ?_ hw1 hf1 ?_
    · rw [hc]; unfold takeP; rw [if_pos z]
    · rw [if_pos z]; omega
  next z =>
    refine sM_takesOf hO hE hc (by rw [ew]; omega) hx (by rw [ef]; exact hf) (fun σ1 r hF1 hr => ?_)
    simp only [pI, pL, pR, pV, i10, ↓reduceIte, eM_takeFrom_21]
    have ewx : ix (gI σ 120 25) = w.toNat := by unfold ix; rw [ew]
    rw [ef, ewx] at hr
    have htb : 0 ≤ takesF E c w.toNat (ix x) f ∧ takesF E c w.toNat (ix x) f ≤ 99 := clamp_r (by omega)
    have hpb := hO.v hxv
    have hc1 : mc σ1 121 = c := (fml_mc hF1).trans hc
    refine sM_ofP hx6 (fun p hp => ?_)
    simp only [pI, pL, pR, pV, i10, ↓reduceIte, eM_takeFrom_31]
    rw [hc1] at hp
    refine sM_cut (by decide) (fun m hm => ?_)
    simp only [pI, pL, pR, pV, i10, ↓reduceIte, eM_takeFrom_41]
    refine sM_layP hx6 (fun σ2 he2 hc2 => ?_)
    simp only [pI, pL, pR, pV, i10, ↓reduceIte, eM_takeFrom_44]
    refine sM_ofT hx6 (fun t ht => ?_)
    simp only [pI, pL, pR, pV, i10, ↓reduceIte, eM_takeFrom_53]
    rw [hc2, hc1, upc_ne (by omega)] at ht
    have hadd : (t + r).toInt = c (36 + ix x) + takesF E c w.toNat (ix x) f := by rw [tP (by omega), ht, hr]
    refine sM_layT hx6 (fun σ3 he3 hc3 => ?_)
    simp only [pI, pL, pR, pV, i10, ↓reduceIte, eM_takeFrom_58]
    have hm2 : m.toInt = max 0 (c (30 + ix x) - takesF E c w.toNat (ix x) f) := by
      rw [hm, Int32.toInt_toInt64, tM (by omega), hp, hr]
      show clamp 0 9999 _ = _
      unfold clamp
      repeat' split
      all_goals omega
    have hF3 : Fr FMc σ σ3 := by
      rw [he3, he2, ← mix_p (ix6 hx6), ← mix_t (ix6 hx6)]
      exact (FMLs hF1).tr ((fM (by omega)).tr (fM (by omega)))
    have r3 : ∀ k, rd σ3 120 k = rd σ 120 k := fun k => by rw [he3, rdne (by omega), he2, rdne (by omega), fml_rd hF1 (by omega)]
    refine tail _ _ (hF3.tr (f120 (by omega))) ?_ ?_ ?_ ?_
    · rw [mc_ne (by omega), hc3, hc2, hc1, hadd, hm2]
      unfold takeP
      rw [if_neg z]
    · rw [rdne2 (by omega), r3]; exact hw1
    · rw [rdne2 (by omega), r3]; exact hf1
    · have e27 : (gI σ3 120 27).toInt = rd σ 120 27 := r3 27
      rw [rdeq, if_neg z, tP (by rw [e27, hr]; omega), e27, hr]
