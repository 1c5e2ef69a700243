/-! THE CLASS'S DAY -/
theorem wsum_cg {c c' : Co} : ∀ n, (∀ w, w < n → c' (24 + w) = c (24 + w) ∧ c' (12 + w) = c (12 + w)) → wsum c' n = wsum c n
  | 0, _ => rfl
  | n + 1, h => by
    show wsum c' n + _ = wsum c n + _
    rw [wsum_cg n (fun w hw => h w (by omega)), (h n (by omega)).1, (h n (by omega)).2]
theorem drw_cg {c c' : Co} {x : Int} : ∀ n w, (∀ j, j < w + n → c' (24 + j) = c (24 + j) ∧ c' (12 + j) = c (12 + j)) → drw c' x n w = drw c x n w
  | 0, _, _ => rfl
  | n + 1, w, h => by
    show (if x < wsum c' (w + 1) then w else drw c' x n (w + 1)) = if x < wsum c (w + 1) then w else drw c x n (w + 1)
    rw [wsum_cg (w + 1) (fun j hj => h j (by omega)), drw_cg n (w + 1) (fun j hj => h j (by omega))]
abbrev FDc : List (Nat × Nat × Nat) := [(109, 0, 64), (2, 0, 44), (110, 2, 5)]
abbrev FD : List (Nat × Nat × Nat) := [(109, 0, 64), (2, 0, 44), (110, 2, 5), (2, 44, 75)]
theorem inFD {a k : Nat} (h : a ≠ 109 ∧ a ≠ 2 ∧ a ≠ 110) : inS FD a k = false := by
  unfold inS FD
  simp only [List.any_cons, List.any_nil, Bool.or_false, Bool.or_eq_false_iff, Bool.and_eq_false_iff]
  refine ⟨Or.inl ?_, Or.inl ?_, Or.inl ?_, Or.inl ?_⟩ <;> exact nbeq (by omega)
theorem inFDb {k : Nat} (h : 44 ≤ k) : inS FDc 2 k = false := by
  unfold inS FDc
  simp only [List.any_cons, List.any_nil, Bool.or_false, Bool.or_eq_false_iff, Bool.and_eq_false_iff]
  refine ⟨Or.inl rfl, Or.inr (Or.inr ?_), Or.inl rfl⟩
  simp only [Nat.blt]
  exact nble (by omega)
theorem FDs {σ σ' : Sg} (h : Fr FDc σ σ') : Fr FD σ σ' := h.mo (by decide)
theorem F109s {σ σ' : Sg} (h : Fr F109 σ σ') : Fr FDc σ σ' := h.mo (by decide)
theorem CEd {σ σ' : Sg} {E : En} (h : Fr FD σ σ') (g : CE σ E) : CE σ' E := CE.fr h ⟨inFD (by omega), inFD (by omega), inFD (by omega), inFD (by omega)⟩ (fun a k q => inFD (by omega)) g
theorem f2 {σ : Sg} {k : Nat} {v : Int32} (h : k < 44) : Fr FDc σ (sI σ 2 k v) := Fr.sI (inS_r (lo := 0) (hi := 44) (by simp) ⟨Nat.zero_le _, h⟩)
theorem f2b {σ : Sg} {k : Nat} {v : Int32} (h : 44 ≤ k ∧ k < 75) : Fr FD σ (sI σ 2 k v) := Fr.sI (inS_r (lo := 44) (hi := 75) (by simp) h)
theorem f110 {σ : Sg} {k : Nat} {v : Int32} (h : 2 ≤ k ∧ k < 5) : Fr FDc σ (sI σ 110 k v) := Fr.sI (inS_r (lo := 2) (hi := 5) (by simp) h)
theorem sW_isHere {d : Nat} {Φ : Po} {σ : Sg} {n : Nat} {c : Co} {w : Int32} (hn : rd σ 1 4 = n ∧ n ≤ 6) (hc : rc σ 2 = c) (h1 : 0 ≤ w.toInt ∧ w.toInt < n → c (24 + ix w) = 0 → Φ (some (.int 1)) σ) (h0 : ¬ ((0 ≤ w.toInt ∧ w.toInt < n) ∧ c (24 + ix w) = 0) → Φ (some (.int 0)) σ) : wp true (d + 1) nW_isHere [.ref 1, .int w] σ Φ := by
  apply wW_isHere
  simp only [pI, pL, pR, pV, i10, ↓reduceIte, eW_isHere_0, eW_isHere_28, eW_isHere_29]
  try simp only [cond, zB_1, zB_0, lg_cmp_ge, lg_cmp_le, lg_cmp_gt, lg_cmp_lt, lg_cmp_eq]
  try simp only [ne_eq, not_false_eq_true, true_and, and_true, ↓reduceIte, ile, ilt, ieq, jle, jlt, jeq, Int32.toInt_toInt64, Int32.reduceToInt, Int64.reduceToInt, Int.reduceNeg, Int.reduceEq, Int.reduceLT, Int.reduceLE, and_self, and_false, false_and]
  have e4 : (gI σ 1 4).toInt = n := hn.1
  rw [e4]
  split
  · exact h0 (by omega)
  next a =>
    split
    · exact h0 (by omega)
    next b =>
      have e : ix (24 + w) = 24 + ix w := ixk rfl (by omega)
      rw [e]
      refine ⟨inb_k (n := 24) rfl (by omega) (by omega), ?_⟩
      have e24 : (gI σ 2 (24 + ix w)).toInt = c (24 + ix w) := by rw [← hc]; exact (rc_at (by unfold ix; omega)).symm
      rw [e24]
      split
      next z => exact h1 (by omega) z
      next z => exact h0 (fun q => z q.2)
theorem sW_weightOf {d : Nat} {Φ : Po} {σ : Sg} {n : Nat} {c : Co} {w : Int32} (hn : rd σ 1 4 = n ∧ n ≤ 6) (hc : rc σ 2 = c) (h : ∀ v : Int32, v.toInt = (if (0 ≤ w.toInt ∧ w.toInt < n) ∧ c (24 + ix w) = 0 then c (12 + ix w) else 0) → Φ (some (.int v)) σ) : wp true (d + 2) nW_weightOf [.ref 1, .int w] σ Φ := by
  apply wW_weightOf
  simp only [pI, pL, pR, pV, i10, ↓reduceIte, eW_weightOf_0]
  refine sW_isHere hn hc (fun a b => ?_) (fun a => ?_)
  · simp only [pI, pL, pR, pV, i10, ↓reduceIte, eW_weightOf_5, eW_weightOf_21]
    try rw [if_neg (by decide)]
    have e : ix (12 + w) = 12 + ix w := ixk rfl (by omega)
    rw [e]
    refine ⟨inb_k (n := 12) rfl (by omega) (by omega), h _ ?_⟩
    rw [if_pos ⟨a, b⟩, ← hc]
    exact (rc_at (by unfold ix; omega)).symm
  · simp only [pI, pL, pR, pV, i10, ↓reduceIte, eW_weightOf_5, eW_weightOf_20, eW_weightOf_21]
    try rw [if_pos rfl]
    exact h _ (by rw [if_neg a]; rfl)
theorem lW_all {d : Nat} {Φ : Po} {σ : Sg} {E : En} {c : Co} (hO : Ok E c) (hn : rd σ 1 4 = eN E) (hc : rc σ 2 = c) (h : ∀ v : Int32, v.toInt = wsum c (eN E) → Φ (some (.int v)) σ) :
    ∀ (n : Nat) (a x : Int32), x.toInt + n = eN E → 0 ≤ x.toInt → a.toInt = wsum c (ix x) → bW_weightOfAll_4 true NOB (wp true (d + 2)) Φ (kW_weightOfAll (d + 2) Φ) [.ref 1, .int a, .int x] [] σ
  | 0, a, x, hx, h0, ha => by
    simp only [pI, pL, pR, pV, i10, ↓reduceIte, eW_weightOfAll_4, eW_weightOfAll_26]
    have e4 : (gI σ 1 4).toInt = eN E := hn
    simp only [ile, e4]
    rw [if_pos (by omega)]
    have : ix x = eN E := by unfold ix; omega
    exact h _ (by rw [ha, this])
  | n + 1, a, x, hx, h0, ha => by
    simp only [pI, pL, pR, pV, i10, ↓reduceIte, eW_weightOfAll_4]
    have h6 := hO.1
    have e4 : (gI σ 1 4).toInt = eN E := hn
    simp only [ile, e4]
    rw [if_neg (by omega)]
    refine sW_weightOf ⟨hn, h6⟩ hc (fun v hv => ?_)
    simp only [pI, pL, pR, pV, i10, ↓reduceIte, eW_weightOfAll_18]
    have hxx := ix_to h0
    have hw := wsum_r hO (ix x) (by omega)
    have hcw := (hO.w (w := ix x) (by omega)).2.2.1
    have hvb : 0 ≤ v.toInt ∧ v.toInt ≤ 99 := by rw [hv]; split <;> omega
    refine hW_weightOfAll_4 _ _ _ _ _ (lW_all hO hn hc h n _ (x + 1) ?_ ?_ ?_)
    · rw [t1 (by omega)]; omega
    · rw [t1 (by omega)]; omega
    · rw [ix1 (by omega), tP (by omega), ha, hv]
      show _ = wsum c (ix x) + _
      congr 1
      by_cases z : c (24 + ix x) = 0
      · rw [if_pos ⟨by omega, z⟩, if_pos z]
      · rw [if_neg (fun q => z q.2), if_neg z]
theorem sW_all {d : Nat} {Φ : Po} {σ : Sg} {E : En} {c : Co} (hO : Ok E c) (hn : rd σ 1 4 = eN E) (hc : rc σ 2 = c) (h : ∀ v : Int32, v.toInt = wsum c (eN E) → Φ (some (.int v)) σ) : wp true (d + 3) nW_weightOfAll [.ref 1] σ Φ := by
  apply wW_weightOfAll
  simp only [pI, pL, pR, pV, i10, ↓reduceIte, eW_weightOfAll_0]
  exact lW_all hO hn hc h (eN E) 0 0 (by rw [tl0]; omega) (by decide) rfl
theorem sD_drawX {d : Nat} {Φ : Po} {σ : Sg} {c : Co} (hc : rc σ 2 = c) (hx : 0 ≤ c 43 ∧ c 43 < 30427) (h : ∀ (v : Int32) (σ' : Sg), Fr FDc σ σ' → rc σ' 2 = upc c 43 (nextX (c 43)) → (∀ a k, ¬ (a = 2 ∧ k = 43) → gI σ' a k = gI σ a k) → v.toInt = c 43 → Φ (some (.int v)) σ') : wp true (d + 1) nD_drawX [.ref 110] σ Φ := by
  apply wD_drawX
  simp only [pI, pL, pR, pV, i10, ↓reduceIte, eD_drawX_0]
  have e : (gI σ 2 (ix 43)).toInt = c 43 := by rw [← hc]; rfl
  refine ⟨⟨by decide, by decide⟩, by decide, ⟨by decide, by decide⟩, h _ _ (f2 (by decide)) ?_ (fun a k q => by rw [show ix 43 = 43 from rfl, gI_sI, if_neg q]) e⟩
  have e1 : (gI σ 2 (ix 43) * 353).toInt = c 43 * 353 := by rw [tX (by rw [e, show (353 : Int32).toInt = 353 from rfl]; omega), e]; rfl
  have e2 : (gI σ 2 (ix 43) * 353 + 233).toInt = c 43 * 353 + 233 := by rw [tP (by rw [e1, show (233 : Int32).toInt = 233 from rfl]; omega), e1]; rfl
  rw [show ix 43 = 43 from rfl, rc_sI (by omega), hc]
  congr 1
  rw [show (43 : Nat) = ix 43 from rfl, tR (by rw [e2]; omega), e2]
  rfl
theorem lD_drawn {d : Nat} {Φ : Po} {σ : Sg} {E : En} {c : Co} {x1 dr : Int32} {x : Int} (hO : Ok E c) (hn : rd σ 1 4 = eN E) (hc : rc σ 2 = c) (hdr : dr.toInt = x) (hx : x < wsum c (eN E)) (h : ∀ v : Int32, v.toInt = drw c x (eN E) 0 → Φ (some (.int v)) σ) :
    ∀ (n : Nat) (a i : Int32), i.toInt + n = eN E → 0 ≤ i.toInt → a.toInt = wsum c (ix i) → wsum c (ix i) ≤ x → drw c x n (ix i) = drw c x (eN E) 0 → bD_drawnWind_26 true NOB (wp true (d + 2)) Φ (kD_drawnWind (d + 2) Φ) [.ref 110, .int x1, .int dr, .int a, .int i] [] σ
  | 0, a, i, hi, h0, ha, hle, hd => by
    have : ix i = eN E := by unfold ix; omega
    rw [this] at hle
    omega
  | n + 1, a, i, hi, h0, ha, hle, hd => by
    simp only [pI, pL, pR, pV, i10, ↓reduceIte, eD_drawnWind_26]
    have h6 := hO.1
    have e4 : (gI σ 1 4).toInt = eN E := hn
    simp only [ile, e4]
    rw [if_neg (by omega)]
    refine sW_weightOf ⟨hn, h6⟩ hc (fun v hv => ?_)
    simp only [pI, pL, pR, pV, i10, ↓reduceIte, eD_drawnWind_48]
    have hxx := ix_to h0
    have hw := wsum_r hO (ix i) (by omega)
    have hcw := (hO.w (w := ix i) (by omega)).2.2.1
    have hvb : 0 ≤ v.toInt ∧ v.toInt ≤ 99 := by rw [hv]; split <;> omega
    have hs : (a + v).toInt = wsum c (ix i + 1) := by
      rw [tP (by omega), ha, hv]
      show _ = wsum c (ix i) + _
      congr 1
      by_cases z : c (24 + ix i) = 0
      · rw [if_pos ⟨by omega, z⟩, if_pos z]
      · rw [if_neg (fun q => z q.2), if_neg z]
    have hd : (if x < wsum c (ix i + 1) then ix i else drw c x n (ix i + 1)) = drw c x (eN E) 0 := hd
    simp only [ile, hs, hdr]
    split
    next z =>
      rw [if_neg (by omega)] at hd
      simp only [pI, pL, pR, pV, i10, ↓reduceIte, eD_drawnWind_58]
      refine hD_drawnWind_26 _ _ _ _ _ (lD_drawn hO hn hc hdr hx h n _ (i + 1) ?_ ?_ ?_ ?_ ?_)
      · rw [t1 (by omega)]; omega
      · rw [t1 (by omega)]; omega
      · rw [ix1 (by omega), hs]
      · rw [ix1 (by omega)]; exact z
      · rw [ix1 (by omega)]; exact hd
    next z =>
      rw [if_pos (by omega)] at hd
      exact h _ (by rw [← hd]; omega)
theorem sD_drawn {d : Nat} {Φ : Po} {σ : Sg} {E : En} {c : Co} (hO : Ok E c) (hn : rd σ 1 4 = eN E) (hc : rc σ 2 = c) (h0 : wsum c (eN E) = 0 → Φ (some (.int (-1))) σ) (h : wsum c (eN E) ≠ 0 → ∀ (v : Int32) (σ' : Sg), Fr FDc σ σ' → rc σ' 2 = upc c 43 (nextX (c 43)) → v.toInt = drw c (c 43 % wsum c (eN E)) (eN E) 0 → Φ (some (.int v)) σ') : wp true (d + 4) nD_drawnWind [.ref 110] σ Φ := by
  apply wD_drawnWind
  simp only [pI, pL, pR, pV, i10, ↓reduceIte, eD_drawnWind_0]
  refine sW_all hO hn hc (fun s hs => ?_)
  simp only [pI, pL, pR, pV, i10, ↓reduceIte, eD_drawnWind_7]
  have c0 : (s = 0) = (s.toInt = 0) := by rw [ieq]; rfl
  simp only [c0, hs]
  split
  next z => exact h0 z
  next z =>
    simp only [pI, pL, pR, pV, i10, ↓reduceIte, eD_drawnWind_14]
    have hwb := wsum_r hO (eN E) (Nat.le_refl _)
    have h6 := hO.1
    refine sD_drawX hc hO.2.2.2.1 (fun v σ' hF hc' hg hv => ?_)
    simp only [pI, pL, pR, pV, i10, ↓reduceIte, eD_drawnWind_18]
    have hm : (v % s).toInt = c 43 % wsum c (eN E) := by rw [tR (by rw [hv]; exact hO.2.2.2.1.1), hv, hs]
    refine ⟨ne0 (by rw [hs]; exact z), ?_⟩
    have hO' : Ok E (upc c 43 (nextX (c 43))) := hO.X (nextX_r _)
    have cg : ∀ j, (upc c 43 (nextX (c 43))) (24 + j) = c (24 + j) ∧ (upc c 43 (nextX (c 43))) (12 + j) = c (12 + j) ∨ 19 ≤ j := fun j => by
      by_cases q : 19 ≤ j
      · exact Or.inr q
      · exact Or.inl ⟨upc_ne (by omega), upc_ne (by omega)⟩
    have ew : wsum (upc c 43 (nextX (c 43))) (eN E) = wsum c (eN E) := wsum_cg _ (fun w hw => by
      rcases cg w with q | q
      · exact q
      · omega)
    have ed : ∀ y, drw (upc c 43 (nextX (c 43))) y (eN E) 0 = drw c y (eN E) 0 := fun y => drw_cg _ _ (fun w hw => by
      rcases cg w with q | q
      · exact q
      · omega)
    refine lD_drawn hO' ((hF.rd rfl).trans hn) hc' hm (by rw [ew]; exact Int.emod_lt_of_pos _ (by omega)) (fun u hu => h z u σ' hF hc' (by rw [hu, ed])) (eN E) 0 0 (by rw [tl0]; omega) (by decide) rfl ?_ rfl
    show (0 : Int) ≤ _
    exact Int.emod_nonneg _ z
/-- the dues of a day -/
theorem lD_dues {d : Nat} {Φ : Po} {E : En} {c : Co} {σ0 : Sg} (hO : Ok E c) (hE : CE σ0 E) (h7 : c 42 % 7 = 0) (h : ∀ (σ : Sg) (x : Int32), Fr FDc σ0 σ → rc σ 2 = dueS E c (eN E) → bD_pass_73 true NOB (wp true (d + 5)) Φ (kD_pass (d + 5) Φ) [.ref 110, .ref 2, .int x, .retAddr 0, .retAddr 0] [] σ) :
    ∀ (n : Nat) (σ : Sg) (x : Int32), x.toInt + n = eN E → 0 ≤ x.toInt → Fr FDc σ0 σ → rc σ 2 = dueS E c (ix x) → bD_pass_10 true NOB (wp true (d + 5)) Φ (kD_pass (d + 5) Φ) [.ref 110, .ref 2, .int x, .retAddr 0, .retAddr 0] [] σ
  | 0, σ, x, hx, h0, hF, hc => by
    simp only [pI, pL, pR, pV, i10, ↓reduceIte, eD_pass_10]
    have e4 : (gI σ 1 4).toInt = eN E := (hF.rd rfl).trans hE.1
    simp only [ile, e4]
    rw [if_pos (by omega)]
    have : ix x = eN E := by unfold ix; omega
    exact h σ x hF (by rw [hc, this])
  | n + 1, σ, x, hx, h0, hF, hc => by
    simp only [pI, pL, pR, pV, i10, ↓reduceIte, eD_pass_10]
    have h6 := hO.1
    have e4 : (gI σ 1 4).toInt = eN E := (hF.rd rfl).trans hE.1
    have hxx := ix_to h0
    obtain ⟨o1, o2⟩ := dueS_ok hO (ix x) (by omega)
    have hE' := CEd (FDs hF) hE
    simp only [ile, e4]
    rw [if_neg (by omega)]
    have e42 : (gI σ 2 (ix 42)).toInt = c 42 := by
      rw [← o2 42 (by omega), ← hc]; rfl
    have hday := hO.2.2.1
    have e7 : (gI σ 2 (ix 42) % 7).toInt = c 42 % 7 := by rw [tR (by rw [e42]; omega), e42]; rfl
    have cd : (gI σ 2 (ix 42) % 7 = 0) = (c 42 % 7 = 0) := by rw [ieq, e7]; rfl
    simp only [cd]
    rw [if_pos h7]
    refine ⟨⟨by decide, by decide⟩, by decide, ?_⟩
    have next : ∀ σ2 : Sg, Fr FDc σ0 σ2 → rc σ2 2 = dueS E c (ix x + 1) → kD_pass (d + 5) Φ 10 [.ref 110, .ref 2, .int (x + 1), .retAddr 0, .retAddr 0] [] σ2 := fun σ2 hF2 hc2 =>
      hD_pass_10 _ _ _ _ _ (lD_dues hO hE h7 h n σ2 (x + 1) (by rw [t1 (by omega)]; omega) (by rw [t1 (by omega)]; omega) hF2 (by rw [ix1 (by omega)]; exact hc2))
    have eS : dueS E c (ix x + 1) = if dueS E c (ix x) (24 + ix x) = 0 then upc (dueS E c (ix x)) (ix x) (min 9999 (dueS E c (ix x) (ix x) + duesF E (dueS E c (ix x)) (ix x))) else dueS E c (ix x) := rfl
    refine sW_isHere ⟨(hF.rd rfl).trans hE.1, h6⟩ hc (fun a b => ?_) (fun a => ?_)
    · simp only [pI, pL, pR, pV, i10, ↓reduceIte, eD_pass_39]
      have ei : ix (0 + x) = ix x := by rw [ixk (n := 0) rfl (by omega)]; omega
      have eo : (gI σ 2 (ix x)).toInt = dueS E c (ix x) (ix x) := by rw [← hc]; exact (rc_at (by omega)).symm
      try rw [if_neg (by decide)]
      rw [ei]
      refine ⟨inb_k (n := 0) rfl (by omega) (by omega), ?_⟩
      refine sL_duesOf o1 hE' hc (by omega) (fun σ1 r hF1 hr => ?_)
      simp only [pI, pL, pR, pV, i10, ↓reduceIte, eD_pass_62]
      refine sJ_min (fun m hm => ?_)
      simp only [pI, pL, pR, pV, i10, ↓reduceIte, eD_pass_66, eD_pass_67]
      rw [ei]
      refine ⟨inb_k (n := 0) rfl (by omega) (by omega), ?_⟩
      have hob := (o1.w (w := ix x) (by omega)).1
      have hdb : 0 ≤ duesF E (dueS E c (ix x)) (ix x) ∧ duesF E (dueS E c (ix x)) (ix x) ≤ 99 := clamp_r (by omega)
      refine next _ ((hF.tr (F109s hF1)).tr (f2 (by omega))) ?_
      rw [rc_sI (by omega), rc109 hF1, hc, eS, if_pos b, hm, tP (by omega), eo, hr]
      rfl
    · simp only [pI, pL, pR, pV, i10, ↓reduceIte, eD_pass_39, eD_pass_67]
      try rw [if_pos rfl]
      refine next _ hF ?_
      rw [eS, if_neg (fun z => a ⟨by omega, z⟩)]
      exact hc
theorem t1' {x : Int32} {n : Int} (h : x.toInt = n) (hn : 0 ≤ n ∧ n ≤ 9999) : (x + 1).toInt = n + 1 := by
  rw [t1 (by omega), h]
/-- how the book has the day -/
def pgV (w f t day : Int) : Int := ((t * 10 + f) * 10 + w + 1) * 10000 + day
def PgX (σ σ' : Sg) (w f t day : Int) : Prop := rd σ' 2 44 = rd σ 2 44 + 1 ∧ rd σ' 2 (45 + (rd σ 2 44).toNat % 30) = pgV w f t day ∧ ∀ j, j < 30 → j ≠ (rd σ 2 44).toNat % 30 → rd σ' 2 (45 + j) = rd σ 2 (45 + j)
theorem sW_writePage {d : Nat} {Φ : Po} {σ : Sg} {w f t : Int32} {c : Co} (hc : rc σ 2 = c) (hd : 0 ≤ c 42 ∧ c 42 ≤ 9999) (h44 : 0 ≤ rd σ 2 44 ∧ rd σ 2 44 ≤ 20000) (hw : -1 ≤ w.toInt ∧ w.toInt < 6) (hf : 0 ≤ f.toInt ∧ f.toInt ≤ 9) (ht : 0 ≤ t.toInt ∧ t.toInt ≤ 594) (h : ∀ σ' : Sg, Fr FD σ σ' → rc σ' 2 = c → (∀ a k, a ≠ 2 → gI σ' a k = gI σ a k) → PgX σ σ' w.toInt f.toInt t.toInt (c 42) → Φ none σ') : wp true (d + 1) nW_writePage [.ref 1, .int w, .int f, .int t] σ Φ := by
  apply wW_writePage
  simp only [pI, pL, pR, pV, i10, ↓reduceIte, eW_writePage_0]
  have e44 : (gI σ 2 (ix 44)).toInt = rd σ 2 44 := rfl
  have e42 : (gI σ 2 (ix 42)).toInt = c 42 := by rw [← hc]; rfl
  have em : (gI σ 2 (ix 44) % 30).toInt = rd σ 2 44 % 30 := by rw [tR (by rw [e44]; omega), e44]; rfl
  have emx : ix (gI σ 2 (ix 44) % 30) = (rd σ 2 44).toNat % 30 := ix_of (by rw [em]; omega)
  have ei : ix (45 + gI σ 2 (ix 44) % 30) = 45 + (rd σ 2 44).toNat % 30 := by rw [ixk (n := 45) rfl (by omega), emx]
  have p1 : (t * 10).toInt = t.toInt * 10 := by rw [tX (by rw [show (10 : Int32).toInt = 10 from rfl]; omega)]; rfl
  have p2 : (t * 10 + f).toInt = t.toInt * 10 + f.toInt := by rw [tP (by rw [p1]; omega), p1]
  have p3 : ((t * 10 + f) * 10).toInt = (t.toInt * 10 + f.toInt) * 10 := by rw [tX (by rw [p2, show (10 : Int32).toInt = 10 from rfl]; omega), p2]; rfl
  have p4 : ((t * 10 + f) * 10 + w).toInt = (t.toInt * 10 + f.toInt) * 10 + w.toInt := by rw [tP (by rw [p3]; omega), p3]
  have p5 : ((t * 10 + f) * 10 + w + 1).toInt = (t.toInt * 10 + f.toInt) * 10 + w.toInt + 1 := by rw [tP (by rw [p4, tl1]; omega), p4, tl1]
  have p6 : (((t * 10 + f) * 10 + w + 1) * 10000).toInt = ((t.toInt * 10 + f.toInt) * 10 + w.toInt + 1) * 10000 := by rw [tX (by rw [p5, show (10000 : Int32).toInt = 10000 from rfl]; omega), p5]; rfl
  have p7 : (((t * 10 + f) * 10 + w + 1) * 10000 + gI σ 2 (ix 42)).toInt = pgV w.toInt f.toInt t.toInt (c 42) := by rw [tP (by rw [p6, e42]; omega), p6, e42]; rfl
  have em' : (gI σ 2 44 % 30).toInt = rd σ 2 44 % 30 := em
  rw [ei, show ix 44 = 44 from rfl, gIne2 (by omega)]
  refine ⟨⟨by decide, by decide⟩, ⟨by decide, by decide⟩, by decide, inb_k (n := 45) rfl (by omega) (by omega), ⟨by decide, by decide⟩, ⟨by decide, by decide⟩, ?_⟩
  refine h _ ((f2b (by omega)).tr (f2b (by omega))) ?_ ?_ ⟨?_, ?_, ?_⟩
  · rw [rc_sIb (by omega), rc_sIb (by omega), hc]
  · intro a k ha
    rw [gIne ha, gIne ha]
  · rw [rdeq]
    exact (t1 (x := gI σ 2 44) (by show -1000000 ≤ rd σ 2 44 ∧ rd σ 2 44 < 1000000; omega))
  · rw [rdne2 (by omega), rdeq, p7]
  · intro j hj hne
    rw [rdne2 (by omega), rdne2 (by omega)]
theorem lD_take {d : Nat} {Φ : Po} {E : En} {c : Co} {w f : Int} {σ0 : Sg} (hO : Ok E c) (hE : CE σ0 E) (hT : ∀ v, v < eV E → 0 ≤ c (36 + v) ∧ c (36 + v) ≤ 99 * c 42) (hw : (w = -1 ∧ f = 0) ∨ (0 ≤ w ∧ w < eN E)) (hf : 0 ≤ f ∧ f ≤ 9) (h : ∀ (σ : Sg) (x : Int32) (v3 v4 : Value), Fr FDc σ0 σ → rc σ 2 = (takeS E w f c (eV E)).1 → rd σ 110 2 = w → rd σ 110 3 = f → rd σ 110 4 = (takeS E w f c (eV E)).2 → bD_pass_278 true NOB (wp true (d + 5)) Φ (kD_pass (d + 5) Φ) [.ref 110, .ref 2, .int x, v3, v4] [] σ) :
    ∀ (n : Nat) (σ : Sg) (x : Int32) (v3 v4 : Value), x.toInt + n = eV E → 0 ≤ x.toInt → Fr FDc σ0 σ → rc σ 2 = (takeS E w f c (ix x)).1 → rd σ 110 2 = w → rd σ 110 3 = f → rd σ 110 4 = (takeS E w f c (ix x)).2 → bD_pass_166 true NOB (wp true (d + 5)) Φ (kD_pass (d + 5) Φ) [.ref 110, .ref 2, .int x, v3, v4] [] σ
  | 0, σ, x, v3, v4, hx, h0, hF, hc, hw1, hf1, ht1 => by
    simp only [pI, pL, pR, pV, i10, ↓reduceIte, eD_pass_166]
    have e6 : (gI σ 1 6).toInt = eV E := (hF.rd rfl).trans hE.2.1
    simp only [ile, e6]
    rw [if_pos (by omega)]
    have : ix x = eV E := by unfold ix; omega
    rw [this] at hc ht1
    exact h σ x v3 v4 hF hc hw1 hf1 ht1
  | n + 1, σ, x, v3, v4, hx, h0, hF, hc, hw1, hf1, ht1 => by
    simp only [pI, pL, pR, pV, i10, ↓reduceIte, eD_pass_166]
    have h6 := hO.2.1
    have h6w := hO.1
    have hday := hO.2.2.1
    have e6 : (gI σ 1 6).toInt = eV E := (hF.rd rfl).trans hE.2.1
    have hxx := ix_to h0
    have hxv : ix x < eV E := by omega
    obtain ⟨o1, o2, o3, o4⟩ := takeS_ok (w := w) (f := f) hO (ix x) (by omega)
    have hE' := CEd (FDs hF) hE
    have hTx := hT (ix x) hxv
    have e36 := o2 (36 + ix x) (by omega)
    simp only [ile, e6]
    rw [if_neg (by omega)]
    have cw : (gI σ 110 2 = -1) = (w = -1) := by rw [ieq, show (gI σ 110 2).toInt = w from hw1]; rfl
    simp only [cw]
    have eq1 : takeS E w f c (ix x + 1) = (takeQ E w f (takeP E w f (takeS E w f c (ix x)).1 (ix x)) (ix x), (takeS E w f c (ix x)).2 + if w = -1 then 0 else takesF E (takeS E w f c (ix x)).1 w.toNat (ix x) f) := rfl
    have q1 : ix (30 + x) = 30 + ix x := ixk rfl (by omega)
    have q2 : ix (36 + x) = 36 + ix x := ixk rfl (by omega)
    generalize hcc : (takeS E w f c (ix x)).1 = c1 at hc o1 o2 o4 e36 eq1
    generalize htt : (takeS E w f c (ix x)).2 = s1 at ht1 o3 eq1
    obtain ⟨p1, p2, p3⟩ := takeP_ok (w := w) (f := f) o1 hxv
    have tail : ∀ (σ2 : Sg) (v4 : Value), Fr FDc σ0 σ2 → rc σ2 2 = takeP E w f c1 (ix x) → rd σ2 110 2 = w → rd σ2 110 3 = f → rd σ2 110 4 = s1 + (if w = -1 then 0 else takesF E c1 w.toNat (ix x) f) → bD_pass_243 true NOB (wp true (d + 5)) Φ (kD_pass (d + 5) Φ) [.ref 110, .ref 2, .int x, .int (30 + x), v4] [] σ2 := by
      intro σ2 v4 hF2 hc2 hw2 hf2 ht2
      simp only [pI, pL, pR, pV, i10, ↓reduceIte, eD_pass_243]
      have ew : (gI σ2 110 2).toInt = w := hw2
      have ef : (gI σ2 110 3).toInt = f := hf2
      have ep : (gI σ2 2 (30 + ix x)).toInt = takeP E w f c1 (ix x) (30 + ix x) := by rw [← hc2]; exact (rc_at (by omega)).symm
      rw [q1]
      refine ⟨inb_k (n := 30) rfl (by omega) (by omega), ?_⟩
      refine sL_catchOf p1 (CEd (FDs hF2) hE) hc2 (by rw [ew]; omega) (by omega) (by rw [ef]; exact hf) (fun σ3 r hF3 hr => ?_)
      simp only [pI, pL, pR, pV, i10, ↓reduceIte, eD_pass_267]
      refine sJ_min (fun m hm => ?_)
      simp only [pI, pL, pR, pV, i10, ↓reduceIte, eD_pass_271]
      rw [q1]
      refine ⟨inb_k (n := 30) rfl (by omega) (by omega), ?_⟩
      have hpb := p1.v hxv
      have hcb : 0 ≤ catchF E (takeP E w f c1 (ix x)) w (ix x) f ∧ catchF E (takeP E w f c1 (ix x)) w (ix x) f ≤ 99 := clamp_r (by omega)
      rw [ew, ef] at hr
      refine hD_pass_166 _ _ _ _ _ (lD_take hO hE hT hw hf h n _ (x + 1) _ _ ?_ ?_ ((hF2.tr (F109s hF3)).tr (f2 (by omega))) ?_ ?_ ?_ ?_)
      · rw [t1 (by omega)]; omega
      · rw [t1 (by omega)]; omega
      · rw [ix1 (by omega), eq1, rc_sI (by omega), rc109 hF3, hc2, hm, tP (by omega), ep, hr]
        rfl
      · rw [rdne (by omega), hF3.rd rfl]; exact hw2
      · rw [rdne (by omega), hF3.rd rfl]; exact hf2
      · rw [ix1 (by omega), eq1, rdne (by omega), hF3.rd rfl]; exact ht2
    have ew : (gI σ 110 2).toInt = w := hw1
    have ef : (gI σ 110 3).toInt = f := hf1
    split
    next z =>
      refine tail σ v4 hF ?_ hw1 hf1 ?_
      · rw [hc]; unfold takeP; rw [if_pos z]
      · rw [if_pos z, ht1]; omega
    next z =>
      refine sL_takesOf o1 hE' hc (by rw [ew]; omega) (by omega) (by rw [ef]; exact hf) (fun σ1 r hF1 hr => ?_)
      simp only [pI, pL, pR, pV, i10, ↓reduceIte, eD_pass_206]
      rw [q1]
      refine ⟨inb_k (n := 30) rfl (by omega) (by omega), ?_⟩
      refine sJ_max (fun m hm => ?_)
      simp only [pI, pL, pR, pV, i10, ↓reduceIte, eD_pass_220]
      rw [q1, q2]
      refine ⟨inb_k (n := 30) rfl (by omega) (by omega), inb_k (n := 36) rfl (by omega) (by omega), inb_k (n := 36) rfl (by omega) (by omega), ?_⟩
      simp only [pI, pL, pR, pV, i10, ↓reduceIte, eD_pass_232]
      have ewx : ix (gI σ 110 2) = w.toNat := by unfold ix; rw [ew]
      rw [ef, ewx] at hr
      have htb : 0 ≤ takesF E c1 w.toNat (ix x) f ∧ takesF E c1 w.toNat (ix x) f ≤ 99 := clamp_r (by omega)
      have hpb := o1.v hxv
      have ep : (gI σ1 2 (30 + ix x)).toInt = c1 (30 + ix x) := by rw [← hc, ← rc109 hF1]; exact (rc_at (by omega)).symm
      have et : rd σ1 2 (36 + ix x) = c1 (36 + ix x) := by rw [← hc, ← rc109 hF1]; exact (rc_at (by omega)).symm
      rw [tM (by rw [ep, hr]; omega), ep, hr, tl0] at hm
      refine tail _ _ (((hF.tr (F109s hF1)).tr ((f2 (by omega)).tr (f2 (by omega)))).tr (f110 (by omega))) ?_ ?_ ?_ ?_
      · rw [rc_ne (by omega), rc_sI (by omega), rc_sI (by omega), rc109 hF1, hc, hm]
        unfold takeP
        rw [if_neg z, gIne2 (by omega), tP (by show -2147483648 ≤ rd σ1 2 _ + _ ∧ rd σ1 2 _ + _ < _; rw [et, hr, e36]; omega)]
        show upc _ _ (rd σ1 2 (36 + ix x) + r.toInt) = _
        rw [et, hr]
      · rw [rdne2 (by omega), rdne (by omega), rdne (by omega), hF1.rd rfl]; exact hw1
      · rw [rdne2 (by omega), rdne (by omega), rdne (by omega), hF1.rd rfl]; exact hf1
      · rw [rdeq, gIne (by omega), gIne (by omega), if_neg z]
        have e1 : (gI σ1 110 4).toInt = s1 := by
          show rd σ1 110 4 = s1
          rw [hF1.rd rfl]; exact ht1
        rw [tP (by rw [e1, hr]; omega), e1, hr]
theorem sD_pass {d : Nat} {Φ : Po} {E : En} {c : Co} {σ : Sg} (hO : Ok E c) (hE : CE σ E) (hc : rc σ 2 = c) (hT : TkOk E c) (h9 : c 42 < 9999) (h44 : 0 ≤ rd σ 2 44 ∧ rd σ 2 44 ≤ 20000) (h : ∀ σ' : Sg, Fr FD σ σ' → rc σ' 2 = (passF E c).1 → rd σ' 110 2 = (passF E c).2.1 → rd σ' 110 3 = (passF E c).2.2.1 → rd σ' 110 4 = (passF E c).2.2.2 → PgX σ σ' (passF E c).2.1 (passF E c).2.2.1 (passF E c).2.2.2 (c 42) → Φ none σ') : wp true (d + 6) nD_pass [.ref 110] σ Φ := by
  apply wD_pass
  simp only [pI, pL, pR, pV, i10, ↓reduceIte, eD_pass_0]
  have h6 := hO.1
  have h6v := hO.2.1
  have hday := hO.2.2.1
  obtain ⟨d1, d2⟩ := dueF_ok hO
  obtain ⟨b1, b2, b3, b4⟩ := blowS_ok d1
  obtain ⟨t1, t2, t3, t4⟩ := takeS_ok (w := (blowS E (dueF E c)).2.1) (f := (blowS E (dueF E c)).2.2) b1 (eV E) (Nat.le_refl _)
  -- behind the taking
  have hend : ∀ (σ1 : Sg) (x : Int32) (v3 v4 : Value), Fr FDc σ σ1 → rc σ1 2 = (takeS E (blowS E (dueF E c)).2.1 (blowS E (dueF E c)).2.2 (blowS E (dueF E c)).1 (eV E)).1 → rd σ1 110 2 = (blowS E (dueF E c)).2.1 → rd σ1 110 3 = (blowS E (dueF E c)).2.2 → rd σ1 110 4 = (takeS E (blowS E (dueF E c)).2.1 (blowS E (dueF E c)).2.2 (blowS E (dueF E c)).1 (eV E)).2 → bD_pass_278 true NOB (wp true (d + 5)) Φ (kD_pass (d + 5) Φ) [.ref 110, .ref 2, .int x, v3, v4] [] σ1 := by
    intro σ1 x v3 v4 hF1 hc1 hw1 hf1 ht1
    simp only [pI, pL, pR, pV, i10, ↓reduceIte, eD_pass_278]
    have e42 : (takeS E (blowS E (dueF E c)).2.1 (blowS E (dueF E c)).2.2 (blowS E (dueF E c)).1 (eV E)).1 42 = c 42 := by rw [t2 42 (by omega), b4 42 (by omega), d2 42 (by omega)]
    have e44 : rd σ1 2 44 = rd σ 2 44 := hF1.rd (inFDb (by omega))
    refine sW_writePage hc1 (by rw [e42]; omega) (by rw [e44]; exact h44) (by show -1 ≤ rd σ1 110 2 ∧ rd σ1 110 2 < 6; rw [hw1]; omega) (by show 0 ≤ rd σ1 110 3 ∧ rd σ1 110 3 ≤ 9; rw [hf1]; exact b3) (by show 0 ≤ rd σ1 110 4 ∧ rd σ1 110 4 ≤ 594; rw [ht1]; omega) (fun σ2 hF2 hc2 hg2 hP => ?_)
    simp only [pI, pL, pR, pV, i10, ↓reduceIte, eD_pass_297]
    refine ⟨⟨by decide, by decide⟩, ⟨by decide, by decide⟩, ?_⟩
    have g42 : (gI σ2 2 42).toInt = c 42 := by rw [← e42, ← hc2]; rfl
    obtain ⟨P1, P2, P3⟩ := hP
    have r110 : ∀ k, rd (sI σ2 2 (ix 42) (gI σ2 2 (ix 42) + 1)) 110 k = rd σ1 110 k := fun k => by
      rw [rdne (by omega)]
      show (gI σ2 110 k).toInt = _
      rw [hg2 110 k (by omega)]; rfl
    refine h _ ((FDs hF1).tr (hF2.tr (FDs (f2 (by decide))))) ?_ ?_ ?_ ?_ ⟨?_, ?_, ?_⟩
    · rw [show ix 42 = 42 from rfl, rc_sI (by omega), hc2, t1' g42 hday]
      unfold passF
      dsimp only
      rw [e42]
    · rw [r110]; exact hw1
    · rw [r110]; exact hf1
    · rw [r110]; exact ht1
    · rw [show ix 42 = 42 from rfl, rdne2 (by omega), P1, e44]
    · rw [show ix 42 = 42 from rfl, rdne2 (by omega), ← e44, P2, e42]
      show pgV (rd σ1 110 2) (rd σ1 110 3) (rd σ1 110 4) _ = _
      rw [hw1, hf1, ht1]
      rfl
    · intro j hj hne
      rw [show ix 42 = 42 from rfl, rdne2 (by omega), P3 j hj (by rw [e44]; exact hne)]
      exact hF1.rd (inFDb (by omega))
  -- behind the draw
  have hblow : ∀ (σ1 : Sg) (x : Int32), Fr FDc σ σ1 → rc σ1 2 = dueF E c → bD_pass_73 true NOB (wp true (d + 5)) Φ (kD_pass (d + 5) Φ) [.ref 110, .ref 2, .int x, .retAddr 0, .retAddr 0] [] σ1 := by
    intro σ1 x hF1 hc1
    simp only [pI, pL, pR, pV, i10, ↓reduceIte, eD_pass_73]
    have hE1 := CEd (FDs hF1) hE
    have htake : ∀ (σ2 : Sg) (x : Int32), Fr FDc σ σ2 → rc σ2 2 = (blowS E (dueF E c)).1 → rd σ2 110 2 = (blowS E (dueF E c)).2.1 → rd σ2 110 3 = (blowS E (dueF E c)).2.2 → bD_pass_159 true NOB (wp true (d + 5)) Φ (kD_pass (d + 5) Φ) [.ref 110, .ref 2, .int x, .retAddr 0, .retAddr 0] [] σ2 := by
      intro σ2 x hF2 hc2 hw2 hf2
      simp only [pI, pL, pR, pV, i10, ↓reduceIte, eD_pass_159]
      refine lD_take b1 (CEd (FDs hF2) hE) (fun v hv => ?_) b2 b3 (fun σ3 x v3 v4 hF3 => hend σ3 x v3 v4 (hF2.tr hF3)) (eV E) _ 0 _ _ (by rw [tl0]; omega) (by decide) (f110 (by omega)) ?_ ?_ ?_ ?_
      · rw [b4 _ (by omega), d2 _ (by omega), b4 42 (by omega), d2 42 (by omega)]
        exact hT v hv
      · rw [rc_ne (by omega)]; exact hc2
      · rw [rdne2 (by omega)]; exact hw2
      · rw [rdne2 (by omega)]; exact hf2
      · rw [rdeq]; rfl
    refine sD_drawn d1 hE1.1 hc1 (fun z => ?_) (fun z v σ2 hF2 hc2 hv => ?_)
    · simp only [pI, pL, pR, pV, i10, ↓reduceIte, eD_pass_78]
      rw [gIne2 (by omega), gIeq]
      try rw [if_pos rfl]
      have eb : blowS E (dueF E c) = (dueF E c, -1, 0) := by unfold blowS; rw [if_pos z]
      refine htake _ _ (hF1.tr ((f110 (by omega)).tr (f110 (by omega)))) ?_ ?_ ?_
      · rw [rc_ne (by omega), rc_ne (by omega), eb]; exact hc1
      · rw [rdne2 (by omega), rdeq, eb]; rfl
      · rw [rdeq, eb]; rfl
    · have hdr := drawn_r d1 z
      generalize hwn : drw (dueF E c) (dueF E c 43 % wsum (dueF E c) (eN E)) (eN E) 0 = wN at hdr hv
      have hix : ix v = wN := ix_of hv
      have hO2 : Ok E (upc (dueF E c) 43 (nextX (dueF E c 43))) := d1.X (nextX_r _)
      have eb : blowS E (dueF E c) = (upc (upc (dueF E c) 43 (nextX (dueF E c 43))) (6 + wN) (if comesF E (upc (dueF E c) 43 (nextX (dueF E c 43))) wN then blowsF E (upc (dueF E c) 43 (nextX (dueF E c 43))) wN else 0), if 0 < (if comesF E (upc (dueF E c) 43 (nextX (dueF E c 43))) wN then blowsF E (upc (dueF E c) 43 (nextX (dueF E c 43))) wN else 0) then (wN : Int) else -1, (if comesF E (upc (dueF E c) 43 (nextX (dueF E c 43))) wN then blowsF E (upc (dueF E c) 43 (nextX (dueF E c 43))) wN else 0)) := by
        unfold blowS
        rw [if_neg z, hwn]
      generalize hcx : upc (dueF E c) 43 (nextX (dueF E c 43)) = cx at hc2 hO2 eb
      have hF3 : Fr FDc σ (sI (sI σ2 110 2 v) 110 3 0) := hF1.tr (hF2.tr ((f110 (by omega)).tr (f110 (by omega))))
      have hc3 : rc (sI (sI σ2 110 2 v) 110 3 0) 2 = cx := by rw [rc_ne (by omega), rc_ne (by omega)]; exact hc2
      have ev : gI (sI (sI σ2 110 2 v) 110 3 0) 110 2 = v := by rw [gIne2 (by omega), gIeq]
      have hvb : 0 ≤ v.toInt ∧ v.toInt < eN E := by omega
      -- the force is known
      have hforce : ∀ (σ4 : Sg) (fI : Int32), Fr FDc σ σ4 → rc σ4 2 = cx → gI σ4 110 2 = v → fI.toInt = (if comesF E cx wN then blowsF E cx wN else 0) → bD_pass_124 true NOB (wp true (d + 5)) Φ (kD_pass (d + 5) Φ) [.ref 110, .ref 2, .int x, .retAddr 0, .retAddr 0] [.int fI, .ref 110] σ4 := by
        intro σ4 fI hF4 hc4 hv4 hfI
        have hfb : 0 ≤ fI.toInt ∧ fI.toInt ≤ 9 := by
          rw [hfI]
          split
          · exact clamp_r (by omega)
          · omega
        rw [← hfI] at eb
        simp only [pI, pL, pR, pV, i10, ↓reduceIte, eD_pass_124, eD_pass_155, eD_pass_156]
        have e1 : gI (sI σ4 110 3 fI) 110 2 = v := by rw [gIne2 (by omega)]; exact hv4
        have e2 : gI (sI σ4 110 3 fI) 110 3 = fI := gIeq
        have e3 : ix (6 + v) = 6 + wN := by rw [ixk (n := 6) rfl (by omega), hix]
        rw [e1, e2, e3, gIne (by omega), e2, gIne (by omega), e1]
        refine ⟨inb_k (n := 6) rfl (by omega) (by omega), ?_⟩
        have hFx : Fr FDc σ (sI (sI σ4 110 3 fI) 2 (6 + wN) fI) := hF4.tr ((f110 (by omega)).tr (f2 (by omega)))
        have hcx' : rc (sI (sI σ4 110 3 fI) 2 (6 + wN) fI) 2 = upc cx (6 + wN) fI.toInt := by rw [rc_sI (by omega), rc_ne (by omega), hc4]
        simp only [ile, tl0]
        split
        next y =>
          refine htake _ _ (hFx.tr (f110 (by omega))) ?_ ?_ ?_
          · rw [rc_ne (by omega), hcx', eb]
          · rw [rdeq, eb]
            show (-1 : Int32).toInt = if 0 < fI.toInt then _ else _
            rw [if_neg (by omega)]; rfl
          · rw [rdne2 (by omega), rdne (by omega), rdeq, eb]
        next y =>
          refine htake _ _ (hFx.tr (f110 (by omega))) ?_ ?_ ?_
          · rw [rc_ne (by omega), hcx', eb]
          · rw [rdeq, eb]
            show v.toInt = if 0 < fI.toInt then _ else _
            rw [if_pos (by omega), hv]
          · rw [rdne2 (by omega), rdne (by omega), rdeq, eb]
      simp only [pI, pL, pR, pV, i10, ↓reduceIte, eD_pass_78]
      rw [ev, if_neg (fun e => by rw [e] at hvb; exact absurd hvb.1 (by decide))]
      have hE3 := CEd (FDs hF3) hE
      refine sL_comesOf hO2 hE3 hc3 hvb (fun σ4 r hF4 hr => ?_)
      simp only [pI, pL, pR, pV, i10, ↓reduceIte, eD_pass_106]
      have hc4 : rc σ4 2 = cx := (rc109 hF4).trans hc3
      have ev4 : gI σ4 110 2 = v := by rw [hF4.1 110 2 rfl]; exact ev
      have cr : (r = 0) = (r.toInt = 0) := by rw [ieq]; rfl
      simp only [cr, hr, hix, ev4]
      split
      next y =>
        simp only [pI, pL, pR, pV, i10, ↓reduceIte, eD_pass_123]
        refine hforce σ4 0 (hF3.tr (F109s hF4)) hc4 ev4 ?_
        rw [tl0]
        cases hcm : comesF E cx wN with
        | true => rw [hcm] at y; exact absurd y (by decide)
        | false => rfl
      next y =>
        refine sL_blowsOf hO2 (CEd (FDs (hF3.tr (F109s hF4))) hE) hc4 hvb (fun σ5 r5 hF5 hr5 => ?_)
        simp only [pI, pL, pR, pV, i10, ↓reduceIte, eD_pass_120]
        refine hforce σ5 r5 ((hF3.tr (F109s hF4)).tr (F109s hF5)) ((rc109 hF5).trans hc4) (by rw [hF5.1 110 2 rfl]; exact ev4) ?_
        rw [hr5, hix]
        cases hcm : comesF E cx wN with
        | true => rfl
        | false => rw [hcm] at y; exact absurd rfl y
  by_cases h7 : c 42 % 7 = 0
  · refine lD_dues hO hE h7 (fun σ1 x hF1 hc1 => hblow σ1 x hF1 ?_) (eN E) σ 0 (by rw [tl0]; omega) (by decide) Fr.rf hc
    rw [hc1]
    unfold dueF
    rw [if_pos h7]
  · simp only [pI, pL, pR, pV, i10, ↓reduceIte, eD_pass_10]
    have e4 : (gI σ 1 4).toInt = eN E := hE.1
    have e42 : (gI σ 2 (ix 42)).toInt = c 42 := by rw [← hc]; rfl
    have e7 : (gI σ 2 (ix 42) % 7).toInt = c 42 % 7 := by rw [tR (by rw [e42]; omega), e42]; rfl
    have cd : (gI σ 2 (ix 42) % 7 = 0) = (c 42 % 7 = 0) := by rw [ieq, e7]; rfl
    have ed : dueF E c = c := by unfold dueF; rw [if_neg h7]
    simp only [cd]
    rw [if_neg h7]
    split
    · exact hblow σ 0 Fr.rf (by rw [ed]; exact hc)
    · exact ⟨⟨by decide, by decide⟩, by decide, hblow σ 0 Fr.rf (by rw [ed]; exact hc)⟩
