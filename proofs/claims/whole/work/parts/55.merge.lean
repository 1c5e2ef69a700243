/-! MERGING -/
def CanM (E : En) (c : Co) (w t : Int32) : Prop := w ≠ t ∧ ((0 ≤ w.toInt ∧ w.toInt < eN E) ∧ c (24 + ix w) = 0) ∧ ((0 ≤ t.toInt ∧ t.toInt < eN E) ∧ c (24 + ix t) = 0)
def mergF (c : Co) (w t : Nat) : Co := upc (upc (upc (upc (upc c t (max (-999) (min 9999 (c t + c w)))) (12 + t) (min 99 (c (12 + t) + c (12 + w)))) (18 + t) (min 999 (c (18 + t) + c (18 + w)))) (6 + t) (max (c (6 + t)) (c (6 + w)))) (24 + w) 1
theorem sD_canMerge {d : Nat} {Φ : Po} {E : En} {c : Co} {σ : Sg} {w t : Int32} (hO : Ok E c) (hE : CE σ E) (hc : rc σ 2 = c) (h1 : CanM E c w t → Φ (some (.int 1)) σ) (h0 : ¬ CanM E c w t → Φ (some (.int 0)) σ) : wp true (d + 2) nD_canMerge [.ref 110, .int w, .int t] σ Φ := by
  apply wD_canMerge
  simp only [pI, pL, pR, pV, i10, ↓reduceIte, eD_canMerge_0]
  have hn := hO.1
  have no : ¬ CanM E c w t → bD_canMerge_31 true NOB (wp true (d + 1)) Φ (kD_canMerge (d + 1) Φ) [.ref 110, .int w, .int t] [] σ := fun q => by
    simp only [pI, pL, pR, pV, i10, ↓reduceIte, eD_canMerge_31, eD_canMerge_32]
    rw [zB_0]
    exact h0 q
  split
  next z => exact no (fun x => x.1 z)
  next z =>
    refine sW_isHere ⟨hE.1, hn⟩ hc (fun q q2 => ?_) (fun q => ?_)
    · simp only [pI, pL, pR, pV, i10, ↓reduceIte, eD_canMerge_13]
      refine sW_isHere ⟨hE.1, hn⟩ hc (fun r r2 => ?_) (fun r => ?_)
      · simp only [pI, pL, pR, pV, i10, ↓reduceIte, eD_canMerge_24, eD_canMerge_32]
        rw [zB_1]
        exact h1 ⟨z, ⟨q, q2⟩, ⟨r, r2⟩⟩
      · simp only [pI, pL, pR, pV, i10, ↓reduceIte, eD_canMerge_24]
        exact no (fun x => r x.2.2)
    · simp only [pI, pL, pR, pV, i10, ↓reduceIte, eD_canMerge_13]
      exact no (fun x => q x.2.1)
theorem sD_mergeNow {d : Nat} {Φ : Po} {E : En} {c : Co} {σ : Sg} {w t : Int32} (hO : Ok E c) (hc : rc σ 2 = c) (hp : CanM E c w t) (h : ∀ σ' : Sg, Fr [(2, 0, 44)] σ σ' → rc σ' 2 = mergF c (ix w) (ix t) → Φ none σ') : wp true (d + 2) nD_mergeNow [.ref 110, .int w, .int t] σ Φ := by
  apply wD_mergeNow
  simp only [pI, pL, pR, pV, i10, ↓reduceIte, eD_mergeNow_0]
  have hn := hO.1
  obtain ⟨q0, ⟨q1, q2⟩, ⟨q3, q4⟩⟩ := hp
  have hw6 : ix w < 6 := by unfold ix; omega
  have ht6 : ix t < 6 := by unfold ix; omega
  have hne : ix w ≠ ix t := fun e => q0 (eqv (by have := ix_to q1.1; have := ix_to q3.1; omega))
  have hw := hO.w (w := ix w) (by unfold ix; omega)
  have ht := hO.w (w := ix t) (by unfold ix; omega)
  have a : ∀ (k : Int32) (n : Nat), k.toInt = n → n ≤ 24 → (ix (k + t) = n + ix t ∧ ix (k + w) = n + ix w) ∧ inb (k + t) 75 ∧ inb (k + w) 75 := fun k n hk hn2 => ⟨⟨ixk hk (by omega), ixk hk (by omega)⟩, inb_k hk (by omega) (by omega), inb_k hk (by omega) (by omega)⟩
  obtain ⟨⟨a1, a2⟩, a3, a4⟩ := a 0 0 rfl (by omega)
  obtain ⟨⟨b1, b2⟩, b3, b4⟩ := a 12 12 rfl (by omega)
  obtain ⟨⟨c1, c2⟩, c3, c4⟩ := a 18 18 rfl (by omega)
  obtain ⟨⟨d1, d2⟩, d3, d4⟩ := a 6 6 rfl (by omega)
  obtain ⟨⟨-, e2⟩, -, e4⟩ := a 24 24 rfl (by omega)
  have at2 : ∀ τ : Sg, ∀ j, j < 44 → (gI τ 2 j).toInt = rc τ 2 j := fun τ j hj => (rc_at hj).symm
  have fr : ∀ (τ : Sg) (k : Nat) (x : Int32), k < 44 → Fr [(2, 0, 44)] τ (sI τ 2 k x) := fun τ k x hk => Fr.sI (inS_r (lo := 0) (hi := 44) (by simp) (by omega))
  rw [a1, a2, Nat.zero_add, Nat.zero_add]
  refine ⟨a3, a4, ?_⟩
  refine sJ_min (fun m1 h1 => ?_)
  simp only [pI, pL, pR, pV, i10, ↓reduceIte, eD_mergeNow_36]
  refine sJ_max (fun m2 h2 => ?_)
  simp only [pI, pL, pR, pV, i10, ↓reduceIte, eD_mergeNow_39]
  rw [a1, b1, b2, Nat.zero_add]
  rw [tP (by rw [at2 _ _ (by omega), at2 _ _ (by omega), hc]; omega), at2 _ _ (by omega), at2 _ _ (by omega), hc] at h1
  have v2 : m2.toInt = max (-999) (min 9999 (c (ix t) + c (ix w))) := by rw [h2, h1]; rfl
  have s2 : rc (sI σ 2 (ix t) m2) 2 = upc c (ix t) (max (-999) (min 9999 (c (ix t) + c (ix w)))) := by rw [rc_sI (by omega), hc, v2]
  refine ⟨a3, b3, b4, ?_⟩
  refine sJ_min (fun m3 h3 => ?_)
  simp only [pI, pL, pR, pV, i10, ↓reduceIte, eD_mergeNow_63]
  rw [b1, c1, c2]
  rw [tP (by rw [at2 _ _ (by omega), at2 _ _ (by omega), s2, upc_ne (by omega), upc_ne (by omega)]; omega), at2 _ _ (by omega), at2 _ _ (by omega), s2, upc_ne (by omega), upc_ne (by omega)] at h3
  have s3 : rc (sI (sI σ 2 (ix t) m2) 2 (12 + ix t) m3) 2 = upc (upc c (ix t) (max (-999) (min 9999 (c (ix t) + c (ix w))))) (12 + ix t) (min 99 (c (12 + ix t) + c (12 + ix w))) := by rw [rc_sI (by omega), s2, h3]; rfl
  refine ⟨b3, c3, c4, ?_⟩
  refine sJ_min (fun m4 h4 => ?_)
  simp only [pI, pL, pR, pV, i10, ↓reduceIte, eD_mergeNow_88]
  rw [c1, d1, d2]
  rw [tP (by rw [at2 _ _ (by omega), at2 _ _ (by omega), s3, upc_ne (by omega), upc_ne (by omega), upc_ne (by omega), upc_ne (by omega)]; omega), at2 _ _ (by omega), at2 _ _ (by omega), s3, upc_ne (by omega), upc_ne (by omega), upc_ne (by omega), upc_ne (by omega)] at h4
  have s4 : rc (sI (sI (sI σ 2 (ix t) m2) 2 (12 + ix t) m3) 2 (18 + ix t) m4) 2 = upc (upc (upc c (ix t) (max (-999) (min 9999 (c (ix t) + c (ix w))))) (12 + ix t) (min 99 (c (12 + ix t) + c (12 + ix w)))) (18 + ix t) (min 999 (c (18 + ix t) + c (18 + ix w))) := by rw [rc_sI (by omega), s3, h4]; rfl
  refine ⟨c3, d3, d4, ?_⟩
  refine sJ_max (fun m5 h5 => ?_)
  simp only [pI, pL, pR, pV, i10, ↓reduceIte, eD_mergeNow_109]
  rw [d1, e2]
  rw [at2 _ _ (by omega), at2 _ _ (by omega), s4, upc_ne (by omega), upc_ne (by omega), upc_ne (by omega), upc_ne (by omega), upc_ne (by omega), upc_ne (by omega)] at h5
  refine ⟨d3, e4, h _ (((((fr _ _ _ (by omega)).tr (fr _ _ _ (by omega))).tr (fr _ _ _ (by omega))).tr (fr _ _ _ (by omega))).tr (fr _ _ _ (by omega))) ?_⟩
  rw [rc_sI (by omega), rc_sI (by omega), s4, h5]
  rfl
theorem sM_mergeNow {d : Nat} {Φ : Po} {E : En} {c : Co} {σ : Sg} {w t : Int32} (hO : Ok E c) (hc : mc σ 121 = c) (hp : CanM E c w t) (h : ∀ σ' : Sg, Fr FMk σ σ' → mc σ' 121 = mergF c (ix w) (ix t) → Φ none σ') : wp true (d + 2) nM_mergeNow [.ref 120, .int w, .int t] σ Φ := by
  have inMk : ∀ k, k < 44 → inS FMk 121 (mix k) = true := by decide
  apply wM_mergeNow
  simp only [pI, pL, pR, pV, i10, ↓reduceIte, eM_mergeNow_0]
  have hn := hO.1
  obtain ⟨q0, ⟨q1, q2⟩, ⟨q3, q4⟩⟩ := hp
  have w6 : 0 ≤ w.toInt ∧ w.toInt < 6 := by omega
  have t6 : 0 ≤ t.toInt ∧ t.toInt < 6 := by omega
  have hw6 := ix6 w6
  have ht6 := ix6 t6
  have hne : ix w ≠ ix t := fun e => q0 (eqv (by have := ix_to q1.1; have := ix_to q3.1; omega))
  have hw := hO.w (w := ix w) (by unfold ix; omega)
  have ht := hO.w (w := ix t) (by unfold ix; omega)
  refine sM_getO t6 (fun a1 h1 => ?_)
  simp only [pI, pL, pR, pV, i10, ↓reduceIte, eM_mergeNow_9]
  refine sM_getO w6 (fun a2 h2 => ?_)
  simp only [pI, pL, pR, pV, i10, ↓reduceIte, eM_mergeNow_15]
  rw [hc] at h1 h2
  refine sM_cut (by decide) (fun m1 k1 => ?_)
  simp only [pI, pL, pR, pV, i10, ↓reduceIte, eM_mergeNow_26]
  have v1 : m1.toInt = max (-999) (min 9999 (c (ix t) + c (ix w))) := by
    rw [k1, Int32.toInt_toInt64, tP (by omega), h1, h2]
    show clamp (-999) 9999 _ = _
    unfold clamp
    repeat' split
    all_goals omega
  refine sM_putO t6 (fun σ1 e1 s1 => ?_)
  rw [hc, v1] at s1
  simp only [pI, pL, pR, pV, i10, ↓reduceIte, eM_mergeNow_29]
  refine sM_getW t6 (fun a3 h3 => ?_)
  simp only [pI, pL, pR, pV, i10, ↓reduceIte, eM_mergeNow_38]
  refine sM_getW w6 (fun a4 h4 => ?_)
  simp only [pI, pL, pR, pV, i10, ↓reduceIte, eM_mergeNow_44]
  rw [s1, upc_ne (by omega)] at h3 h4
  refine sM_cut (by decide) (fun m2 k2 => ?_)
  simp only [pI, pL, pR, pV, i10, ↓reduceIte, eM_mergeNow_52]
  have v2 : m2.toInt = min 99 (c (12 + ix t) + c (12 + ix w)) := by
    rw [k2, Int32.toInt_toInt64, tP (by omega), h3, h4]
    show clamp 0 99 _ = _
    unfold clamp
    repeat' split
    all_goals omega
  refine sM_putW t6 (fun σ2 e2 s2 => ?_)
  rw [s1, v2] at s2
  simp only [pI, pL, pR, pV, i10, ↓reduceIte, eM_mergeNow_55]
  refine sM_getD t6 (fun a5 h5 => ?_)
  simp only [pI, pL, pR, pV, i10, ↓reduceIte, eM_mergeNow_64]
  refine sM_getD w6 (fun a6 h6 => ?_)
  simp only [pI, pL, pR, pV, i10, ↓reduceIte, eM_mergeNow_70]
  rw [s2, upc_ne (by omega), upc_ne (by omega)] at h5 h6
  refine sM_cut (by decide) (fun m3 k3 => ?_)
  simp only [pI, pL, pR, pV, i10, ↓reduceIte, eM_mergeNow_79]
  have v3 : m3.toInt = min 999 (c (18 + ix t) + c (18 + ix w)) := by
    rw [k3, Int32.toInt_toInt64, tP (by omega), h5, h6]
    show clamp 0 999 _ = _
    unfold clamp
    repeat' split
    all_goals omega
  refine sM_putD t6 (fun σ3 e3 s3 => ?_)
  rw [s2, v3] at s3
  simp only [pI, pL, pR, pV, i10, ↓reduceIte, eM_mergeNow_82]
  refine sM_getF w6 (fun a7 h7 => ?_)
  simp only [pI, pL, pR, pV, i10, ↓reduceIte, eM_mergeNow_91]
  refine sM_getF t6 (fun a8 h8 => ?_)
  simp only [pI, pL, pR, pV, i10, ↓reduceIte, eM_mergeNow_97]
  rw [s3, upc_ne (by omega), upc_ne (by omega), upc_ne (by omega)] at h7 h8
  have fin : ∀ m : Int32, m.toInt = max (c (6 + ix t)) (c (6 + ix w)) → bM_mergeNow_115 true NOB (wp true (d + 1)) Φ (kM_mergeNow (d + 1) Φ) [.ref 120, .int w, .int t] [.int m, .int 4, .int t, .ref 120] σ3 := by
    intro m hm
    simp only [pI, pL, pR, pV, i10, ↓reduceIte, eM_mergeNow_115]
    refine sM_putF t6 (fun σ4 e4 s4 => ?_)
    rw [s3, hm] at s4
    simp only [pI, pL, pR, pV, i10, ↓reduceIte, eM_mergeNow_118]
    refine sM_putG w6 (fun σ5 e5 s5 => ?_)
    rw [s4] at s5
    simp only [pI, pL, pR, pV, i10, ↓reduceIte, eM_mergeNow_125]
    refine h σ5 ?_ s5
    rw [e5, e4, e3, e2, e1, ← mix_o ht6, ← mix_w ht6, ← mix_d ht6, ← mix_f ht6, ← mix_g hw6]
    exact ((((Fr.sI (inMk _ (by omega))).tr (Fr.sI (inMk _ (by omega)))).tr (Fr.sI (inMk _ (by omega)))).tr (Fr.sI (inMk _ (by omega)))).tr (Fr.sI (inMk _ (by omega)))
  simp only [ile, h7, h8]
  split
  next z =>
    simp only [pI, pL, pR, pV, i10, ↓reduceIte, eM_mergeNow_109]
    refine sM_getF t6 (fun a9 h9 => ?_)
    simp only [pI, pL, pR, pV, i10, ↓reduceIte, eM_mergeNow_109]
    rw [s3, upc_ne (by omega), upc_ne (by omega), upc_ne (by omega)] at h9
    exact fin _ (by rw [h9]; omega)
  next z =>
    refine sM_getF w6 (fun a9 h9 => ?_)
    simp only [pI, pL, pR, pV, i10, ↓reduceIte, eM_mergeNow_106]
    rw [s3, upc_ne (by omega), upc_ne (by omega), upc_ne (by omega)] at h9
    exact fin _ (by rw [h9]; omega)
theorem wsum_merg {c c' : Co} {w t : Nat} (hwt : w ≠ t) (ho : ∀ j, j < 6 → j ≠ w → j ≠ t → (c' (24 + j) = c (24 + j) ∧ c' (12 + j) = c (12 + j))) (hw : c' (24 + w) = 1) (ht : c' (24 + t) = 0 ∧ c (24 + t) = 0 ∧ c (24 + w) = 0 ∧ c' (12 + t) ≤ c (12 + t) + c (12 + w)) : ∀ n, n ≤ 6 → wsum c' n ≤ wsum c n + (if t < n then c (12 + w) else 0) - (if w < n then c (12 + w) else 0)
  | 0, _ => by
    rw [if_neg (by omega), if_neg (by omega)]
    show (0 : Int) ≤ 0 + 0 - 0
    omega
  | n + 1, hn => by
    have ih := wsum_merg hwt ho hw ht n (by omega)
    show wsum c' n + (if c' (24 + n) = 0 then c' (12 + n) else 0) ≤ wsum c n + (if c (24 + n) = 0 then c (12 + n) else 0) + _ - _
    by_cases e1 : n = w
    · subst e1
      rw [hw]
      try rw [if_neg (by decide)]
      rw [if_pos ht.2.2.1]
      have a1 : (if t < n + 1 then c (12 + n) else 0) = (if t < n then c (12 + n) else 0) := by
        by_cases q : t < n
        · rw [if_pos q, if_pos (by omega)]
        · rw [if_neg q, if_neg (by omega)]
      rw [a1, if_pos (by omega : n < n + 1)]
      rw [if_neg (by omega : ¬ n < n)] at ih
      omega
    · by_cases e2 : n = t
      · subst e2
        rw [if_pos ht.1, if_pos ht.2.1]
        have a1 : (if w < n + 1 then c (12 + w) else 0) = (if w < n then c (12 + w) else 0) := by
          by_cases q : w < n
          · rw [if_pos q, if_pos (by omega)]
          · rw [if_neg q, if_neg (by omega)]
        rw [a1, if_pos (by omega : n < n + 1)]
        rw [if_neg (by omega : ¬ n < n)] at ih
        have := ht.2.2.2
        omega
      · rw [(ho n (by omega) e1 e2).1, (ho n (by omega) e1 e2).2]
        have a1 : (if w < n + 1 then c (12 + w) else 0) = (if w < n then c (12 + w) else 0) := by
          by_cases q : w < n
          · rw [if_pos q, if_pos (by omega)]
          · rw [if_neg q, if_neg (by omega)]
        have a2 : (if t < n + 1 then c (12 + w) else 0) = (if t < n then c (12 + w) else 0) := by
          by_cases q : t < n
          · rw [if_pos q, if_pos (by omega)]
          · rw [if_neg q, if_neg (by omega)]
        rw [a1, a2]
        omega
theorem mergF_ok {E : En} {c : Co} {w t : Int32} (hO : Ok E c) (hp : CanM E c w t) : Ok E (mergF c (ix w) (ix t)) ∧ (∀ k, 30 ≤ k → mergF c (ix w) (ix t) k = c k) ∧ (∀ k, Untold (eN E) (eV E) k → mergF c (ix w) (ix t) k = c k) ∧ wsum (mergF c (ix w) (ix t)) (eN E) ≤ wsum c (eN E) ∧ mergF c (ix w) (ix t) (ix t) = max (-999) (min 9999 (c (ix t) + c (ix w))) := by
  obtain ⟨q0, ⟨q1, q2⟩, ⟨q3, q4⟩⟩ := hp
  have hn := hO.1
  have hwn : ix w < eN E := by unfold ix; omega
  have htn : ix t < eN E := by unfold ix; omega
  have hne : ix w ≠ ix t := fun e => q0 (eqv (by have := ix_to q1.1; have := ix_to q3.1; omega))
  have hw := hO.w hwn
  have ht := hO.w htn
  generalize ix w = W at *
  generalize ix t = T at *
  have cell : ∀ k, mergF c W T k = if k = 24 + W then 1 else if k = 6 + T then max (c (6 + T)) (c (6 + W)) else if k = 18 + T then min 999 (c (18 + T) + c (18 + W)) else if k = 12 + T then min 99 (c (12 + T) + c (12 + W)) else if k = T then max (-999) (min 9999 (c T + c W)) else c k := fun k => rfl
  refine ⟨Ok.gen hO ?_ ?_ (fun j hj => ?_) (fun j hj => ?_), fun k hk => ?_, fun k hk => ?_, ?_, ?_⟩
  · rw [cell, if_neg (by omega), if_neg (by omega), if_neg (by omega), if_neg (by omega), if_neg (by omega)]; exact hO.2.2.1
  · rw [cell, if_neg (by omega), if_neg (by omega), if_neg (by omega), if_neg (by omega), if_neg (by omega)]; exact hO.2.2.2.1
  · have hj' := hO.w hj
    refine ⟨?_, ?_, ?_, ?_, ?_⟩
    · rw [cell, if_neg (by omega), if_neg (by omega), if_neg (by omega), if_neg (by omega)]; split <;> omega
    · rw [cell, if_neg (by omega)]
      split
      · omega
      · rw [if_neg (by omega), if_neg (by omega), if_neg (by omega)]; omega
    · rw [cell, if_neg (by omega), if_neg (by omega), if_neg (by omega)]
      split
      · omega
      · rw [if_neg (by omega)]; omega
    · rw [cell, if_neg (by omega), if_neg (by omega)]
      split
      · omega
      · rw [if_neg (by omega), if_neg (by omega)]; omega
    · rw [cell]
      split
      · omega
      · rw [if_neg (by omega), if_neg (by omega), if_neg (by omega), if_neg (by omega)]; exact hj'.2.2.2.2
  · rw [cell, if_neg (by omega), if_neg (by omega), if_neg (by omega), if_neg (by omega), if_neg (by omega)]; exact hO.v hj
  · rw [cell, if_neg (by omega), if_neg (by omega), if_neg (by omega), if_neg (by omega), if_neg (by omega)]
  · unfold Untold at hk
    rw [cell, if_neg (by omega), if_neg (by omega), if_neg (by omega), if_neg (by omega), if_neg (by omega)]
  · have h := wsum_merg (c := c) (c' := mergF c W T) (w := W) (t := T) hne (fun j h0 h1 h2 => ?_) ?_ ?_ (eN E) hn
    · rw [if_pos htn, if_pos hwn] at h
      omega
    · constructor
      · rw [cell, if_neg (by omega), if_neg (by omega), if_neg (by omega), if_neg (by omega), if_neg (by omega)]
      · rw [cell, if_neg (by omega), if_neg (by omega), if_neg (by omega), if_neg (by omega), if_neg (by omega)]
    · rw [cell]
      try rw [if_pos rfl]
    · refine ⟨?_, q4, q2, ?_⟩
      · rw [cell, if_neg (by omega), if_neg (by omega), if_neg (by omega), if_neg (by omega), if_neg (by omega)]; exact q4
      · rw [cell, if_neg (by omega), if_neg (by omega), if_neg (by omega), if_pos rfl]; omega
  · rw [cell, if_neg (by omega), if_neg (by omega), if_neg (by omega), if_neg (by omega)]
    try rw [if_pos rfl]
