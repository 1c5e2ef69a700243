/-! THE BOOK -/
def pgF (i : Int) (a : Nat → Int) : Nat := (a 10 - min 30 (a 10) + i).toNat % 1230
def bookF (i k : Int) (a : Nat → Int) : Int := if i = -1 then min 30 (a 10) else if (0 ≤ i ∧ i < min 30 (a 10)) ∧ (0 ≤ k ∧ k ≤ 3) then (if k = 0 then a (1556 + 2 * pgF i a) else if k = 1 then a (1557 + 2 * pgF i a) / 10000 - 1 else if k = 2 then a (1557 + 2 * pgF i a) / 1000 % 10 else a (1557 + 2 * pgF i a) % 1000) else -2
theorem pg2 {w f t p x : Int} (h : x = ((t * 10 + f) * 10 + w + 1) * 10000 + p) (hw : -1 ≤ w ∧ w < 6) (hf : 0 ≤ f ∧ f ≤ 9) (ht : 0 ≤ t ∧ t ≤ 594) (hp : 0 ≤ p ∧ p ≤ 9999) : x / 100000 % 10 = f := by
  have : x / 100000 = 10 * t + f := by omega
  omega
theorem eg2 {w f t x : Int} (h : x = (w + 1) * 10000 + f * 1000 + t) (hw : -1 ≤ w ∧ w < 6) (hf : 0 ≤ f ∧ f ≤ 9) (ht : 0 ≤ t ∧ t ≤ 594) : x / 1000 % 10 = f := by
  have : x / 1000 = 10 * (w + 1) + f := by omega
  omega
theorem sW_pages {d : Nat} {Φ : Po} {σ : Sg} (h : ∀ v : Int32, v.toInt = min 30 (rd σ 2 44) → Φ (some (.int v)) σ) : wp true (d + 2) nW_pages [.ref 1] σ Φ := by
  apply wW_pages
  simp only [pI, pL, pR, pV, i10, ↓reduceIte, eW_pages_0]
  refine ⟨⟨by decide, by decide⟩, ?_⟩
  refine sJ_min (fun m hm => ?_)
  simp only [pI, pL, pR, pV, i10, ↓reduceIte, eW_pages_12]
  exact h m hm
theorem sM_shown {d : Nat} {Φ : Po} {σ : Sg} (h : ∀ v : Int32, v.toInt = min 30 (rd σ 121 10) → Φ (some (.int v)) σ) : wp true (d + 1) nM_shown [.ref 120] σ Φ := by
  apply wM_shown
  simp only [pI, pL, pR, pV, i10, ↓reduceIte, eM_shown_0]
  have e : (gI σ 121 (ix 10)).toInt = rd σ 121 10 := rfl
  simp only [ile, e, show (30 : Int32).toInt = 30 from rfl]
  refine ⟨⟨by decide, by decide⟩, ?_⟩
  split
  next z =>
    simp only [pI, pL, pR, pV, i10, ↓reduceIte, eM_shown_22, eM_shown_24]
    exact h 30 (by rw [show (30 : Int32).toInt = 30 from rfl]; omega)
  next z =>
    simp only [pI, pL, pR, pV, i10, ↓reduceIte, eM_shown_24]
    exact ⟨⟨by decide, by decide⟩, h _ (by rw [e]; omega)⟩
theorem R.page {lws : Lws} {σ : Sg} (h : R lws σ) {i : Int} (hi : 0 ≤ i ∧ i < min 30 (rd σ 121 10)) : ∃ (p : Nat) (w f t : Int), (p : Int) = rd σ 121 10 - min 30 (rd σ 121 10) + i ∧ p ≤ 9999 ∧ pgF i (rd σ 121) = p % 1230 ∧ (-1 ≤ w ∧ w < 6) ∧ (0 ≤ f ∧ f ≤ 9) ∧ (0 ≤ t ∧ t ≤ 594) ∧ rd σ 2 (45 + p % 30) = pgV w f t p ∧ rd σ 121 (1556 + 2 * (p % 1230)) = p ∧ rd σ 121 (1557 + 2 * (p % 1230)) = (w + 1) * 10000 + f * 1000 + t := by
  have g8 := h.1.2.2.2.2.2.2.2.1
  have d := h.ok.2.2.1
  have e8 : rd σ 121 10 = mc σ 121 42 := g8.2.1
  obtain ⟨p, hp⟩ : ∃ p : Nat, (p : Int) = rd σ 121 10 - min 30 (rd σ 121 10) + i := ⟨(rd σ 121 10 - min 30 (rd σ 121 10) + i).toNat, by omega⟩
  obtain ⟨w, f, t, b⟩ := g8.2.2 p (by omega) (by omega)
  refine ⟨p, w, f, t, hp, by omega, ?_, b⟩
  unfold pgF
  rw [← hp]
  rfl
theorem R.wr {lws : Lws} {σ : Sg} (h : R lws σ) : rd σ 2 44 = rd σ 121 10 ∧ 0 ≤ rd σ 121 10 ∧ rd σ 121 10 ≤ 9999 := by
  have g8 := h.1.2.2.2.2.2.2.2.1
  have d := h.ok.2.2.1
  have e8 : rd σ 121 10 = mc σ 121 42 := g8.2.1
  exact ⟨g8.1, by omega, by omega⟩
theorem sW_page {d : Nat} {Φ : Po} {lws : Lws} {σ : Sg} {i k : Int32} (hR : R lws σ) (hi : 0 ≤ i.toInt ∧ i.toInt < min 30 (rd σ 121 10)) (hk : 0 ≤ k.toInt ∧ k.toInt ≤ 3) (h : ∀ v : Int32, v.toInt = bookF i.toInt k.toInt (rd σ 121) → Φ (some (.int v)) σ) : wp true (d + 3) nW_page [.ref 1, .int i, .int k] σ Φ := by
  have l0 : (0 : Int32).toInt = 0 := rfl
  have l3 : (3 : Int32).toInt = 3 := rfl
  obtain ⟨w1, w2, w3⟩ := hR.wr
  have z : ¬ i.toInt = -1 := by omega
  have y4 : k.toInt ≤ 3 := hk.2
  have y3 := hk.1
  obtain ⟨p, w, f, t, hp, p9, hg, b1, b2, b3, r1, r2, r3⟩ := hR.page (i := i.toInt) (by omega)
  apply wW_page
  simp only [pI, pL, pR, pV, i10, ↓reduceIte, eW_page_0]
  refine ⟨⟨by decide, by decide⟩, ?_⟩
  refine sW_pages (fun u hu => ?_)
  have e44 : (gI σ 2 (ix 44)).toInt = rd σ 121 10 := w1
  rw [w1] at hu
  have a1 : (gI σ 2 (ix 44) - u).toInt = rd σ 121 10 - min 30 (rd σ 121 10) := by rw [tM (by rw [e44, hu]; omega), e44, hu]
  have a2 : (gI σ 2 (ix 44) - u + i).toInt = p := by rw [tP (by rw [a1]; omega), a1, hp]
  have a3 : ((gI σ 2 (ix 44) - u + i) % 30).toInt = (p % 30 : Nat) := by
    rw [tR (by omega), a2, show (30 : Int32).toInt = 30 from rfl]
    omega
  have m30 : p % 30 < 30 := Nat.mod_lt _ (by decide)
  have a4 : (45 + (gI σ 2 (ix 44) - u + i) % 30).toInt = (45 + p % 30 : Nat) := by
    rw [tP (by rw [a3, show (45 : Int32).toInt = 45 from rfl]; omega), a3, show (45 : Int32).toInt = 45 from rfl]
    omega
  have a5 : ix (45 + (gI σ 2 (ix 44) - u + i) % 30) = 45 + p % 30 := ix_of a4
  simp only [pI, pL, pR, pV, i10, ↓reduceIte, eW_page_17]
  rw [a5]
  refine ⟨by decide, ⟨by omega, by omega⟩, ?_⟩
  have ev : (gI σ 2 (45 + p % 30)).toInt = pgV w f t p := r1
  generalize gI σ 2 (45 + p % 30) = x at ev
  unfold pgV at ev
  have k4 : (10000 : Int32).toInt = 10000 := rfl
  have k5 : (100000 : Int32).toInt = 100000 := rfl
  have k6 : (1000000 : Int32).toInt = 1000000 := rfl
  have k10 : (10 : Int32).toInt = 10 := rfl
  have xn : 0 ≤ x.toInt := by omega
  have bF : ∀ v : Int32, v.toInt = (if k.toInt = 0 then (p : Int) else if k.toInt = 1 then w else if k.toInt = 2 then f else t) → Φ (some (.int v)) σ := fun v hv => by
    refine h v ?_
    unfold bookF
    rw [if_neg z, if_pos ⟨⟨by omega, by omega⟩, hk⟩, hg, r2, r3, hv]
    split
    · rfl
    split
    · omega
    split
    · omega
    · omega
  split
  next q0 =>
    simp only [pI, pL, pR, pV, i10, ↓reduceIte, eW_page_52]
    refine ⟨by decide, bF _ ?_⟩
    rw [if_pos q0, tR xn, k4]
    omega
  next q0 =>
    split
    next q1 =>
      simp only [pI, pL, pR, pV, i10, ↓reduceIte, eW_page_58]
      refine ⟨by decide, by decide, bF _ ?_⟩
      have d1 : (x / 10000).toInt = x.toInt / 10000 := by rw [tD (by omega) (by rw [k4]; omega), k4]
      have d2 : (x / 10000 % 10).toInt = x.toInt / 10000 % 10 := by rw [tR (by rw [d1]; omega), d1, k10]
      rw [if_neg q0, if_pos q1, tM (by rw [d2, show (1 : Int32).toInt = 1 from rfl]; omega), d2, show (1 : Int32).toInt = 1 from rfl]
      omega
    next q1 =>
      split
      next q2 =>
        simp only [pI, pL, pR, pV, i10, ↓reduceIte, eW_page_69]
        refine ⟨by decide, by decide, bF _ ?_⟩
        have d1 : (x / 100000).toInt = x.toInt / 100000 := by rw [tD (by omega) (by rw [k5]; omega), k5]
        have d2 : (x / 100000 % 10).toInt = x.toInt / 100000 % 10 := by rw [tR (by rw [d1]; omega), d1, k10]
        rw [if_neg q0, if_neg q1, if_pos q2, d2]
        exact pg2 ev b1 b2 b3 (by omega)
      next q2 =>
        simp only [pI, pL, pR, pV, i10, ↓reduceIte, eW_page_77]
        refine ⟨by decide, bF _ ?_⟩
        have d1 : (x / 1000000).toInt = x.toInt / 1000000 := by rw [tD (by omega) (by rw [k6]; omega), k6]
        rw [if_neg q0, if_neg q1, if_neg q2, d1]
        omega
theorem sM_entry {d : Nat} {Φ : Po} {lws : Lws} {σ : Sg} {i k : Int32} (hR : R lws σ) (hi : 0 ≤ i.toInt ∧ i.toInt < min 30 (rd σ 121 10)) (hk : 0 ≤ k.toInt ∧ k.toInt ≤ 3) (h : ∀ v : Int32, v.toInt = bookF i.toInt k.toInt (rd σ 121) → Φ (some (.int v)) σ) : wp true (d + 2) nM_entry [.ref 120, .int i, .int k] σ Φ := by
  have l0 : (0 : Int32).toInt = 0 := rfl
  have l3 : (3 : Int32).toInt = 3 := rfl
  obtain ⟨w1, w2, w3⟩ := hR.wr
  have z : ¬ i.toInt = -1 := by omega
  have q2 := hk
  obtain ⟨p, w, f, t, hp, p9, hg, b1, b2, b3, r1, r2, r3⟩ := hR.page (i := i.toInt) (by omega)
  apply wM_entry
  simp only [pI, pL, pR, pV, i10, ↓reduceIte, eM_entry_0]
  refine ⟨⟨by decide, by decide⟩, ?_⟩
  refine sM_shown (fun u hu => ?_)
  have e10 : (gI σ 121 (ix 10)).toInt = rd σ 121 10 := rfl
  have a1 : (gI σ 121 (ix 10) - u).toInt = rd σ 121 10 - min 30 (rd σ 121 10) := by rw [tM (by rw [e10, hu]; omega), e10, hu]
  have a2 : (gI σ 121 (ix 10) - u + i).toInt = p := by rw [tP (by rw [a1]; omega), a1, hp]
  have m12 : p % 1230 < 1230 := Nat.mod_lt _ (by decide)
  have a3 : ((gI σ 121 (ix 10) - u + i) % 1230).toInt = (p % 1230 : Nat) := by
    rw [tR (by omega), a2, show (1230 : Int32).toInt = 1230 from rfl]
    omega
  have a4 : (2 * ((gI σ 121 (ix 10) - u + i) % 1230)).toInt = (2 * (p % 1230) : Nat) := by
    rw [tX (by rw [a3, show (2 : Int32).toInt = 2 from rfl]; omega), a3, show (2 : Int32).toInt = 2 from rfl]
    omega
  have a5 : (1556 + 2 * ((gI σ 121 (ix 10) - u + i) % 1230)).toInt = (1556 + 2 * (p % 1230) : Nat) := by
    rw [tP (by rw [a4, show (1556 : Int32).toInt = 1556 from rfl]; omega), a4, show (1556 : Int32).toInt = 1556 from rfl]
    omega
  simp only [pI, pL, pR, pV, i10, ↓reduceIte, eM_entry_15]
  generalize 1556 + 2 * ((gI σ 121 (ix 10) - u + i) % 1230) = y at a5
  have y0 : ix y = 1556 + 2 * (p % 1230) := ix_of a5
  have y1t : (y + 1).toInt = (1557 + 2 * (p % 1230) : Nat) := by rw [t1 (by omega), a5]; omega
  have y1 : ix (y + 1) = 1557 + 2 * (p % 1230) := ix_of y1t
  have bi : inb (y + 1) 4016 := ⟨by omega, by omega⟩
  have bF : ∀ v : Int32, v.toInt = (if k.toInt = 0 then (p : Int) else if k.toInt = 1 then w else if k.toInt = 2 then f else t) → Φ (some (.int v)) σ := fun v hv => by
    refine h v ?_
    unfold bookF
    rw [if_neg z, if_pos ⟨⟨by omega, by omega⟩, q2⟩, hg, r2, r3, hv]
    split
    · rfl
    split
    · omega
    split
    · omega
    · omega
  have ev : (gI σ 121 (1557 + 2 * (p % 1230))).toInt = (w + 1) * 10000 + f * 1000 + t := r3
  have ev0 : (gI σ 121 (1556 + 2 * (p % 1230))).toInt = p := r2
  have k4 : (10000 : Int32).toInt = 10000 := rfl
  have k3 : (1000 : Int32).toInt = 1000 := rfl
  have k10 : (10 : Int32).toInt = 10 := rfl
  have c0 : (k = 0) = (k.toInt = 0) := by rw [ieq]; rfl
  have c1 : (k = 1) = (k.toInt = 1) := by rw [ieq]; rfl
  have c2 : (k = 2) = (k.toInt = 2) := by rw [ieq]; rfl
  refine ⟨by decide, ?_⟩
  simp only [c0]
  split
  next s0 =>
    simp only [pI, pL, pR, pV, i10, ↓reduceIte, eM_entry_95]
    rw [y0]
    exact ⟨⟨by omega, by omega⟩, bF _ (by rw [ev0, if_pos s0])⟩
  next s0 =>
    simp only [pI, pL, pR, pV, i10, ↓reduceIte, eM_entry_38]
    simp only [c1]
    rw [y1]
    obtain ⟨x, hx⟩ : ∃ x, gI σ 121 (1557 + 2 * (p % 1230)) = x := ⟨_, rfl⟩
    rw [hx] at ev ⊢
    have xn : 0 ≤ x.toInt := by omega
    split
    next s1 =>
      simp only [pI, pL, pR, pV, i10, ↓reduceIte, eM_entry_95]
      have d1 : (x / 10000).toInt = x.toInt / 10000 := by rw [tD (by omega) (by rw [k4]; omega), k4]
      refine ⟨bi, by decide, bF _ ?_⟩
      rw [if_neg s0, if_pos s1, tM (by rw [d1, show (1 : Int32).toInt = 1 from rfl]; omega), d1, show (1 : Int32).toInt = 1 from rfl]
      omega
    next s1 =>
      simp only [pI, pL, pR, pV, i10, ↓reduceIte, eM_entry_60]
      simp only [c2]
      rw [y1, hx]
      split
      next s2 =>
        simp only [pI, pL, pR, pV, i10, ↓reduceIte, eM_entry_95]
        have d1 : (x / 1000).toInt = x.toInt / 1000 := by rw [tD (by omega) (by rw [k3]; omega), k3]
        have d2 : (x / 1000 % 10).toInt = x.toInt / 1000 % 10 := by rw [tR (by rw [d1]; omega), d1, k10]
        refine ⟨bi, by decide, by decide, bF _ ?_⟩
        rw [if_neg s0, if_neg s1, if_pos s2, d2]
        exact eg2 ev b1 b2 b3
      next s2 =>
        simp only [pI, pL, pR, pV, i10, ↓reduceIte, eM_entry_83]
        simp only [pI, pL, pR, pV, i10, ↓reduceIte, eM_entry_95]
        rw [y1, hx]
        refine ⟨bi, by decide, bF _ ?_⟩
        rw [if_neg s0, if_neg s1, if_neg s2, tR xn, k3]
        omega
theorem p_book (i k : Int32) : PairI Rel nX_book nM_book [.int i, .int k] := by
  have l1 : (-1 : Int32).toInt = -1 := rfl
  have l0 : (0 : Int32).toInt = 0 := rfl
  have l3 : (3 : Int32).toInt = 3 := rfl
  have cN : (i = -1) = (i.toInt = -1) := by rw [ieq]; rfl
  refine qryI (fun _ _ a => bookF i.toInt k.toInt a) (fun lws σ Φ hR h => ?_) (fun lws σ Φ hR h => ?_)
  · obtain ⟨w1, w2, w3⟩ := hR.wr
    apply wX_book
    simp only [pI, pL, pR, pV, i10, ↓reduceIte, eX_book_0]
    simp only [cN]
    split
    next z =>
      refine sW_pages (fun v hv => ?_)
      simp only [pI, pL, pR, pV, i10, ↓reduceIte, eX_book_12]
      refine h v σ Fr.rf ?_
      unfold bookF
      rw [if_pos z, hv, w1]
    next z =>
      have no : ¬ ((0 ≤ i.toInt ∧ i.toInt < min 30 (rd σ 121 10)) ∧ (0 ≤ k.toInt ∧ k.toInt ≤ 3)) → bX_book_37 true NOB (wp true 12) Φ (kX_book 12 Φ) [.ref 0, .int i, .int k] [] σ := fun q => by
        simp only [pI, pL, pR, pV, i10, ↓reduceIte, eX_book_37]
        refine h _ σ Fr.rf ?_
        unfold bookF
        rw [if_neg z, if_neg q]
        rfl
      simp only [pI, pL, pR, pV, i10, ↓reduceIte, eX_book_13]
      simp only [ilt, l0]
      split
      next => exact no (by omega)
      next y1 =>
        refine sW_pages (fun v hv => ?_)
        simp only [pI, pL, pR, pV, i10, ↓reduceIte, eX_book_25]
        simp only [ile, ilt, ile, l0, l3, hv, w1]
        split
        next => exact no (by omega)
        next y2 =>
          split
          next => exact no (by omega)
          next y3 =>
            split
            next y4 =>
              simp only [pI, pL, pR, pV, i10, ↓reduceIte, eX_book_40]
              refine sW_page hR (by omega) (by omega) (fun v hv => ?_)
              simp only [pI, pL, pR, pV, i10, ↓reduceIte, eX_book_49]
              exact h v σ Fr.rf hv
            next => exact no (by omega)
  · obtain ⟨w1, w2, w3⟩ := hR.wr
    apply wM_book
    simp only [pI, pL, pR, pV, i10, ↓reduceIte, eM_book_0]
    simp only [cN]
    split
    next z =>
      refine sM_shown (fun v hv => ?_)
      simp only [pI, pL, pR, pV, i10, ↓reduceIte, eM_book_9]
      refine h v σ Fr.rf ?_
      unfold bookF
      rw [if_pos z, hv]
    next z =>
      have no : ¬ ((0 ≤ i.toInt ∧ i.toInt < min 30 (rd σ 121 10)) ∧ (0 ≤ k.toInt ∧ k.toInt ≤ 3)) → bM_book_42 true NOB (wp true 12) Φ (kM_book 12 Φ) [.ref 120, .int i, .int k] [] σ := fun q => by
        simp only [pI, pL, pR, pV, i10, ↓reduceIte, eM_book_42, eM_book_44]
        refine h _ σ Fr.rf ?_
        unfold bookF
        rw [if_neg z, if_neg q]
        rfl
      simp only [pI, pL, pR, pV, i10, ↓reduceIte, eM_book_10]
      refine sM_shown (fun v hv => ?_)
      simp only [pI, pL, pR, pV, i10, ↓reduceIte, eM_book_16]
      have v1 : (v - 1).toInt = min 30 (rd σ 121 10) - 1 := by rw [tM (by rw [hv, show (1 : Int32).toInt = 1 from rfl]; omega), hv]; rfl
      refine sM_isIn (fun q1 => ?_) (fun q1 => ?_)
      rotate_left
      · simp only [pI, pL, pR, pV, i10, ↓reduceIte, eM_book_21]
        try rw [if_pos rfl]
        rw [v1, l0] at q1
        exact no (by omega)
      rw [v1, l0] at q1
      simp only [pI, pL, pR, pV, i10, ↓reduceIte, eM_book_21]
      try rw [if_neg (by decide)]
      refine sM_isIn (fun q2 => ?_) (fun q2 => ?_)
      rotate_left
      · simp only [pI, pL, pR, pV, i10, ↓reduceIte, eM_book_30]
        try rw [if_pos rfl]
        rw [l0, l3] at q2
        exact no (by omega)
      rw [l0, l3] at q2
      simp only [pI, pL, pR, pV, i10, ↓reduceIte, eM_book_30]
      try rw [if_neg (by decide)]
      refine sM_entry hR (by omega) q2 (fun v hv => ?_)
      simp only [pI, pL, pR, pV, i10, ↓reduceIte, eM_book_39, eM_book_44]
      exact h v σ Fr.rf hv
