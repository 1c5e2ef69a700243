/-! LEAST TO PAY: the reference -/
theorem sM_has {d : Nat} {Φ : Po} {σ : Sg} {x0 x1 : Int32} {s w : Nat} (h0 : x0.toInt = s) (hs : s < 64) (h1 : x1.toInt = w) (hw : w < 6) (ht : s.testBit w = true → Φ (some (.int 1)) σ) (hf : s.testBit w = false → Φ (some (.int 0)) σ) : wp true (d + 1) nM_has [.int x0, .int x1] σ Φ := by
  apply wM_has
  simp only [pI, pL, pR, pV, i10, ↓reduceIte, eM_has_0]
  have cb := bitI h0 hs h1 hw
  simp only [cb]
  split
  next z =>
    simp only [pI, pL, pR, pV, i10, ↓reduceIte, eM_has_14]
    rw [zB_1]
    exact ht z
  next z =>
    simp only [pI, pL, pR, pV, i10, ↓reduceIte, eM_has_13, eM_has_14]
    rw [zB_0]
    cases q : s.testBit w
    · exact hf q
    · exact absurd q z
theorem sM_owedBy {d : Nat} {Φ : Po} {E : En} {c : Co} {σ : Sg} {x1 x2 : Int32} {s : Nat} (hO : Ok E c) (hn : rd σ 121 0 = eN E) (hc : mc σ 121 = c) (hx : x1.toInt = s) (hs : s < 64) (h : ∀ (σ' : Sg) (v : Int32), v.toInt = penS c s (eN E) → (x2 = 0 → σ' = σ) → (x2 ≠ 0 → Fr FMk σ σ' ∧ mc σ' 121 = payS c s (eN E)) → Φ (some (.int v)) σ') : wp true (d + 2) nM_owedBy [.ref 120, .int x1, .int x2] σ Φ := by
  have n6 := hO.1
  have inMk : ∀ k, k < 44 → inS FMk 121 (mix k) = true := by decide
  have lp : ∀ (n m : Nat) (σ' : Sg) (x3 x4 : Int32), m + n = eN E → x4.toInt = m → x3.toInt = penS c s m → (x2 = 0 → σ' = σ) → (x2 ≠ 0 → Fr FMk σ σ' ∧ mc σ' 121 = payS c s m) → bM_owedBy_5 true NOB (wp true (d + 1)) Φ (kM_owedBy (d + 1) Φ) [.ref 120, .int x1, .int x2, .int x3, .int x4] [] σ' := by
    intro n
    induction n with
    | zero =>
      intro m σ' x3 x4 hm h4 h3 e0 e1
      have n1 : (gI σ' 121 (ix 0)).toInt = eN E := by
        by_cases z : x2 = 0
        · rw [e0 z]; exact hn
        · have : gI σ' 121 0 = gI σ 121 0 := (e1 z).1.1 121 0 (by decide)
          rw [show ix 0 = 0 from rfl, this]
          exact hn
      obtain rfl : m = eN E := by omega
      simp only [pI, pL, pR, pV, i10, ↓reduceIte, eM_owedBy_5, eM_owedBy_56]
      simp only [ile, n1, h4]
      rw [if_pos (by omega)]
      exact ⟨⟨by decide, by decide⟩, h σ' x3 h3 e0 e1⟩
    | succ n ih =>
      intro m σ' x3 x4 hm h4 h3 e0 e1
      have n1 : (gI σ' 121 (ix 0)).toInt = eN E := by
        by_cases z : x2 = 0
        · rw [e0 z]; exact hn
        · have : gI σ' 121 0 = gI σ 121 0 := (e1 z).1.1 121 0 (by decide)
          rw [show ix 0 = 0 from rfl, this]
          exact hn
      have h41 : (x4 + 1).toInt = ((m + 1 : Nat) : Int) := by rw [tq1 x4 (by omega), h4]; omega
      have hpb := penS_b (s := s) hO m (by omega)
      have hix : ix x4 = m := ix_of h4
      have eP : penS c s (m + 1) = penS c s m + if s.testBit m = true then c m else 0 := rfl
      have eC : payS c s (m + 1) = if s.testBit m = true then upc (payS c s m) m 0 else payS c s m := rfl
      have hw := (hO.w (w := m) (by omega)).1
      have hcm : mc σ' 121 m = c m := by
        by_cases z : x2 = 0
        · rw [e0 z, hc]
        · rw [(e1 z).2, (payS_ok hO m (by omega)).2 m (Nat.le_refl _)]
      simp only [pI, pL, pR, pV, i10, ↓reduceIte, eM_owedBy_5]
      simp only [ile, n1, h4]
      rw [if_neg (by omega)]
      refine ⟨⟨by decide, by decide⟩, ?_⟩
      refine sM_has hx hs h4 (by omega) (fun z => ?_) (fun z => ?_)
      · rw [if_pos z] at eP eC
        simp only [pI, pL, pR, pV, i10, ↓reduceIte, eM_owedBy_22, eM_owedBy_28]
        refine sM_getO (by omega) (fun o ho => ?_)
        rw [hix, hcm] at ho
        have hsum : (x3 + o).toInt = penS c s (m + 1) := by rw [tP (by omega), h3, ho, eP]
        simp only [pI, pL, pR, pV, i10, ↓reduceIte, eM_owedBy_36]
        split
        next y =>
          simp only [pI, pL, pR, pV, i10, ↓reduceIte, eM_owedBy_50]
          exact hM_owedBy_5 _ _ _ _ _ (ih (m + 1) σ' _ (x4 + 1) (by omega) h41 hsum e0 (fun q => absurd y q))
        next y =>
          refine sM_putO (by omega) (fun σ2 e2 hm2 => ?_)
          rw [hix] at e2 hm2
          simp only [pI, pL, pR, pV, i10, ↓reduceIte, eM_owedBy_50]
          refine hM_owedBy_5 _ _ _ _ _ (ih (m + 1) σ2 _ (x4 + 1) (by omega) h41 hsum (fun q => absurd q y) (fun q => ⟨?_, ?_⟩))
          · rw [e2, ← mix_o (by omega : m < 6)]
            exact (e1 q).1.tr (Fr.sI (inMk _ (by omega)))
          · rw [hm2, (e1 q).2, eC]
            rfl
      · have zf : ¬ s.testBit m = true := by rw [z]; decide
        rw [if_neg zf] at eP eC
        simp only [pI, pL, pR, pV, i10, ↓reduceIte, eM_owedBy_22, eM_owedBy_50]
        exact hM_owedBy_5 _ _ _ _ _ (ih (m + 1) σ' x3 (x4 + 1) (by omega) h41 (by rw [eP, h3]; omega) e0 (fun q => by rw [eC]; exact e1 q))
  apply wM_owedBy
  simp only [pI, pL, pR, pV, i10, ↓reduceIte, eM_owedBy_0]
  exact lp (eN E) 0 σ 0 0 (by omega) rfl rfl (fun _ => rfl) (fun _ => ⟨Fr.rf, hc⟩)
theorem MEk {σ σ' : Sg} {E : En} (h : Fr FMk σ σ') (g : ME σ E) : ME σ' E := by
  have n : ∀ w, w < 6 → inS FMk 121 (12 + 8 * w) = false ∧ inS FMk 121 (60 + 4 * w) = false := by decide
  exact ME.of ⟨h.rd (by decide), h.rd (by decide), h.rd (by decide)⟩ (fun w hw => h.rd (n w hw).1) (fun v hv => h.rd (n v hv).2) (fun k => h.rd (not_inS (fun e he z => by
    have : ∀ e, e ∈ FMk → e.1 ≠ 123 := by decide
    exact this e he z.1))) g
theorem sM_takenBy {d : Nat} {Φ : Po} {lws : Lws} {E : En} {c : Co} {a : Nat → Int} {σ : Sg} {x1 x2 : Int32} {s : Nat} (g0 : Wd lws E c a σ) (hx : x1.toInt = s) (hs : s < 64) (hn : 0 ≤ x2.toInt ∧ x2.toInt ≤ 60) (h : ∀ (σ' : Sg) (v : Int32), Fi MS σ σ' → v.toInt = tkN E (payS c s (eN E)) (canN c (ix x2)) → Φ (some (.int v)) σ') : wp true (d + 12) nM_takenBy [.ref 120, .int x1, .int x2] σ Φ := by
  obtain ⟨hO, -, -, hE, hc, hT⟩ := g0.all
  obtain ⟨hOp, hPp⟩ := payS_ok (s := s) hO (eN E) (Nat.le_refl _)
  have n6 := hO.1
  have hTp := payS_tk (s := s) hO hT
  have h42 : payS c s (eN E) 42 = c 42 := hPp 42 (by omega)
  have hcan : ∀ n, canN (payS c s (eN E)) n = canN c n := fun n => by
    unfold canN
    rw [h42]
  have hfl := g0.1.fl
  have hix := ix_to hn.1
  apply wM_takenBy
  simp only [pI, pL, pR, pV, i10, ↓reduceIte, eM_takenBy_0]
  refine sM_setAside (fun σ1 h1 h2 hz h28 => ?_)
  simp only [pI, pL, pR, pV, i10, ↓reduceIte, eM_takenBy_4]
  have hE1 := aside_me h1 hE
  refine sM_owedBy hO hE1.1 ((aside_mc h1).trans hc) hx hs (fun σ2 v hv _ hp => ?_)
  obtain ⟨hF2, hm2⟩ := hp (by decide)
  simp only [pI, pL, pR, pV, i10, ↓reduceIte, eM_takenBy_10]
  have n120 : ∀ k, inS FMk 120 k = false := fun k => not_inS (fun e he z => by
    have : ∀ e, e ∈ FMk → e.1 ≠ 120 := by decide
    exact this e he z.1)
  have z2 : rd σ2 120 24 = 0 := by rw [hF2.rd (n120 24)]; exact hz
  have t2 : rd σ2 120 28 = 0 := by rw [hF2.rd (n120 28)]; exact h28
  have hF2g : Fr FMg σ1 σ2 := hF2.mo (by decide)
  have hE2 := MEk hF2 hE1
  have lp : ∀ (n i : Nat) (σ' : Sg) (x3 : Int32), i + n = ix x2 → x3.toInt = i → Fr FMg σ1 σ' → ME σ' E → mc σ' 121 = pasN E (payS c s (eN E)) (canN (payS c s (eN E)) i) → rd σ' 120 28 = tkN E (payS c s (eN E)) (canN (payS c s (eN E)) i) → rd σ' 120 24 = 0 → bM_takenBy_13 true NOB (wp true (d + 11)) Φ (kM_takenBy (d + 11) Φ) [.ref 120, .int x1, .int x2, .int x3] [] σ' := by
    intro n
    induction n with
    | zero =>
      intro i σ' x3 hi h3 hF hE' hc' ht' hz'
      obtain rfl : i = ix x2 := by omega
      simp only [pI, pL, pR, pV, i10, ↓reduceIte, eM_takenBy_13]
      simp only [ile, h3]
      rw [if_pos (by omega)]
      simp only [pI, pL, pR, pV, i10, ↓reduceIte, eM_takenBy_29]
      refine sM_putBack (fun σ3 k4 k5 k6 => ?_)
      simp only [pI, pL, pR, pV, i10, ↓reduceIte, eM_takenBy_33]
      refine h σ3 _ (put_fi hfl h1 h2 hF k4 k5 k6 FMgsub FMg129) ?_
      have : rd σ3 120 28 = rd σ' 120 28 := k4.rd rfl
      rw [← hcan, ← ht']
      exact this
    | succ n ih =>
      intro i σ' x3 hi h3 hF hE' hc' ht' hz'
      have hl := canN_le (n := i) hOp.2.2.1
      obtain ⟨o1, o2, o3, o4⟩ := pasN_ok hOp hTp (canN (payS c s (eN E)) i) (by omega)
      obtain ⟨s1, s2⟩ := canN_s hOp hTp i
      have h31 : (x3 + 1).toInt = ((i + 1 : Nat) : Int) := by rw [tq1 x3 (by omega), h3]; omega
      simp only [pI, pL, pR, pV, i10, ↓reduceIte, eM_takenBy_13]
      simp only [ile, h3]
      rw [if_neg (by omega)]
      refine sM_goOn o1 hE' hc' o2 hz' (by rw [ht']; omega) (fun y => ?_) (fun y σ4 hF4 hc4 hw hf ht4 hs4 hz4 => ?_)
      · simp only [pI, pL, pR, pV, i10, ↓reduceIte, eM_takenBy_22]
        have e := s1 y
        exact hM_takenBy_13 _ _ _ _ _ (ih (i + 1) σ' (x3 + 1) (by omega) h31 hF hE' (by rw [e]; exact hc') (by rw [e]; exact ht') hz')
      · simp only [pI, pL, pR, pV, i10, ↓reduceIte, eM_takenBy_22]
        have e := (s2 (by omega)).1
        exact hM_takenBy_13 _ _ _ _ _ (ih (i + 1) σ4 (x3 + 1) (by omega) h31 (hF.tr hF4) (MEg hF4 hE') (by rw [e]; exact hc4) (by rw [e, hs4, ht']; rfl) hz4)
  have c0 : canN (payS c s (eN E)) 0 = 0 := by unfold canN; omega
  exact lp (ix x2) 0 σ2 0 (by omega) rfl hF2g hE2 (by rw [c0]; exact hm2) (by rw [c0]; exact t2) z2
def qLeast (n h l : Int32) (E : En) (c : Co) (_ : Nat → Int) : Int := if (1 ≤ n.toInt ∧ n.toInt ≤ 60) ∧ (0 ≤ h.toInt ∧ h.toInt ≤ 9999) then (if l = 0 then (lsS E c (ix n) h.toInt 64).1 else (lsS E c (ix n) h.toInt 64).2) else -1
theorem p_least (n t l : Int32) : PairI Rel nX_least nM_least [.int n, .int t, .int l] := by
  have k0 : (0 : Int32).toInt = 0 := rfl
  have k9 : (9999 : Int32).toInt = 9999 := rfl
  refine qryJ (qLeast n t l) (fun lws σ Φ hR h => ?_) (fun lws σ Φ hR h => ?_)
  · apply wX_least
    simp only [pI, pL, pR, pV, i10, ↓reduceIte, eX_least_0]
    have g0 := Wd.i hR
    unfold qLeast at h
    generalize EE lws σ = E at h g0
    generalize mc σ 121 = c at h g0
    generalize rd σ 121 = a at h g0
    have no : ¬ ((1 ≤ n.toInt ∧ n.toInt ≤ 60) ∧ (0 ≤ t.toInt ∧ t.toInt ≤ 9999)) → bX_least_18 true NOB (wp true 12) Φ (kX_least 12 Φ) [.ref 0, .int n, .int t, .int l] [] σ := fun q => by
      rw [if_neg q] at h
      simp only [pI, pL, pR, pV, i10, ↓reduceIte, eX_least_18]
      exact h _ _ Fr.rf.fi rfl
    refine sX_isFar (fun q => ?_) (fun q => ?_)
    · simp only [pI, pL, pR, pV, i10, ↓reduceIte, eX_least_4]
      simp only [ilt, ile, k0, k9]
      split
      next z => exact no (fun x => by omega)
      next z =>
        split
        next y =>
          rw [if_pos ⟨q, by omega⟩] at h
          simp only [pI, pL, pR, pV, i10, ↓reduceIte, eX_least_20]
          refine sF_least g0 q (by omega) (fun σ' hF e3 e4 => ?_)
          simp only [pI, pL, pR, pV, i10, ↓reduceIte, eX_least_29]
          split
          next u =>
            rw [if_pos u] at h
            simp only [pI, pL, pR, pV, i10, ↓reduceIte, eX_least_43, eX_least_50]
            exact h _ _ hF e3
          next u =>
            rw [if_neg u] at h
            simp only [pI, pL, pR, pV, i10, ↓reduceIte, eX_least_50]
            exact h _ _ hF e4
        next y => exact no (fun x => by omega)
    · simp only [pI, pL, pR, pV, i10, ↓reduceIte, eX_least_4]
      exact no (fun x => q x.1)
  · apply wM_least
    simp only [pI, pL, pR, pV, i10, ↓reduceIte, eM_least_0]
    have g0 := Wd.i hR
    unfold qLeast at h
    generalize EE lws σ = E at h g0
    generalize mc σ 121 = c at h g0
    generalize rd σ 121 = a at h g0
    obtain ⟨hO, -, -, hE, hc, hT⟩ := g0.all
    obtain ⟨-, -, -, -, -, -, n6, -⟩ := g0.nv
    have hp64 : 2 ^ eN E ≤ 64 := Nat.pow_le_pow_right (n := 2) (by omega) n6
    have no : ¬ ((1 ≤ n.toInt ∧ n.toInt ≤ 60) ∧ (0 ≤ t.toInt ∧ t.toInt ≤ 9999)) → bM_least_21 true NOB (wp true 12) Φ (kM_least 12 Φ) [.ref 120, .int n, .int t, .int l, .retAddr 0, .retAddr 0, .retAddr 0] [] σ := fun q => by
      rw [if_neg q] at h
      simp only [pI, pL, pR, pV, i10, ↓reduceIte, eM_least_21]
      exact h _ _ Fr.rf.fi rfl
    refine sM_isIn (fun q => ?_) (fun q => ?_)
    · rw [tl1, show (60 : Int32).toInt = 60 from rfl] at q
      simp only [pI, pL, pR, pV, i10, ↓reduceIte, eM_least_7]
      refine sM_isIn (fun y => ?_) (fun y => ?_)
      · rw [k0, k9] at y
        rw [if_pos ⟨q, y⟩] at h
        have hix := ix_to (x := n) (by omega)
        simp only [pI, pL, pR, pV, i10, ↓reduceIte, eM_least_18, eM_least_23]
        -- the sets
        obtain ⟨ck1, ck2⟩ := csB_k (owB c (eN E))
        have ckN : csB (owB c (eN E)) (eN E) = csB (owB c (eN E)) 6 := (csB_hi (fun w hw => by unfold owB; rw [decide_eq_false (by omega), Bool.false_and]) 6 n6).symm
        have main : ∀ (r m : Nat) (σ' : Sg) (x5 x6 : Int32), m + r = (csB (owB c (eN E)) 6).toInt.toNat + 1 → x6.toInt = m → Fi MS σ σ' → x5.toInt = (lsS E c (ix n) t.toInt m).2 → bM_least_85 true NOB (wp true 12) Φ (kM_least 12 Φ) [.ref 120, .int n, .int t, .int l, .int (csB (owB c (eN E)) 6), .int x5, .int x6] [] σ' := by
          intro r
          induction r with
          | zero =>
            intro m σ' x5 x6 hm h6 hF h5
            have g := g0.m hF
            obtain ⟨-, -, -, hE', hc', -⟩ := g.all
            have es := lsS_stay (E := E) (c := c) (n := ix n) (h := t.toInt) (m := m) 64 (by omega) (fun s h1 h2 => by
              cases z : subS c (eN E) s 6
              · rfl
              · have := (ck2 s h2).2 (by rw [inB_sub]; exact z)
                omega)
            rw [es] at h
            have hlb := lsS_b (c := c) (n := ix n) (h := t.toInt) n6 m
            have cN : (x5 = -1) = (x5.toInt = -1) := by rw [ieq]; rfl
            simp only [pI, pL, pR, pV, i10, ↓reduceIte, eM_least_85]
            simp only [ilt, h6]
            rw [if_pos (by omega)]
            simp only [pI, pL, pR, pV, i10, ↓reduceIte, eM_least_149]
            simp only [cN]
            split
            next z =>
              rw [if_pos z] at h
              split
              next u =>
                simp only [pI, pL, pR, pV, i10, ↓reduceIte, eM_least_159, eM_least_171]
                refine h _ _ hF ?_
                rcases hlb with b | b
                · rw [h5, b.1, b.2]
                · omega
              next u =>
                simp only [pI, pL, pR, pV, i10, ↓reduceIte, eM_least_164]
                rcases hlb with b | b
                · omega
                · refine sM_owedBy hO hE'.1 hc' (s := (lsS E c (ix n) t.toInt m).2.toNat) (by rw [h5]; omega) (by omega) (fun σ2 v hv e0 _ => ?_)
                  rw [e0 rfl]
                  simp only [pI, pL, pR, pV, i10, ↓reduceIte, eM_least_171]
                  exact h _ _ hF (by rw [hv, b.2.2])
            next z =>
              rw [if_neg z] at h
              simp only [pI, pL, pR, pV, i10, ↓reduceIte, eM_least_159, eM_least_171]
              exact h _ _ hF h5
          | succ r ih =>
            intro m σ' x5 x6 hm h6 hF h5
            have g := g0.m hF
            obtain ⟨-, -, -, hE', hc', -⟩ := g.all
            have h61 : (x6 + 1).toInt = ((m + 1 : Nat) : Int) := by rw [tq1 x6 (by omega), h6]; omega
            have hlb := lsS_b (c := c) (n := ix n) (h := t.toInt) n6 m
            have hpb := penS_b (s := m) hO (eN E) (Nat.le_refl _)
            have eS : lsS E c (ix n) t.toInt (m + 1) = if subS c (eN E) m 6 = true ∧ ((lsS E c (ix n) t.toInt m).1 = -1 ∨ penS c m (eN E) < (lsS E c (ix n) t.toInt m).1) ∧ tkN E (payS c m (eN E)) (canN c (ix n)) ≤ t.toInt then (penS c m (eN E), (m : Int)) else lsS E c (ix n) t.toInt m := rfl
            have cN : (x5 = -1) = (x5.toInt = -1) := by rw [ieq]; rfl
            have ca : ((x6 &&& (csB (owB c (eN E)) 6 ^^^ (-1))) = 0) = (subS c (eN E) m 6 = true) := by
              rw [ofN h6 (by omega), (ck2 m (by omega)).1, inB_sub]
            have skip : ∀ σ2 : Sg, Fi MS σ σ2 → lsS E c (ix n) t.toInt (m + 1) = lsS E c (ix n) t.toInt m → bM_least_143 true NOB (wp true 12) Φ (kM_least 12 Φ) [.ref 120, .int n, .int t, .int l, .int (csB (owB c (eN E)) 6), .int x5, .int x6] [] σ2 := by
              intro σ2 hF2 e
              simp only [pI, pL, pR, pV, i10, ↓reduceIte, eM_least_143]
              exact hM_least_85 _ _ _ _ _ (ih (m + 1) σ2 x5 (x6 + 1) (by omega) h61 hF2 (by rw [e]; exact h5))
            simp only [pI, pL, pR, pV, i10, ↓reduceIte, eM_least_85]
            simp only [ilt, h6, ca, cN]
            rw [if_neg (by omega)]
            split
            next hs =>
              have try_ : ((lsS E c (ix n) t.toInt m).1 = -1 ∨ penS c m (eN E) < (lsS E c (ix n) t.toInt m).1) → bM_least_125 true NOB (wp true 12) Φ (kM_least 12 Φ) [.ref 120, .int n, .int t, .int l, .int (csB (owB c (eN E)) 6), .int x5, .int x6] [] σ' := by
                intro hbet
                simp only [pI, pL, pR, pV, i10, ↓reduceIte, eM_least_125]
                refine sM_takenBy (d := 0) g h6 (by omega) (by omega) (fun σ2 v hF2 hv => ?_)
                simp only [pI, pL, pR, pV, i10, ↓reduceIte, eM_least_132]
                simp only [ile, hv]
                split
                next u =>
                  rw [if_pos ⟨hs, hbet, u⟩] at eS
                  simp only [pI, pL, pR, pV, i10, ↓reduceIte, eM_least_139, eM_least_143]
                  exact hM_least_85 _ _ _ _ _ (ih (m + 1) σ2 x6 (x6 + 1) (by omega) h61 (hF.tr hF2) (by rw [eS]; exact h6))
                next u => exact skip σ2 (hF.tr hF2) (by rw [eS, if_neg (fun q => u q.2.2)])
              split
              next u => exact try_ (by rcases hlb with b | b; exact Or.inl b.1; omega)
              next u =>
                rcases hlb with b | b
                · omega
                · refine sM_owedBy hO hE'.1 hc' h6 (by omega) (fun σ2 v hv e0 _ => ?_)
                  rw [e0 rfl]
                  simp only [pI, pL, pR, pV, i10, ↓reduceIte, eM_least_115]
                  refine sM_owedBy hO hE'.1 hc' (s := (lsS E c (ix n) t.toInt m).2.toNat) (by rw [h5]; omega) (by omega) (fun σ3 v3 hv3 e3 _ => ?_)
                  rw [e3 rfl]
                  simp only [pI, pL, pR, pV, i10, ↓reduceIte, eM_least_122]
                  simp only [ile, hv, hv3]
                  split
                  next w => exact skip σ' hF (by rw [eS, if_neg (fun q => by rcases q.2.1 with z | z <;> omega)])
                  next w => exact try_ (Or.inr (by omega))
            next hs => exact skip σ' hF (by rw [eS, if_neg (fun q => hs q.1)])
        -- which can be paid
        have can : ∀ (r m : Nat) (x4 x5 : Int32), m + r = eN E → x5.toInt = m → x4 = csB (owB c (eN E)) m → bM_least_29 true NOB (wp true 12) Φ (kM_least 12 Φ) [.ref 120, .int n, .int t, .int l, .int x4, .int x5, .retAddr 0] [] σ := by
          intro r
          induction r with
          | zero =>
            intro m x4 x5 hm h5 h4
            have n1 : (gI σ 121 (ix 0)).toInt = eN E := hE.1
            obtain rfl : m = eN E := by omega
            simp only [pI, pL, pR, pV, i10, ↓reduceIte, eM_least_29]
            simp only [ile, n1, h5]
            rw [if_pos (by omega)]
            simp only [pI, pL, pR, pV, i10, ↓reduceIte, eM_least_79]
            rw [h4, ckN]
            exact ⟨⟨by decide, by decide⟩, main _ 0 σ (-1) 0 (by rw [Nat.zero_add]) rfl Fr.rf.fi rfl⟩
          | succ r ih =>
            intro m x4 x5 hm h5 h4
            have n1 : (gI σ 121 (ix 0)).toInt = eN E := hE.1
            have hix5 : ix x5 = m := ix_of h5
            have ex : x5 = Int32.ofNat m := ofN h5 (by omega)
            have h51 : (x5 + 1).toInt = ((m + 1 : Nat) : Int) := by rw [tq1 x5 (by omega), h5]; omega
            have eC : csB (owB c (eN E)) (m + 1) = cond (owB c (eN E) m) (csB (owB c (eN E)) m ||| (1 <<< (Int32.ofNat m &&& 31))) (csB (owB c (eN E)) m) := rfl
            have skip : owB c (eN E) m = false → bM_least_69 true NOB (wp true 12) Φ (kM_least 12 Φ) [.ref 120, .int n, .int t, .int l, .int x4, .int x5, .retAddr 0] [.int x4] σ := by
              intro z
              simp only [pI, pL, pR, pV, i10, ↓reduceIte, eM_least_69, eM_least_70]
              exact hM_least_29 _ _ _ _ _ (ih (m + 1) _ (x5 + 1) (by omega) h51 (by rw [eC, z, or0, h4]; rfl))
            simp only [pI, pL, pR, pV, i10, ↓reduceIte, eM_least_29]
            simp only [ile, n1, h5]
            rw [if_neg (by omega)]
            refine ⟨⟨by decide, by decide⟩, ?_⟩
            refine sM_getG (by omega) (fun gn hgn => ?_)
            rw [hc, hix5] at hgn
            have c0 : (gn = 0) = (c (24 + m) = 0) := by rw [ieq, hgn]; rfl
            simp only [pI, pL, pR, pV, i10, ↓reduceIte, eM_least_49]
            simp only [c0]
            split
            next z =>
              refine sM_getO (by omega) (fun o ho => ?_)
              rw [hc, hix5] at ho
              simp only [pI, pL, pR, pV, i10, ↓reduceIte, eM_least_59]
              simp only [ile, ho, k0]
              split
              next u => exact skip (by unfold owB; rw [decide_eq_false (by omega : ¬ 0 < c m), Bool.and_false, Bool.and_false])
              next u =>
                have hb : owB c (eN E) m = true := by
                  unfold owB
                  rw [decide_eq_true (by omega : m < eN E), decide_eq_true z, decide_eq_true (by omega : 0 < c m)]
                  rfl
                simp only [pI, pL, pR, pV, i10, ↓reduceIte, eM_least_70]
                exact hM_least_29 _ _ _ _ _ (ih (m + 1) _ (x5 + 1) (by omega) h51 (by rw [eC, hb, h4, ex]; rfl))
            next z => exact skip (by unfold owB; rw [decide_eq_false z, Bool.false_and, Bool.and_false])
        exact can (eN E) 0 0 0 (by omega) rfl rfl
      · rw [k0, k9] at y
        simp only [pI, pL, pR, pV, i10, ↓reduceIte, eM_least_18]
        exact no (fun x => y x.2)
    · rw [tl1, show (60 : Int32).toInt = 60 from rfl] at q
      simp only [pI, pL, pR, pV, i10, ↓reduceIte, eM_least_7]
      exact no (fun x => q x.1)
