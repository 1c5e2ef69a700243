/-! TORN SAILS: in how many rows; a payment that is sure -/
def cntS (E : En) (c : Co) (a : Nat → Int) (w : Nat) (o : Int) (S : Nat) : Nat → Nat
  | 0 => 0
  | n + 1 => cntS E c a w o S n + if soB E c a w o (Int32.ofNat n) S = true then 1 else 0
theorem cntS_b {E : En} {c : Co} {a : Nat → Int} {w : Nat} {o : Int} {S : Nat} : ∀ n, cntS E c a w o S n ≤ n
  | 0 => Nat.le_refl _
  | n + 1 => by
    have := cntS_b (E := E) (c := c) (a := a) (w := w) (o := o) (S := S) n
    unfold cntS
    split <;> omega
def CanS (w o : Int32) (E : En) (a : Nat → Int) : Prop := (0 ≤ w.toInt ∧ w.toInt < eN E) ∧ (0 ≤ o.toInt ∧ o.toInt ≤ 999) ∧ 0 < a 6
def qSails (w o : Int32) (E : En) (c : Co) (a : Nat → Int) : Int := if (0 ≤ w.toInt ∧ w.toInt < eN E) ∧ (0 ≤ o.toInt ∧ o.toInt ≤ 999) ∧ 0 < a 6 then cntS E c a (ix w) o.toInt (a 6).toNat (4 ^ ((a 6).toNat - 1)) else -1
theorem sM_canTear {d : Nat} {Φ : Po} {lws : Lws} {E : En} {c : Co} {a : Nat → Int} {w o : Int32} {σ : Sg} (g : Wd lws E c a σ) (h1 : CanS w o E a → Φ (some (.int 1)) σ) (h0 : ¬ CanS w o E a → Φ (some (.int 0)) σ) : wp true (d + 3) nM_canTear [.ref 120, .int w, .int o] σ Φ := by
  obtain ⟨-, -, e0, -, -, -, n6, -⟩ := g.nv
  obtain ⟨u1, u2, u3, u4, u5⟩ := g.sl
  have e0' : rd σ 121 0 = eN E := e0
  have no : ¬ CanS w o E a → bM_canTear_33 true NOB (wp true (d + 2)) Φ (kM_canTear (d + 2) Φ) [.ref 120, .int w, .int o] [] σ := fun q => by
    simp only [pI, pL, pR, pV, i10, ↓reduceIte, eM_canTear_33, eM_canTear_34]
    rw [zB_0]
    exact h0 q
  apply wM_canTear
  simp only [pI, pL, pR, pV, i10, ↓reduceIte, eM_canTear_0]
  refine sM_isWind (by omega) (fun q => ?_) (fun q => ?_)
  · rw [e0'] at q
    simp only [pI, pL, pR, pV, i10, ↓reduceIte, eM_canTear_5]
    refine sM_isIn (fun z => ?_) (fun z => ?_)
    · rw [tl0, show (999 : Int32).toInt = 999 from rfl] at z
      simp only [pI, pL, pR, pV, i10, ↓reduceIte, eM_canTear_16]
      have e6 : (gI σ 121 (ix 6)).toInt = a 6 := u5 6
      simp only [ile, e6, show (0 : Int32).toInt = 0 from rfl]
      refine ⟨⟨by decide, by decide⟩, ?_⟩
      split
      next y => exact no (fun x => by have := x.2.2; omega)
      next y =>
        simp only [pI, pL, pR, pV, i10, ↓reduceIte, eM_canTear_34]
        rw [zB_1]
        exact h1 ⟨q, z, by omega⟩
    · rw [tl0, show (999 : Int32).toInt = 999 from rfl] at z
      simp only [pI, pL, pR, pV, i10, ↓reduceIte, eM_canTear_16]
      exact no (fun x => z x.2.1)
  · rw [e0'] at q
    simp only [pI, pL, pR, pV, i10, ↓reduceIte, eM_canTear_5]
    exact no (fun x => q x.1)
theorem p_sails (w o : Int32) : PairI Rel nX_sails nM_sails [.int w, .int o] := by
  refine qryJ (qSails w o) (fun lws σ Φ hR h => ?_) (fun lws σ Φ hR h => ?_)
  · apply wX_sails
    simp only [pI, pL, pR, pV, i10, ↓reduceIte, eX_sails_0]
    have g0 := Wd.i hR
    unfold qSails at h
    generalize EE lws σ = E at h g0
    generalize mc σ 121 = c at h g0
    generalize rd σ 121 = a at h g0
    obtain ⟨n1, -, -, -, -, -, n6, -⟩ := g0.nv
    obtain ⟨u1, u2, u3, u4, u5⟩ := g0.sl
    have n1' : rd σ 1 4 = eN E := n1
    have no : ¬ ((0 ≤ w.toInt ∧ w.toInt < eN E) ∧ (0 ≤ o.toInt ∧ o.toInt ≤ 999) ∧ 0 < a 6) → bX_sails_32 true NOB (wp true 12) Φ (kX_sails 12 Φ) [.ref 0, .int w, .int o] [] σ := fun q => by
      rw [if_neg q] at h
      simp only [pI, pL, pR, pV, i10, ↓reduceIte, eX_sails_32]
      exact h _ _ Fr.rf.fi rfl
    refine sW_isWind (fun q => ?_) (fun q => ?_)
    · rw [n1'] at q
      have c14 : (gI σ 1 14 = 0) = (a 6 = 0) := by rw [ieq, u1, tl0]
      simp only [pI, pL, pR, pV, i10, ↓reduceIte, eX_sails_8]
      simp only [c14, ilt, show (0 : Int32).toInt = 0 from rfl, show (999 : Int32).toInt = 999 from rfl]
      split
      next z => exact no (fun x => by omega)
      next z =>
        split
        next y => exact no (fun x => by omega)
        next y =>
          split
          next x => exact no (fun x => by omega)
          next x =>
            rw [if_pos ⟨q, by omega, by omega⟩] at h
            obtain ⟨S, hS⟩ : ∃ S : Nat, a 6 = S := ⟨(a 6).toNat, by omega⟩
            have hSn : (a 6).toNat = S := by omega
            rw [hSn] at h
            simp only [pI, pL, pR, pV, i10, ↓reduceIte, eX_sails_34]
            refine sZ_find g0 q (by omega) (fun σ1 hF1 hT => ?_)
            have g1 := g0.x hF1
            simp only [pI, pL, pR, pV, i10, ↓reduceIte, eX_sails_43]
            apply wZ_countRows
            simp only [pI, pL, pR, pV, i10, ↓reduceIte, eZ_countRows_0]
            have hrb := rows_b (S := S) (by omega)
            have lp : ∀ (n m : Nat) (x1 x2 : Int32), m + n = 4 ^ (S - 1) → x2.toInt = m → x1.toInt = cntS E c a (ix w) o.toInt S m → bZ_countRows_4 true NOB (wp true 11) (pI (bX_sails_50 true NOB (wp true 12) Φ (kX_sails 12 Φ)) [.ref 0, .int w, .int o] []) (kZ_countRows 11 (pI (bX_sails_50 true NOB (wp true 12) Φ (kX_sails 12 Φ)) [.ref 0, .int w, .int o] [])) [.ref 115, .int x1, .int x2] [] σ1 := by
              intro n
              induction n with
              | zero =>
                intro m x1 x2 hm h2 h1
                simp only [pI, pL, pR, pV, i10, ↓reduceIte, eZ_countRows_4]
                refine sZ_rows g1 hS (by omega) (fun v hv => ?_)
                simp only [pI, pL, pR, pV, i10, ↓reduceIte, eZ_countRows_9]
                simp only [ile, hv, h2]
                rw [if_pos (by omega)]
                simp only [pI, pL, pR, pV, i10, ↓reduceIte, eZ_countRows_34]
                simp only [pI, pL, pR, pV, i10, ↓reduceIte, eX_sails_50]
                obtain rfl : m = 4 ^ (S - 1) := by omega
                exact h _ _ hF1 h1
              | succ n ih =>
                intro m x1 x2 hm h2 h1
                have hb := cntS_b (E := E) (c := c) (a := a) (w := ix w) (o := o.toInt) (S := S) m
                have eS : cntS E c a (ix w) o.toInt S (m + 1) = cntS E c a (ix w) o.toInt S m + if soB E c a (ix w) o.toInt (Int32.ofNat m) S = true then 1 else 0 := rfl
                have ex : x2 = Int32.ofNat m := ofN h2 (by omega)
                have h21 : (x2 + 1).toInt = ((m + 1 : Nat) : Int) := by rw [tq1 x2 (by omega), h2]; omega
                simp only [pI, pL, pR, pV, i10, ↓reduceIte, eZ_countRows_4]
                refine sZ_rows g1 hS (by omega) (fun v hv => ?_)
                simp only [pI, pL, pR, pV, i10, ↓reduceIte, eZ_countRows_9]
                simp only [ile, hv, h2]
                rw [if_neg (by omega)]
                refine sZ_so g1 hT hS (fun b hb1 => ?_)
                rw [ex] at hb1
                have c0 : (b = 0) = (b.toInt = 0) := by rw [ieq]; rfl
                simp only [pI, pL, pR, pV, i10, ↓reduceIte, eZ_countRows_18]
                simp only [c0, hb1]
                cases hq : soB E c a (ix w) o.toInt (Int32.ofNat m) S with
                | true =>
                  try rw [if_neg (by decide)]
                  simp only [pI, pL, pR, pV, i10, ↓reduceIte, eZ_countRows_26]
                  exact hZ_countRows_4 _ _ _ _ _ (ih (m + 1) (x1 + 1) (x2 + 1) (by omega) h21 (by rw [eS, if_pos hq, tq1 x1 (by omega), h1]; omega))
                | false =>
                  try rw [if_pos rfl]
                  simp only [pI, pL, pR, pV, i10, ↓reduceIte, eZ_countRows_25, eZ_countRows_26]
                  exact hZ_countRows_4 _ _ _ _ _ (ih (m + 1) (x1 + 0) (x2 + 1) (by omega) h21 (by rw [eS, if_neg (by rw [hq]; decide), tP (by rw [tl0]; omega), h1, tl0]; omega))
            exact lp (4 ^ (S - 1)) 0 0 0 (by omega) rfl rfl
    · rw [n1'] at q
      simp only [pI, pL, pR, pV, i10, ↓reduceIte, eX_sails_8]
      exact no (fun x => q x.1)
  · apply wM_sails
    simp only [pI, pL, pR, pV, i10, ↓reduceIte, eM_sails_0]
    have g0 := Wd.i hR
    unfold qSails at h
    generalize EE lws σ = E at h g0
    generalize mc σ 121 = c at h g0
    generalize rd σ 121 = a at h g0
    refine sM_canTear g0 (fun q => ?_) (fun q => ?_)
    · obtain ⟨q1, q2, q3⟩ := q
      rw [if_pos ⟨q1, q2, q3⟩] at h
      obtain ⟨S, hS⟩ : ∃ S : Nat, a 6 = S := ⟨(a 6).toNat, by omega⟩
      have hSn : (a 6).toNat = S := by omega
      rw [hSn] at h
      have hS5 : 1 ≤ S ∧ S ≤ 5 := by have := g0.sl.2.1; omega
      have hrb := rows_b (S := S) hS5
      simp only [pI, pL, pR, pV, i10, ↓reduceIte, eM_sails_6, eM_sails_11]
      have lp : ∀ (n m : Nat) (σ' : Sg) (x1 x2 : Int32), m + n = 4 ^ (S - 1) → x2.toInt = m → x1.toInt = cntS E c a (ix w) o.toInt S m → Fi MS σ σ' → bM_sails_16 true NOB (wp true 12) Φ (kM_sails 12 Φ) [.ref 120, .int w, .int o, .int x1, .int x2] [] σ' := by
        intro n
        induction n with
        | zero =>
          intro m σ' x1 x2 hm h2 h1 hF
          have g := g0.m hF
          have e6 : (gI σ' 121 (ix 6)).toInt = S := (g.sl.2.2.2.2 6).trans hS
          simp only [pI, pL, pR, pV, i10, ↓reduceIte, eM_sails_16, eM_sails_59]
          have hv := rowsV e6 hS5
          simp only [ile, hv, h2]
          rw [if_pos (by omega)]
          obtain rfl : m = 4 ^ (S - 1) := by omega
          exact ⟨⟨by decide, by decide⟩, h _ _ hF h1⟩
        | succ n ih =>
          intro m σ' x1 x2 hm h2 h1 hF
          have g := g0.m hF
          have e6 : (gI σ' 121 (ix 6)).toInt = S := (g.sl.2.2.2.2 6).trans hS
          have hb := cntS_b (E := E) (c := c) (a := a) (w := ix w) (o := o.toInt) (S := S) m
          have eS : cntS E c a (ix w) o.toInt S (m + 1) = cntS E c a (ix w) o.toInt S m + if soB E c a (ix w) o.toInt (Int32.ofNat m) S = true then 1 else 0 := rfl
          have ex : x2 = Int32.ofNat m := ofN h2 (by omega)
          have h21 : (x2 + 1).toInt = ((m + 1 : Nat) : Int) := by rw [tq1 x2 (by omega), h2]; omega
          simp only [pI, pL, pR, pV, i10, ↓reduceIte, eM_sails_16]
          have hv := rowsV e6 hS5
          simp only [ile, hv, h2]
          rw [if_neg (by omega)]
          refine ⟨⟨by decide, by decide⟩, ?_⟩
          refine sM_torn g q1 q2 hS (fun σ1 b hF1 hb1 => ?_)
          rw [ex] at hb1
          have c0 : (b = 0) = (b.toInt = 0) := by rw [ieq]; rfl
          simp only [pI, pL, pR, pV, i10, ↓reduceIte, eM_sails_43]
          simp only [c0, hb1]
          cases hq : soB E c a (ix w) o.toInt (Int32.ofNat m) S with
          | true =>
            try rw [if_neg (by decide)]
            simp only [pI, pL, pR, pV, i10, ↓reduceIte, eM_sails_51]
            exact hM_sails_16 _ _ _ _ _ (ih (m + 1) σ1 (x1 + 1) (x2 + 1) (by omega) h21 (by rw [eS, if_pos hq, tq1 x1 (by omega), h1]; omega) (hF.tr hF1))
          | false =>
            try rw [if_pos rfl]
            simp only [pI, pL, pR, pV, i10, ↓reduceIte, eM_sails_50, eM_sails_51]
            exact hM_sails_16 _ _ _ _ _ (ih (m + 1) σ1 (x1 + 0) (x2 + 1) (by omega) h21 (by rw [eS, if_neg (by rw [hq]; decide), tP (by rw [tl0]; omega), h1, tl0]; omega) (hF.tr hF1))
      exact lp (4 ^ (S - 1)) 0 σ 0 0 (by omega) rfl rfl Fr.rf.fi
    · unfold CanS at q
      rw [if_neg q] at h
      simp only [pI, pL, pR, pV, i10, ↓reduceIte, eM_sails_6]
      exact h _ _ Fr.rf.fi rfl
