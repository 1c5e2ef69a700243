/-! BITS COUNTED -/
def bcV (x0 : Int32) : Int32 := ((((((((x0 - ((ushr x0 1) &&& 1431655765)) &&& 858993459) + ((ushr (x0 - ((ushr x0 1) &&& 1431655765)) 2) &&& 858993459)) + (ushr (((x0 - ((ushr x0 1) &&& 1431655765)) &&& 858993459) + ((ushr (x0 - ((ushr x0 1) &&& 1431655765)) 2) &&& 858993459)) 4)) &&& 252645135) + (ushr (((((x0 - ((ushr x0 1) &&& 1431655765)) &&& 858993459) + ((ushr (x0 - ((ushr x0 1) &&& 1431655765)) 2) &&& 858993459)) + (ushr (((x0 - ((ushr x0 1) &&& 1431655765)) &&& 858993459) + ((ushr (x0 - ((ushr x0 1) &&& 1431655765)) 2) &&& 858993459)) 4)) &&& 252645135) 8)) + (ushr ((((((x0 - ((ushr x0 1) &&& 1431655765)) &&& 858993459) + ((ushr (x0 - ((ushr x0 1) &&& 1431655765)) 2) &&& 858993459)) + (ushr (((x0 - ((ushr x0 1) &&& 1431655765)) &&& 858993459) + ((ushr (x0 - ((ushr x0 1) &&& 1431655765)) 2) &&& 858993459)) 4)) &&& 252645135) + (ushr (((((x0 - ((ushr x0 1) &&& 1431655765)) &&& 858993459) + ((ushr (x0 - ((ushr x0 1) &&& 1431655765)) 2) &&& 858993459)) + (ushr (((x0 - ((ushr x0 1) &&& 1431655765)) &&& 858993459) + ((ushr (x0 - ((ushr x0 1) &&& 1431655765)) 2) &&& 858993459)) 4)) &&& 252645135) 8)) 16)) &&& 63)
theorem sJ_bits {d : Nat} {Φ : Po} {σ : Sg} {x : Int32} (h : Φ (some (.int (bcV x))) σ) : wp true (d + 1) nJ_bitCount [.int x] σ Φ := by
  apply wJ_bitCount
  rw [eJ_bitCount_0]
  exact h
/-! SURE -/
def suR (E : En) (c : Co) (a : Nat → Int) (w : Nat) (o : Int) (S i : Nat) : Nat → Nat → Bool
  | 0 => fun _ => false
  | n + 1 => fun p => suR E c a w o S i n p || (soB E c a w o (Int32.ofNat n) S && decide (p = (payI (Int32.ofNat n) i).toInt.toNat))
theorem suR_up {E : En} {c : Co} {a : Nat → Int} {w : Nat} {o : Int} {S i m p : Nat} (h : suR E c a w o S i m p = true) : ∀ n, m ≤ n → suR E c a w o S i n p = true
  | 0, hn => by
    obtain rfl : m = 0 := by omega
    exact h
  | n + 1, hn => by
    by_cases e : m = n + 1
    · subst e; exact h
    · show (suR E c a w o S i n p || _) = true
      rw [suR_up h n (by omega), Bool.true_or]
def bset (b0 b1 b2 b3 : Bool) : Int32 := Int32.ofNat ((cond b0 1 0) + (cond b1 2 0) + (cond b2 4 0) + (cond b3 8 0))
def sur4 (b0 b1 b2 b3 : Bool) : Int := cond b0 (cond (b1 || (b2 || b3)) (-1) 0) (cond b1 (cond (b2 || b3) (-1) 10) (cond b2 (cond b3 (-1) 20) (cond b3 30 (-1))))
theorem bset_or : ∀ b0 b1 b2 b3 : Bool, ∀ p, p < 4 → bset b0 b1 b2 b3 ||| (1 <<< (Int32.ofNat p &&& 31)) = bset (b0 || decide (0 = p)) (b1 || decide (1 = p)) (b2 || decide (2 = p)) (b3 || decide (3 = p)) := by decide +kernel
theorem bset_one : ∀ b0 b1 b2 b3 : Bool, decide (bcV (bset b0 b1 b2 b3) = 1) = decide (sur4 b0 b1 b2 b3 ≠ -1) := by decide +kernel
def bs4 (f : Nat → Bool) : Int32 := bset (f 0) (f 1) (f 2) (f 3)
def su4 (f : Nat → Bool) : Int := sur4 (f 0) (f 1) (f 2) (f 3)
theorem sJ_ntz {d : Nat} {Φ : Po} {σ : Sg} {b0 b1 b2 b3 : Bool} (h1 : sur4 b0 b1 b2 b3 ≠ -1) (h : ∀ v : Int32, (10 * v).toInt = sur4 b0 b1 b2 b3 → Φ (some (.int v)) σ) : wp true (d + 1) nJ_numberOfTrailingZeros [.int (bset b0 b1 b2 b3)] σ Φ := by
  cases b0 <;> cases b1 <;> cases b2 <;> cases b3 <;> first
    | exact absurd rfl h1
    | (apply wJ_numberOfTrailingZeros
       rw [eJ_numberOfTrailingZeros_0]
       first
       | (rw [if_neg (by decide +kernel)]
          exact h _ (by decide +kernel))
       | (rw [if_pos (by decide +kernel), eJ_numberOfTrailingZeros_17, if_pos (by decide +kernel), eJ_numberOfTrailingZeros_34, if_pos (by decide +kernel), eJ_numberOfTrailingZeros_49, if_pos (by decide +kernel), eJ_numberOfTrailingZeros_62]
          first
          | (rw [if_pos (by decide +kernel), eJ_numberOfTrailingZeros_74]
             exact h _ (by decide +kernel))
          | (rw [if_neg (by decide +kernel), eJ_numberOfTrailingZeros_74]
             exact h _ (by decide +kernel))))
/-- what the reference has found so far -/
def Fnd (f : Nat → Bool) (x : Int32) : Prop := ((∀ p, p < 4 → f p = false) ∧ x.toInt = -1) ∨ ∃ p, p < 4 ∧ f p = true ∧ (∀ q, q < 4 → q ≠ p → f q = false) ∧ x.toInt = 10 * p
theorem Fnd.ans {f : Nat → Bool} {x : Int32} (h : Fnd f x) : x.toInt = su4 f := by
  unfold su4
  rcases h with ⟨h, e⟩ | ⟨p, hp, hf, h, e⟩
  · rw [h 0 (by omega), h 1 (by omega), h 2 (by omega), h 3 (by omega), e]
    rfl
  · have : p = 0 ∨ p = 1 ∨ p = 2 ∨ p = 3 := by omega
    rcases this with rfl | rfl | rfl | rfl
    · rw [hf, h 1 (by omega) (by omega), h 2 (by omega) (by omega), h 3 (by omega) (by omega), e]; rfl
    · rw [hf, h 0 (by omega) (by omega), h 2 (by omega) (by omega), h 3 (by omega) (by omega), e]; rfl
    · rw [hf, h 0 (by omega) (by omega), h 1 (by omega) (by omega), h 3 (by omega) (by omega), e]; rfl
    · rw [hf, h 0 (by omega) (by omega), h 1 (by omega) (by omega), h 2 (by omega) (by omega), e]; rfl
theorem su4_two {f : Nat → Bool} {p q : Nat} (hp : p < 4) (hq : q < 4) (hne : p ≠ q) (h1 : f p = true) (h2 : f q = true) : su4 f = -1 := by
  unfold su4
  have : p = 0 ∨ p = 1 ∨ p = 2 ∨ p = 3 := by omega
  have : q = 0 ∨ q = 1 ∨ q = 2 ∨ q = 3 := by omega
  rcases ‹p = 0 ∨ p = 1 ∨ p = 2 ∨ p = 3› with rfl | rfl | rfl | rfl <;> rcases ‹q = 0 ∨ q = 1 ∨ q = 2 ∨ q = 3› with rfl | rfl | rfl | rfl <;> first | exact absurd rfl hne | (cases hb0 : f 0 <;> cases hb1 : f 1 <;> cases hb2 : f 2 <;> cases hb3 : f 3 <;> simp_all [sur4])
def qSure (w o i : Int32) (E : En) (c : Co) (a : Nat → Int) : Int := if ((0 ≤ w.toInt ∧ w.toInt < eN E) ∧ (0 ≤ o.toInt ∧ o.toInt ≤ 999) ∧ 0 < a 6) ∧ (0 ≤ i.toInt ∧ i.toInt ≤ a 6 - 2) then su4 (suR E c a (ix w) o.toInt (a 6).toNat (ix i) (4 ^ ((a 6).toNat - 1))) else -1
theorem p_sure (w o i : Int32) : PairI Rel nX_sure nM_sure [.int w, .int o, .int i] := by
  refine qryJ (qSure w o i) (fun lws σ Φ hR h => ?_) (fun lws σ Φ hR h => ?_)
  · apply wX_sure
    simp only [pI, pL, pR, pV, i10, ↓reduceIte, eX_sure_0]
    have g0 := Wd.i hR
    unfold qSure at h
    generalize EE lws σ = E at h g0
    generalize mc σ 121 = c at h g0
    generalize rd σ 121 = a at h g0
    obtain ⟨n1, -, -, -, -, -, n6, -⟩ := g0.nv
    obtain ⟨u1, u2, u3, u4, u5⟩ := g0.sl
    have n1' : rd σ 1 4 = eN E := n1
    have no : ¬ (((0 ≤ w.toInt ∧ w.toInt < eN E) ∧ (0 ≤ o.toInt ∧ o.toInt ≤ 999) ∧ 0 < a 6) ∧ (0 ≤ i.toInt ∧ i.toInt ≤ a 6 - 2)) → bX_sure_39 true NOB (wp true 12) Φ (kX_sure 12 Φ) [.ref 0, .int w, .int o, .int i] [] σ := fun q => by
      rw [if_neg q] at h
      simp only [pI, pL, pR, pV, i10, ↓reduceIte, eX_sure_39]
      exact h _ _ Fr.rf.fi rfl
    refine sW_isWind (fun q => ?_) (fun q => ?_)
    · rw [n1'] at q
      have c14 : (gI σ 1 14 - 1).toInt = a 6 - 1 := by rw [tM (by rw [u1, tl1]; omega), u1, tl1]
      simp only [pI, pL, pR, pV, i10, ↓reduceIte, eX_sure_8]
      simp only [c14, ilt, show (0 : Int32).toInt = 0 from rfl, show (999 : Int32).toInt = 999 from rfl]
      split
      next z => exact no (fun x => by omega)
      next z =>
        split
        next y => exact no (fun x => by omega)
        next y =>
          split
          next x => exact no (fun x => by omega)
          next x =>
            split
            next y2 =>
              rw [if_pos ⟨⟨q, by omega, by omega⟩, by omega⟩] at h
              obtain ⟨S, hS⟩ : ∃ S : Nat, a 6 = S := ⟨(a 6).toNat, by omega⟩
              have hSn : (a 6).toNat = S := by omega
              rw [hSn] at h
              simp only [pI, pL, pR, pV, i10, ↓reduceIte, eX_sure_41]
              refine sZ_find g0 q (by omega) (fun σ1 hF1 hT => ?_)
              have g1 := g0.x hF1
              simp only [pI, pL, pR, pV, i10, ↓reduceIte, eX_sure_50]
              apply wZ_surePayment
              simp only [pI, pL, pR, pV, i10, ↓reduceIte, eZ_surePayment_0]
              have hrb := rows_b (S := S) (by omega)
              have ei : i = Int32.ofNat (ix i) := ofN (by have := ix_to (x := i) (by omega); omega) (by unfold ix; omega)
              have lp : ∀ (n m : Nat) (x1 x2 : Int32), m + n = 4 ^ (S - 1) → x2.toInt = m → x1 = bs4 (suR E c a (ix w) o.toInt S (ix i) m) → bZ_surePayment_4 true NOB (wp true 11) (pI (bX_sure_58 true NOB (wp true 12) Φ (kX_sure 12 Φ)) [.ref 0, .int w, .int o, .int i] []) (kZ_surePayment 11 (pI (bX_sure_58 true NOB (wp true 12) Φ (kX_sure 12 Φ)) [.ref 0, .int w, .int o, .int i] [])) [.ref 115, .int i, .int x1, .int x2] [] σ1 := by
                intro n
                induction n with
                | zero =>
                  intro m x1 x2 hm h2 h1
                  simp only [pI, pL, pR, pV, i10, ↓reduceIte, eZ_surePayment_4]
                  refine sZ_rows g1 hS (by omega) (fun v hv => ?_)
                  simp only [pI, pL, pR, pV, i10, ↓reduceIte, eZ_surePayment_9]
                  simp only [ile, hv, h2]
                  rw [if_pos (by omega)]
                  simp only [pI, pL, pR, pV, i10, ↓reduceIte, eZ_surePayment_36]
                  refine sJ_bits ?_
                  simp only [pI, pL, pR, pV, i10, ↓reduceIte, eZ_surePayment_40]
                  obtain rfl : m = 4 ^ (S - 1) := by omega
                  have hone := bset_one (suR E c a (ix w) o.toInt S (ix i) (4 ^ (S - 1)) 0) (suR E c a (ix w) o.toInt S (ix i) (4 ^ (S - 1)) 1) (suR E c a (ix w) o.toInt S (ix i) (4 ^ (S - 1)) 2) (suR E c a (ix w) o.toInt S (ix i) (4 ^ (S - 1)) 3)
                  subst h1
                  split
                  next z =>
                    have hne : su4 (suR E c a (ix w) o.toInt S (ix i) (4 ^ (S - 1))) ≠ -1 := by
                      have z : bcV (bset (suR E c a (ix w) o.toInt S (ix i) (4 ^ (S - 1)) 0) (suR E c a (ix w) o.toInt S (ix i) (4 ^ (S - 1)) 1) (suR E c a (ix w) o.toInt S (ix i) (4 ^ (S - 1)) 2) (suR E c a (ix w) o.toInt S (ix i) (4 ^ (S - 1)) 3)) = 1 := z
                      rw [decide_eq_true z] at hone
                      exact of_decide_eq_true hone.symm
                    unfold bs4
                    refine sJ_ntz hne (fun v hv => ?_)
                    simp only [pI, pL, pR, pV, i10, ↓reduceIte, eZ_surePayment_50, eZ_surePayment_55]
                    simp only [pI, pL, pR, pV, i10, ↓reduceIte, eX_sure_58]
                    exact h _ _ hF1 hv
                  next z =>
                    have hne : su4 (suR E c a (ix w) o.toInt S (ix i) (4 ^ (S - 1))) = -1 := by
                      apply Classical.byContradiction
                      intro y
                      have y : sur4 (suR E c a (ix w) o.toInt S (ix i) (4 ^ (S - 1)) 0) (suR E c a (ix w) o.toInt S (ix i) (4 ^ (S - 1)) 1) (suR E c a (ix w) o.toInt S (ix i) (4 ^ (S - 1)) 2) (suR E c a (ix w) o.toInt S (ix i) (4 ^ (S - 1)) 3) ≠ -1 := y
                      rw [decide_eq_true y] at hone
                      exact z (of_decide_eq_true hone)
                    simp only [pI, pL, pR, pV, i10, ↓reduceIte, eZ_surePayment_54, eZ_surePayment_55]
                    simp only [pI, pL, pR, pV, i10, ↓reduceIte, eX_sure_58]
                    exact h _ _ hF1 hne.symm
                | succ n ih =>
                  intro m x1 x2 hm h2 h1
                  have ex : x2 = Int32.ofNat m := ofN h2 (by omega)
                  have h21 : (x2 + 1).toInt = ((m + 1 : Nat) : Int) := by rw [tq1 x2 (by omega), h2]; omega
                  simp only [pI, pL, pR, pV, i10, ↓reduceIte, eZ_surePayment_4]
                  refine sZ_rows g1 hS (by omega) (fun v hv => ?_)
                  simp only [pI, pL, pR, pV, i10, ↓reduceIte, eZ_surePayment_9]
                  simp only [ile, hv, h2]
                  rw [if_neg (by omega)]
                  refine sZ_so g1 hT hS (fun b hb1 => ?_)
                  rw [ex] at hb1
                  have c0 : (b = 0) = (b.toInt = 0) := by rw [ieq]; rfl
                  simp only [pI, pL, pR, pV, i10, ↓reduceIte, eZ_surePayment_17]
                  simp only [c0, hb1]
                  cases hq : soB E c a (ix w) o.toInt (Int32.ofNat m) S with
                  | true =>
                    try rw [if_neg (by decide)]
                    apply wZ_payment
                    simp only [pI, pL, pR, pV, i10, ↓reduceIte, eZ_payment_0]
                    simp only [pI, pL, pR, pV, i10, ↓reduceIte, eZ_surePayment_27, eZ_surePayment_30]
                    have ep : ((x2 >>> ((2 * i) &&& 31)) &&& 3) = payI (Int32.ofNat m) (ix i) := by
                      unfold payI
                      rw [← ei, ← ex]
                    have hp3 : 0 ≤ (payI (Int32.ofNat m) (ix i)).toInt ∧ (payI (Int32.ofNat m) (ix i)).toInt ≤ 3 := and3 _
                    have ep2 : payI (Int32.ofNat m) (ix i) = Int32.ofNat (payI (Int32.ofNat m) (ix i)).toInt.toNat := ofN (by omega) (by omega)
                    refine hZ_surePayment_4 _ _ _ _ _ (ih (m + 1) _ (x2 + 1) (by omega) h21 ?_)
                    rw [ep, ep2, h1]
                    unfold bs4
                    rw [bset_or _ _ _ _ _ (by omega)]
                    show _ = bset (suR E c a (ix w) o.toInt S (ix i) m 0 || (soB E c a (ix w) o.toInt (Int32.ofNat m) S && _)) (suR E c a (ix w) o.toInt S (ix i) m 1 || (soB E c a (ix w) o.toInt (Int32.ofNat m) S && _)) (suR E c a (ix w) o.toInt S (ix i) m 2 || (soB E c a (ix w) o.toInt (Int32.ofNat m) S && _)) (suR E c a (ix w) o.toInt S (ix i) m 3 || (soB E c a (ix w) o.toInt (Int32.ofNat m) S && _))
                    rw [hq]
                    rfl
                  | false =>
                    try rw [if_pos rfl]
                    simp only [pI, pL, pR, pV, i10, ↓reduceIte, eZ_surePayment_30]
                    refine hZ_surePayment_4 _ _ _ _ _ (ih (m + 1) x1 (x2 + 1) (by omega) h21 ?_)
                    rw [h1]
                    congr 1
                    funext p
                    show _ = (suR E c a (ix w) o.toInt S (ix i) m p || (soB E c a (ix w) o.toInt (Int32.ofNat m) S && _))
                    rw [hq, Bool.false_and, Bool.or_false]
              exact lp (4 ^ (S - 1)) 0 0 0 (by omega) rfl rfl
            next y2 => exact no (fun x => by omega)
    · rw [n1'] at q
      simp only [pI, pL, pR, pV, i10, ↓reduceIte, eX_sure_8]
      exact no (fun x => q x.1.1)
  · apply wM_sure
    simp only [pI, pL, pR, pV, i10, ↓reduceIte, eM_sure_0]
    have g0 := Wd.i hR
    unfold qSure at h
    generalize EE lws σ = E at h g0
    generalize mc σ 121 = c at h g0
    generalize rd σ 121 = a at h g0
    have u5 := g0.sl.2.2.2.2
    have u2 := g0.sl.2.1
    refine sM_canTear g0 (fun q => ?_) (fun q => ?_)
    · simp only [pI, pL, pR, pV, i10, ↓reduceIte, eM_sure_6]
      refine ⟨⟨by decide, by decide⟩, ?_⟩
      have e6 : (gI σ 121 (ix 6)).toInt = a 6 := u5 6
      have e62 : (gI σ 121 (ix 6) - 2).toInt = a 6 - 2 := by rw [tM (by rw [e6, show (2 : Int32).toInt = 2 from rfl]; omega), e6]; rfl
      refine sM_isIn (fun y => ?_) (fun y => ?_)
      · rw [tl0, e62] at y
        obtain ⟨q1, q2, q3⟩ := q
        rw [if_pos ⟨⟨q1, q2, q3⟩, y⟩] at h
        obtain ⟨S, hS⟩ : ∃ S : Nat, a 6 = S := ⟨(a 6).toNat, by omega⟩
        have hSn : (a 6).toNat = S := by omega
        rw [hSn] at h
        have hS5 : 1 ≤ S ∧ S ≤ 5 := by omega
        have hrb := rows_b (S := S) hS5
        have ei : i = Int32.ofNat (ix i) := ofN (by have := ix_to (x := i) (by omega); omega) (by unfold ix; omega)
        simp only [pI, pL, pR, pV, i10, ↓reduceIte, eM_sure_23, eM_sure_28]
        have lp : ∀ (n m : Nat) (σ' : Sg) (x1 x2 : Int32), m + n = 4 ^ (S - 1) → x2.toInt = m → Fnd (suR E c a (ix w) o.toInt S (ix i) m) x1 → Fi MS σ σ' → bM_sure_34 true NOB (wp true 12) Φ (kM_sure 12 Φ) [.ref 120, .int w, .int o, .int i, .int x1, .int x2] [] σ' := by
          intro n
          induction n with
          | zero =>
            intro m σ' x1 x2 hm h2 h1 hF
            have g := g0.m hF
            have e6 : (gI σ' 121 (ix 6)).toInt = S := (g.sl.2.2.2.2 6).trans hS
            simp only [pI, pL, pR, pV, i10, ↓reduceIte, eM_sure_34, eM_sure_99]
            have hv := rowsV e6 hS5
            simp only [ile, hv, h2]
            rw [if_pos (by omega)]
            obtain rfl : m = 4 ^ (S - 1) := by omega
            exact ⟨⟨by decide, by decide⟩, h _ _ hF h1.ans⟩
          | succ n ih =>
            intro m σ' x1 x2 hm h2 h1 hF
            have g := g0.m hF
            have e6 : (gI σ' 121 (ix 6)).toInt = S := (g.sl.2.2.2.2 6).trans hS
            have ex : x2 = Int32.ofNat m := ofN h2 (by omega)
            have h21 : (x2 + 1).toInt = ((m + 1 : Nat) : Int) := by rw [tq1 x2 (by omega), h2]; omega
            have eR : ∀ p, suR E c a (ix w) o.toInt S (ix i) (m + 1) p = (suR E c a (ix w) o.toInt S (ix i) m p || (soB E c a (ix w) o.toInt (Int32.ofNat m) S && decide (p = (payI (Int32.ofNat m) (ix i)).toInt.toNat))) := fun p => rfl
            simp only [pI, pL, pR, pV, i10, ↓reduceIte, eM_sure_34]
            have hv := rowsV e6 hS5
            simp only [ile, hv, h2]
            rw [if_neg (by omega)]
            refine ⟨⟨by decide, by decide⟩, ?_⟩
            refine sM_torn g q1 q2 hS (fun σ1 b hF1 hb1 => ?_)
            rw [ex] at hb1
            have c0 : (b = 0) = (b.toInt = 0) := by rw [ieq]; rfl
            simp only [pI, pL, pR, pV, i10, ↓reduceIte, eM_sure_60]
            simp only [c0, hb1]
            cases hq : soB E c a (ix w) o.toInt (Int32.ofNat m) S with
            | true =>
              try rw [if_neg (by decide)]
              have ep : ((x2 >>> ((2 * i) &&& 31)) &&& 3) = payI (Int32.ofNat m) (ix i) := by
                unfold payI
                rw [← ei, ← ex]
              have hp3 : 0 ≤ (payI (Int32.ofNat m) (ix i)).toInt ∧ (payI (Int32.ofNat m) (ix i)).toInt ≤ 3 := and3 _
              simp only [hq, Bool.true_and] at eR
              generalize hP : (payI (Int32.ofNat m) (ix i)).toInt.toNat = P at eR
              have hPv : (payI (Int32.ofNat m) (ix i)).toInt = P := by omega
              have hP4 : P < 4 := by omega
              have hSP : suR E c a (ix w) o.toInt S (ix i) (m + 1) P = true := by rw [eR, decide_eq_true rfl, Bool.or_true]
              have e10 : (10 * payI (Int32.ofNat m) (ix i)).toInt = 10 * P := by
                simp only [tm, Int32.reduceToInt]
                omega
              have take : Fnd (suR E c a (ix w) o.toInt S (ix i) (m + 1)) (10 * payI (Int32.ofNat m) (ix i)) → bM_sure_85 true NOB (wp true 12) Φ (kM_sure 12 Φ) [.ref 120, .int w, .int o, .int i, .int x1, .int x2] [] σ1 := by
                intro hf
                simp only [pI, pL, pR, pV, i10, ↓reduceIte, eM_sure_85]
                apply wM_paymentOf
                simp only [pI, pL, pR, pV, i10, ↓reduceIte, eM_paymentOf_0]
                simp only [pI, pL, pR, pV, i10, ↓reduceIte, eM_sure_91, eM_sure_93]
                rw [ep]
                exact hM_sure_34 _ _ _ _ _ (ih (m + 1) σ1 _ (x2 + 1) (by omega) h21 hf (hF.tr hF1))
              simp only [pI, pL, pR, pV, i10, ↓reduceIte, eM_sure_66]
              have cN : (x1 = -1) = (x1.toInt = -1) := by rw [ieq]; rfl
              simp only [cN]
              split
              next z =>
                rcases h1 with ⟨hno, -⟩ | ⟨p, hp, -, -, hx⟩
                · refine take (Or.inr ⟨P, hP4, hSP, fun r hr hne => ?_, e10⟩)
                  rw [eR, hno r hr, decide_eq_false hne]
                  rfl
                · exfalso
                  omega
              next z =>
                rcases h1 with ⟨-, hx⟩ | ⟨p, hp, hfp, hoth, hx⟩
                · exact absurd hx z
                · apply wM_paymentOf
                  simp only [pI, pL, pR, pV, i10, ↓reduceIte, eM_paymentOf_0]
                  simp only [pI, pL, pR, pV, i10, ↓reduceIte, eM_sure_80]
                  rw [ep]
                  have cq : (x1 = 10 * payI (Int32.ofNat m) (ix i)) = (p = P) := by
                    simp only [ieq, hx, e10]
                    exact propext (by omega)
                  simp only [cq]
                  split
                  next y =>
                    subst y
                    refine take (Or.inr ⟨p, hp, hSP, fun r hr hne => ?_, e10⟩)
                    rw [eR, hoth r hr hne, decide_eq_false hne]
                    rfl
                  next y =>
                    refine h _ _ (hF.tr hF1) ?_
                    have s1 : suR E c a (ix w) o.toInt S (ix i) (m + 1) p = true := by rw [eR, hfp, Bool.true_or]
                    rw [su4_two hp hP4 y (suR_up s1 _ (by omega)) (suR_up hSP _ (by omega))]
                    rfl
            | false =>
              try rw [if_pos rfl]
              simp only [pI, pL, pR, pV, i10, ↓reduceIte, eM_sure_93]
              refine hM_sure_34 _ _ _ _ _ (ih (m + 1) σ1 x1 (x2 + 1) (by omega) h21 ?_ (hF.tr hF1))
              have : suR E c a (ix w) o.toInt S (ix i) (m + 1) = suR E c a (ix w) o.toInt S (ix i) m := by
                funext p
                rw [eR, hq, Bool.false_and, Bool.or_false]
              rw [this]
              exact h1
        exact lp (4 ^ (S - 1)) 0 σ (-1) 0 (by omega) rfl (Or.inl ⟨fun _ _ => rfl, rfl⟩) Fr.rf.fi
      · rw [tl0, e62] at y
        rw [if_neg (fun x => y x.2)] at h
        simp only [pI, pL, pR, pV, i10, ↓reduceIte, eM_sure_23, eM_sure_26]
        exact h _ _ Fr.rf.fi rfl
    · rw [if_neg (fun x => q x.1)] at h
      simp only [pI, pL, pR, pV, i10, ↓reduceIte, eM_sure_6, eM_sure_26]
      exact h _ _ Fr.rf.fi rfl
