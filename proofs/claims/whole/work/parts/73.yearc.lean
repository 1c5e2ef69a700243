/-! YEARS -/
def hapF (E : En) (c : Co) (x : Int) : Co :=
  if x % 5 < 2 then
    (if (0 < eV E ∧ 0 < eN E) ∧ c (24 + (x / 5 % eN E).toNat) = 0 ∧ 1 + x % 20 ≤ c (30 + (x % eV E).toNat) ∧ -999 ≤ c (x / 5 % eN E).toNat - (1 + x % 20) then payF c (x % eV E).toNat (x / 5 % eN E).toNat (1 + x % 20) else c)
  else if x % 5 = 2 then
    (if (0 < eN E ∧ x % 7 = 0) ∧ x % eN E ≠ x / 3 % eN E ∧ c (24 + (x % eN E).toNat) = 0 ∧ c (24 + (x / 3 % eN E).toNat) = 0 then mergF c (x % eN E).toNat (x / 3 % eN E).toNat else c)
  else c
def HapOk (E : En) (c F : Co) : Prop := Ok E F ∧ (∀ k, 36 ≤ k → F k = c k) ∧ (∀ k, Untold (eN E) (eV E) k → F k = c k) ∧ wsum F (eN E) ≤ wsum c (eN E)
theorem HapOk.rf {E : En} {c : Co} (h : Ok E c) : HapOk E c c := ⟨h, fun _ _ => rfl, fun _ _ => rfl, Int.le_refl _⟩
theorem hap_pay {E : En} {c : Co} {x : Int} {v w p : Int32} (h5 : x % 5 < 2) (hx : 0 ≤ x) (hV : 0 < eV E) (hN : 0 < eN E) (e1 : v.toInt = x % eV E) (e2 : w.toInt = x / 5 % eN E) (e3 : p.toInt = 1 + x % 20) : (CanP E c v w p → hapF E c x = payF c (ix v) (ix w) p.toInt) ∧ (¬ CanP E c v w p → hapF E c x = c) := by
  have i1 : ix v = (x % eV E).toNat := by unfold ix; rw [e1]
  have i2 : ix w = (x / 5 % eN E).toNat := by unfold ix; rw [e2]
  have b1 := Int.emod_nonneg x (by omega : (eV E : Int) ≠ 0)
  have b2 := Int.emod_lt_of_pos x (by omega : (0 : Int) < eV E)
  have b3 := Int.emod_nonneg (x / 5) (by omega : (eN E : Int) ≠ 0)
  have b4 := Int.emod_lt_of_pos (x / 5) (by omega : (0 : Int) < eN E)
  unfold hapF
  rw [if_pos h5]
  constructor
  · rintro ⟨_, ⟨_, q3⟩, _, q5, q6⟩
    rw [i1, e3] at q5
    rw [i2, e3] at q6
    rw [i2] at q3
    rw [if_pos ⟨⟨hV, hN⟩, q3, q5, q6⟩, i1, i2, e3]
  · intro q
    rw [if_neg]
    rintro ⟨_, q3, q5, q6⟩
    exact q ⟨⟨by omega, by omega⟩, ⟨⟨by omega, by omega⟩, by rw [i2]; exact q3⟩, ⟨by omega, by omega⟩, by rw [i1, e3]; exact q5, by rw [i2, e3]; exact q6⟩
theorem hap_np {E : En} {c : Co} {x : Int} (h5 : x % 5 < 2) (h : ¬ (0 < eV E ∧ 0 < eN E)) : hapF E c x = c := by
  unfold hapF
  rw [if_pos h5, if_neg (fun q => h q.1)]
theorem hap_mrg {E : En} {c : Co} {x : Int} {v w : Int32} (h5 : x % 5 = 2) (h7 : x % 7 = 0) (hx : 0 ≤ x) (hN : 0 < eN E) (e1 : v.toInt = x % eN E) (e2 : w.toInt = x / 3 % eN E) : (CanM E c v w → hapF E c x = mergF c (ix v) (ix w)) ∧ (¬ CanM E c v w → hapF E c x = c) := by
  have i1 : ix v = (x % eN E).toNat := by unfold ix; rw [e1]
  have i2 : ix w = (x / 3 % eN E).toNat := by unfold ix; rw [e2]
  have b1 := Int.emod_nonneg x (by omega : (eN E : Int) ≠ 0)
  have b2 := Int.emod_lt_of_pos x (by omega : (0 : Int) < eN E)
  have b3 := Int.emod_nonneg (x / 3) (by omega : (eN E : Int) ≠ 0)
  have b4 := Int.emod_lt_of_pos (x / 3) (by omega : (0 : Int) < eN E)
  unfold hapF
  rw [if_neg (by omega), if_pos h5]
  constructor
  · rintro ⟨q0, ⟨_, q3⟩, ⟨_, q5⟩⟩
    rw [i1] at q3
    rw [i2] at q5
    rw [if_pos ⟨⟨hN, h7⟩, fun z => q0 (eqv (by rw [e1, e2]; exact z)), q3, q5⟩, i1, i2]
  · intro q
    rw [if_neg]
    rintro ⟨_, q3, q5, q6⟩
    exact q ⟨fun z => q3 (by rw [← e1, ← e2, z]), ⟨⟨by omega, by omega⟩, by rw [i1]; exact q5⟩, ⟨⟨by omega, by omega⟩, by rw [i2]; exact q6⟩⟩
theorem hap_nm {E : En} {c : Co} {x : Int} (h5 : x % 5 = 2) (h : ¬ (0 < eN E ∧ x % 7 = 0)) : hapF E c x = c := by
  unfold hapF
  rw [if_neg (by omega), if_pos h5, if_neg (fun q => h q.1)]
theorem hap_nd {E : En} {c : Co} {x : Int} (h5 : 2 < x % 5) : hapF E c x = c := by
  unfold hapF
  rw [if_neg (by omega), if_neg (by omega)]
theorem HapOk.pay {E : En} {c : Co} {v w p : Int32} (hO : Ok E c) (q : CanP E c v w p) : HapOk E c (payF c (ix v) (ix w) p.toInt) := by
  obtain ⟨p1, p2, p3, p4⟩ := payF_ok hO q
  have hn := hO.1
  exact ⟨p1, p2, p4, Int.le_of_eq (wsum_cg _ (fun j hj => ⟨p3 _ (by omega) (by omega), p3 _ (by omega) (by omega)⟩))⟩
theorem HapOk.mrg {E : En} {c : Co} {v w : Int32} (hO : Ok E c) (q : CanM E c v w) : HapOk E c (mergF c (ix v) (ix w)) := by
  obtain ⟨p1, p2, p3, p4, -⟩ := mergF_ok hO q
  exact ⟨p1, fun k hk => p2 k (by omega), p3, p4⟩
theorem sD_payByChance {d : Nat} {Φ : Po} {E : En} {c : Co} {σ : Sg} {x : Int32} (hO : Ok E c) (hE : CE σ E) (hc : rc σ 2 = c) (hx : 0 ≤ x.toInt) (h5 : x.toInt % 5 < 2) (h : ∀ σ' : Sg, Fr [(2, 0, 44)] σ σ' → rc σ' 2 = hapF E c x.toInt → HapOk E c (hapF E c x.toInt) → Φ none σ') : wp true (d + 3) nD_payByChance [.ref 110, .int x] σ Φ := by
  apply wD_payByChance
  simp only [pI, pL, pR, pV, i10, ↓reduceIte, eD_payByChance_0]
  have e6 : (gI σ 1 6).toInt = eV E := hE.2.1
  have e4 : (gI σ 1 4).toInt = eN E := hE.1
  have k0 : (0 : Int32).toInt = 0 := rfl
  have no : ¬ (0 < eV E ∧ 0 < eN E) → bD_payByChance_69 true NOB (wp true (d + 2)) Φ (kD_payByChance (d + 2) Φ) [.ref 110, .int x, .retAddr 0, .retAddr 0] [] σ := fun q => by
    simp only [pI, pL, pR, pV, i10, ↓reduceIte, eD_payByChance_69]
    exact h σ Fr.rf (by rw [hc, hap_np h5 q]) (by rw [hap_np h5 q]; exact HapOk.rf hO)
  simp only [ile, e6, e4, k0]
  split
  next z => exact no (by omega)
  next z =>
    split
    next y => exact no (by omega)
    next y =>
      have d1 : (x % gI σ 1 6).toInt = x.toInt % eV E := by rw [tR hx, e6]
      have d0 : (x / 5).toInt = x.toInt / 5 := by rw [tD hx (by decide)]; rfl
      have d2 : ((x / 5) % gI σ 1 4).toInt = x.toInt / 5 % eN E := by rw [tR (by rw [d0]; omega), d0, e4]
      have d20 : (x % 20).toInt = x.toInt % 20 := by rw [tR hx]; rfl
      have d3 : (1 + x % 20).toInt = 1 + x.toInt % 20 := by rw [tP (by rw [d20, tl1]; omega), d20, tl1]
      refine ⟨ne0 (by omega), by decide, ne0 (by omega), by decide, ?_⟩
      obtain ⟨k1, k2⟩ := hap_pay (E := E) (c := c) h5 hx (by omega) (by omega) d1 d2 d3
      refine sD_canPay hO hE hc (fun q => ?_) (fun q => ?_)
      · simp only [pI, pL, pR, pV, i10, ↓reduceIte, eD_payByChance_54]
        refine ⟨by decide, ?_⟩
        refine sD_payNow hO hc q (fun σ' hF hc' => ?_)
        simp only [pI, pL, pR, pV, i10, ↓reduceIte, eD_payByChance_69]
        exact h σ' hF (by rw [k1 q]; exact hc') (by rw [k1 q]; exact HapOk.pay hO q)
      · simp only [pI, pL, pR, pV, i10, ↓reduceIte, eD_payByChance_54, eD_payByChance_69]
        exact h σ Fr.rf (by rw [k2 q]; exact hc) (by rw [k2 q]; exact HapOk.rf hO)
theorem sD_mergeByChance {d : Nat} {Φ : Po} {E : En} {c : Co} {σ : Sg} {x : Int32} (hO : Ok E c) (hE : CE σ E) (hc : rc σ 2 = c) (hx : 0 ≤ x.toInt) (h5 : x.toInt % 5 = 2) (h : ∀ σ' : Sg, Fr [(2, 0, 44)] σ σ' → rc σ' 2 = hapF E c x.toInt → HapOk E c (hapF E c x.toInt) → Φ none σ') : wp true (d + 3) nD_mergeByChance [.ref 110, .int x] σ Φ := by
  apply wD_mergeByChance
  simp only [pI, pL, pR, pV, i10, ↓reduceIte, eD_mergeByChance_0]
  have e4 : (gI σ 1 4).toInt = eN E := hE.1
  have k0 : (0 : Int32).toInt = 0 := rfl
  have no : ¬ (0 < eN E ∧ x.toInt % 7 = 0) → bD_mergeByChance_54 true NOB (wp true (d + 2)) Φ (kD_mergeByChance (d + 2) Φ) [.ref 110, .int x, .retAddr 0, .retAddr 0] [] σ := fun q => by
    simp only [pI, pL, pR, pV, i10, ↓reduceIte, eD_mergeByChance_54]
    exact h σ Fr.rf (by rw [hc, hap_nm h5 q]) (by rw [hap_nm h5 q]; exact HapOk.rf hO)
  have d7 : (x % 7 = 0) = (x.toInt % 7 = 0) := by rw [ieq, tR hx]; rfl
  simp only [d7, ile, e4, k0]
  refine ⟨by decide, ?_⟩
  split
  next z =>
    split
    next y => exact no (by omega)
    next y =>
      have d1 : (x % gI σ 1 4).toInt = x.toInt % eN E := by rw [tR hx, e4]
      have d0 : (x / 3).toInt = x.toInt / 3 := by rw [tD hx (by decide)]; rfl
      have d2 : ((x / 3) % gI σ 1 4).toInt = x.toInt / 3 % eN E := by rw [tR (by rw [d0]; omega), d0, e4]
      refine ⟨ne0 (by omega), by decide, ne0 (by omega), ?_⟩
      obtain ⟨k1, k2⟩ := hap_mrg (E := E) (c := c) h5 z hx (by omega) d1 d2
      refine sD_canMerge hO hE hc (fun q => ?_) (fun q => ?_)
      · simp only [pI, pL, pR, pV, i10, ↓reduceIte, eD_mergeByChance_45]
        refine sD_mergeNow hO hc q (fun σ' hF hc' => ?_)
        simp only [pI, pL, pR, pV, i10, ↓reduceIte, eD_mergeByChance_54]
        exact h σ' hF (by rw [k1 q]; exact hc') (by rw [k1 q]; exact HapOk.mrg hO q)
      · simp only [pI, pL, pR, pV, i10, ↓reduceIte, eD_mergeByChance_45, eD_mergeByChance_54]
        exact h σ Fr.rf (by rw [k2 q]; exact hc) (by rw [k2 q]; exact HapOk.rf hO)
  next z => exact no (by omega)
/-- what one draw does in the class -/
def EvC (E : En) (s s' : Sg) : Prop := ∃ a : Sg, Ei SCc s a ∧ rc a 2 = upc (rc s 2) 43 (nextX (rc s 2 43)) ∧ (if 2 < rc s 2 43 % 5 ∧ rc s 2 42 < 9999 then PCi E a s' else Ei SCc a s' ∧ rc s' 2 = hapF E (rc a 2) (rc s 2 43) ∧ HapOk E (rc a 2) (hapF E (rc a 2) (rc s 2 43)))
def YrsC (E : En) : Nat → Sg → Sg → Prop
  | 0, s, s' => s' = s
  | n + 1, s, s' => ∃ b, EvC E s b ∧ YrsC E n b s'
theorem YrsC.snoc {E : En} : ∀ {n : Nat} {s b s' : Sg}, YrsC E n s b → EvC E b s' → YrsC E (n + 1) s s'
  | 0, s, b, s', h, k => by
    have h : b = s := h
    subst h
    exact ⟨s', k, rfl⟩
  | n + 1, s, b, s', ⟨y, k1, r⟩, k => ⟨y, k1, YrsC.snoc r k⟩
theorem tk_x {E : En} {c : Co} {x : Int} (hO : Ok E c) (h : TkOk E c) : TkOk E (upc c 43 x) := fun v hv => by
  have := hO.2.1
  rw [upc_ne (by omega), upc_ne (by omega)]
  exact h v hv
theorem tk_h {E : En} {c F : Co} (g : HapOk E c F) (h : TkOk E c) : TkOk E F := fun v hv => by
  rw [g.2.1 _ (by omega), g.2.1 _ (by omega)]
  exact h v hv
theorem lD_years {d : Nat} {Φ : Po} {E : En} {N : Nat} {x1 x2 : Int32} {σ0 : Sg} (hE : CE σ0 E) (hN : x2.toInt = N) (hN60 : N ≤ 60)
    (h : ∀ σ' : Sg, Fr FX σ0 σ' → YrsC E N σ0 σ' → Φ none σ') :
    ∀ (n i : Nat) (σ : Sg) (x : Int32) (v4 : Value), i + n = N → x.toInt = i → Fr FX σ0 σ → YrsC E i σ0 σ → Ok E (rc σ 2) → TkOk E (rc σ 2) → (0 ≤ rd σ 2 44 ∧ rd σ 2 44 ≤ 9999 + i) → bD_passYears_25 true NOB (wp true (d + 6)) Φ (kD_passYears (d + 6) Φ) [.ref 110, .int x1, .int x2, .int x, v4] [] σ := by
  intro n
  induction n with
  | zero =>
    intro i σ x v4 hi hx hF hD hO hT hw
    simp only [pI, pL, pR, pV, i10, ↓reduceIte, eD_passYears_25, eD_passYears_90]
    simp only [ile, hN, hx]
    rw [if_pos (by omega)]
    obtain rfl : i = N := by omega
    exact h σ hF hD
  | succ n ih =>
    intro i σ x v4 hi hx hF hD hO hT hw
    simp only [pI, pL, pR, pV, i10, ↓reduceIte, eD_passYears_25]
    simp only [ile, hN, hx]
    rw [if_neg (by omega)]
    have hx1 : (x + 1).toInt = ((i + 1 : Nat) : Int) := by rw [t1 (by omega), hx]; omega
    refine sD_drawX rfl hO.2.2.2.1 (fun v σ1 hF1 hc1 hA1 hv => ?_)
    have hF1x : Fr FX σ σ1 := hF1.mo (by decide)
    have hO1 : Ok E (rc σ1 2) := by rw [hc1]; exact hO.X (nextX_r _)
    have hT1 : TkOk E (rc σ1 2) := by rw [hc1]; exact tk_x hO hT
    have hE1 : CE σ1 E := CEx (hF.tr hF1x) hE
    have e44 : rd σ1 2 44 = rd σ 2 44 := by unfold rd; rw [hA1 2 44 (by omega)]
    have e42 : rc σ1 2 42 = rc σ 2 42 := by rw [hc1, upc_ne (by decide)]
    have hx0 := hO.2.2.2.1
    have eS : Ei SCc σ σ1 := fun a k q => by
      unfold rd
      rw [hA1 a k (fun z => by rw [z.1, z.2] at q; exact absurd q (by decide))]
    have go : ∀ σ2 : Sg, EvC E σ σ2 → Fr FX σ1 σ2 → Ok E (rc σ2 2) → TkOk E (rc σ2 2) → (rd σ2 2 44 = rd σ 2 44 ∨ rd σ2 2 44 = rd σ 2 44 + 1) → bD_passYears_84 true NOB (wp true (d + 6)) Φ (kD_passYears (d + 6) Φ) [.ref 110, .int x1, .int x2, .int x, .int v] [] σ2 := by
      intro σ2 hev hF2 hO2 hT2 h44
      simp only [pI, pL, pR, pV, i10, ↓reduceIte, eD_passYears_84]
      exact hD_passYears_25 _ _ _ _ _ (ih (i + 1) σ2 (x + 1) _ (by omega) hx1 ((hF.tr hF1x).tr hF2) (hD.snoc hev) hO2 hT2 (by omega))
    have v0 : 0 ≤ v.toInt := by omega
    have c5 : (v % 5).toInt = rc σ 2 43 % 5 := by rw [tR v0, hv]; rfl
    have k2 : (2 : Int32).toInt = 2 := rfl
    simp only [pI, pL, pR, pV, i10, ↓reduceIte, eD_passYears_34]
    refine ⟨by decide, ?_⟩
    simp only [ile, k2, c5]
    have hap : ∀ σ2 : Sg, ¬ (2 < rc σ 2 43 % 5 ∧ rc σ 2 42 < 9999) → Fr [(2, 0, 44)] σ1 σ2 → rc σ2 2 = hapF E (rc σ1 2) (rc σ 2 43) → HapOk E (rc σ1 2) (hapF E (rc σ1 2) (rc σ 2 43)) → bD_passYears_84 true NOB (wp true (d + 6)) Φ (kD_passYears (d + 6) Φ) [.ref 110, .int x1, .int x2, .int x, .int v] [] σ2 := by
      intro σ2 hn hF2 hc2 hok
      refine go σ2 ⟨σ1, eS, hc1, ?_⟩ (hF2.mo (by decide)) (by rw [hc2]; exact hok.1) (by rw [hc2]; exact tk_h hok hT1) (Or.inl (by rw [hF2.rd (by decide), e44]))
      rw [if_neg hn]
      exact ⟨hF2.ei.mo (by decide), hc2, hok⟩
    split
    next z =>
      simp only [pI, pL, pR, pV, i10, ↓reduceIte, eD_passYears_53]
      refine ⟨by decide, ?_⟩
      simp only [ieq, k2, c5]
      split
      next y =>
        refine sD_mergeByChance hO1 hE1 rfl v0 (by rw [hv]; exact y) (fun σ2 hF2 hc2 hok => ?_)
        simp only [pI, pL, pR, pV, i10, ↓reduceIte, eD_passYears_67]
        rw [hv] at hc2 hok
        exact hap σ2 (by omega) hF2 hc2 hok
      next y =>
        simp only [pI, pL, pR, pV, i10, ↓reduceIte, eD_passYears_70]
        refine sW_daysLeft rfl hO1.2.2.1 (fun l hl => ?_)
        simp only [pI, pL, pR, pV, i10, ↓reduceIte, eD_passYears_77]
        have hd := hO.2.2.1
        have k0 : (0 : Int32).toInt = 0 := rfl
        simp only [ile, hl, e42, k0]
        split
        next u =>
          have e := hap_nd (E := E) (c := rc σ1 2) (x := rc σ 2 43) (by omega)
          exact hap σ1 (by omega) Fr.rf e.symm (by rw [e]; exact HapOk.rf hO1)
        next u =>
          refine sD_pass hO1 hE1 rfl hT1 (by omega) (by rw [e44]; omega) (fun σ2 hF2 hc2 hw2 hf2 ht2 hP => ?_)
          obtain ⟨p1, p2, -⟩ := passF_ok hO1 hT1 (by omega)
          refine go σ2 ⟨σ1, eS, hc1, ?_⟩ (FXd hF2) (by rw [hc2]; exact p1) (by rw [hc2]; exact p2) (Or.inr (by rw [hP.1, e44]))
          rw [if_pos (by omega)]
          exact ⟨hF2.ei, hc2, hP⟩
    next z =>
      refine sD_payByChance hO1 hE1 rfl v0 (by rw [hv]; omega) (fun σ2 hF2 hc2 hok => ?_)
      simp only [pI, pL, pR, pV, i10, ↓reduceIte, eD_passYears_50]
      rw [hv] at hc2 hok
      exact hap σ2 (by omega) hF2 hc2 hok
