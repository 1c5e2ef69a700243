/-! PLAYED: the reference behind the class -/
def Hi (t t' : Sg) : Prop := (∀ a k, (a < 120 ∨ 137 ≤ a) → gI t' a k = gI t a k) ∧ ln t' = ln t
theorem Hi.rf {t : Sg} : Hi t t := ⟨fun _ _ _ => rfl, rfl⟩
theorem Hi.tr {a b c : Sg} (h : Hi a b) (g : Hi b c) : Hi a c := ⟨fun x k e => (g.1 x k e).trans (h.1 x k e), g.2.trans h.2⟩
theorem Fr.hi {S : Ls} {t t' : Sg} (h : Fr S t t') (e : ∀ e, e ∈ S → 120 ≤ e.1 ∧ e.1 < 137) : Hi t t' := ⟨fun a k ha => h.1 _ _ (not_inS (fun x hx z => by have := e x hx; omega)), h.2.2.2⟩
theorem Hi.sm {t t' : Sg} (h : Hi t t') : Sm t t' := ⟨fun k => h.1 _ _ (Or.inr (by omega)), h.2⟩
theorem EC_EE {lws : Lws} {σ : Sg} (g1 : G1 0 121 σ) (g3 : G3 0 121 σ) : EC lws σ = EE lws σ := by
  obtain ⟨a1, a2, a3, a4, a5, a6⟩ := g1
  obtain ⟨b1, b2, b3, b4⟩ := g3
  have a1 : rd σ 1 4 = rd σ 121 0 := a1
  have a2 : rd σ 1 6 = rd σ 121 1 := a2
  have b2 : rd σ 1 10 = rd σ 121 3 := b2
  have q : (fun w => if w < 6 then rd σ 34 w else 0) = fun w => if w < 6 then rd σ 121 (12 + 8 * w) else 0 := by
    funext w
    by_cases h : w < 6
    · rw [if_pos h, if_pos h]; exact a3 w h
    · rw [if_neg h, if_neg h]
  have r : (fun v => if v < 6 then rd σ 35 v else 0) = fun v => if v < 6 then rd σ 121 (60 + 4 * v) else 0 := by
    funext v
    by_cases h : v < 6
    · rw [if_pos h, if_pos h]; exact a4 v h
    · rw [if_neg h, if_neg h]
  unfold EC EE
  rw [a1, a2, b2, q, r]
theorem R.ci {lws : Lws} {σ : Sg} (hR : R lws σ) : CI lws σ := by
  have e : EC lws σ = EE lws σ := EC_EE hR.1.1 hR.1.2.2.1
  have g9 := hR.1.2.2.2.2.2.2.2.2
  have s1 : rd σ 1 3 = rd σ 121 4 := g9.1
  obtain ⟨e0, e1, e2, e3, b0, b1⟩ := hR.n
  have w := hR.1.2.2.2.2.2.2.2.1
  have w1 : rd σ 2 44 = rd σ 121 10 := w.1
  have w2 : rd σ 121 10 = rd σ 121 8 := w.2.1
  refine ⟨by rw [e]; exact hR.ce, by rw [e, hR.rc]; exact hR.ok, by rw [e, hR.rc]; exact hR.tk, ⟨g9.2.2.1, by rw [s1]; exact g9.2.1⟩, ?_, by omega⟩
  rw [w1, w2, hR.rc]
  rfl
theorem RD.nb {D : Int} {lws : Lws} {s t : Sg} (g : RD D lws (mrg s t)) : (0 ≤ rd t 121 0 ∧ rd t 121 0 ≤ 6) ∧ (0 ≤ rd t 121 1 ∧ rd t 121 1 ≤ 6) ∧ rd s 1 4 = rd t 121 0 ∧ rd s 1 6 = rd t 121 1 ∧ EC lws s = EE lws t := by
  have g1 := g.1.1
  have e : EC lws (mrg s t) = EE lws (mrg s t) := EC_EE g1 g.1.2.2.1
  have e2 : EC lws (mrg s t) = EC lws s := EC_of (mrg_c (by omega)) (mrg_c (by omega)) (mrg_c (by omega)) (fun k => mrg_c (by omega)) (fun k => mrg_c (by omega))
  obtain ⟨a1, a2, a3, a4, a5, a6⟩ := g1
  have a1 : rd (mrg s t) 1 4 = rd (mrg s t) 121 0 := a1
  have a2 : rd (mrg s t) 1 6 = rd (mrg s t) 121 1 := a2
  rw [mrg_c (by omega), mrg_m (by omega)] at a1 a2
  rw [mrg_m (by omega)] at a5 a6
  exact ⟨a5, a6, a1, a2, by rw [← e2, e, mrg_EE]⟩
theorem stepW {D : Int} {lws : Lws} {s s' t t' : Sg} {n : Nat} {x1 x2 x3 : Int} (g : RD D lws (mrg s t)) (hN : rd t 121 0 = n) (h6 : n < 6) (d1 : 0 ≤ x1 ∧ x1 ≤ 3) (d2 : 1 ≤ x2 ∧ x2 ≤ 9) (d3 : 0 ≤ x3 ∧ x3 ≤ 99) (k1 : TelC s s' n x1 x2 x3) (k2 : TelM t t' n x1 x2 x3) : RD D lws (mrg s' t') := by
  refine R_wind (σ := mrg s t) (σ1 := mrg s' t) (n := n) (x1 := x1) (x2 := x2) (x3 := x3) g ((mrg_m (by omega)).trans hN) h6 d1 d2 d3 ?_ ?_
  · obtain ⟨a1, a2, a3, a4, a5, a6⟩ := k1
    exact ⟨Ei_mc a1, by rw [mrg_c (by omega)]; exact a2, by rw [mrg_c (by omega)]; exact a3, fun w hw => by rw [mrg_c (by omega), mrg_c (by omega)]; exact a4 w hw, by rw [mrg_rc (by omega), mrg_rc (by omega)]; exact a5, fun r hr => by rw [mrg_rc (by omega), mrg_rc (by omega)]; exact a6 r hr⟩
  · obtain ⟨a1, a2, a3, a4, a5, a6, a7⟩ := k2
    exact ⟨Ei_mm a1, by rw [mrg_m (by omega)]; exact a2, by rw [mrg_m (by omega)]; exact a3, by rw [mrg_m (by omega)]; exact a4, by rw [mrg_m (by omega)]; exact a5, fun w k h1 h2 h3 h4 => by rw [mrg_m (by omega), mrg_m (by omega)]; exact a6 w k h1 h2 h3 h4, by rw [mrg_mc (by omega), mrg_mc (by omega)]; exact a7⟩
theorem stepV {D : Int} {lws : Lws} {s s' t t' : Sg} {n : Nat} {x1 x2 : Int} (g : RD D lws (mrg s t)) (hN : rd t 121 1 = n) (h6 : n < 6) (d1 : 0 ≤ x1 ∧ x1 ≤ 9) (d2 : 0 ≤ x2 ∧ x2 ≤ 9999) (k1 : TlvC s s' n x1 x2) (k2 : TlvM t t' n x1 x2) : RD D lws (mrg s' t') := by
  refine R_vil (σ := mrg s t) (σ1 := mrg s' t) (n := n) (x1 := x1) (x2 := x2) g ((mrg_m (by omega)).trans hN) h6 d1 d2 ?_ ?_
  · obtain ⟨a1, a2, a3, a4, a5, a6⟩ := k1
    exact ⟨Ei_mc a1, by rw [mrg_c (by omega)]; exact a2, by rw [mrg_c (by omega)]; exact a3, fun w hw => by rw [mrg_c (by omega), mrg_c (by omega)]; exact a4 w hw, by rw [mrg_rc (by omega), mrg_rc (by omega)]; exact a5, fun r hr => by rw [mrg_rc (by omega), mrg_rc (by omega)]; exact a6 r hr⟩
  · obtain ⟨a1, a2, a3, a4, a5, a6⟩ := k2
    exact ⟨Ei_mm a1, by rw [mrg_m (by omega)]; exact a2, by rw [mrg_m (by omega)]; exact a3, by rw [mrg_m (by omega)]; exact a4, fun w k h1 h2 h3 => by rw [mrg_m (by omega), mrg_m (by omega)]; exact a5 w k h1 h2 h3, by rw [mrg_mc (by omega), mrg_mc (by omega)]; exact a6⟩
def wayM (t : Sg) (x1 x2 x3 : Int32) : Sg := sI (sI t 121 (84 + (6 * ix x1 + ix x2)) x3) 121 (84 + (6 * ix x2 + ix x1)) x3
theorem RD_oneD {D : Int} {lws : Lws} {σ σ2 : Sg} {S : Ls} (g : RD D lws σ) (hS : Ei S σ σ2) (h2 : dsj (fA 40 122) S = true) (h3 : dsj fT S = true) (h4 : dsj fF S = true) (hA : RA D 0 121 σ2) : RD D lws σ2 := ⟨hA, RA.of (hS.eqc h2) g.2.1, RT.of (hS.eqc h3) g.2.2.1, RF.of (hS.eqc h4) g.2.2.2⟩
theorem stepY {D : Int} {lws : Lws} {s t : Sg} {x1 x2 x3 : Int32} (g : RD D lws (mrg s t)) (q : CanY (rd s 1 6) x1 x2 x3) : RD D lws (mrg (wayC s x1 x2 x3) (wayM t x1 x2 x3)) := by
  obtain ⟨-, nb1, -, n6, -⟩ := g.nb
  obtain ⟨q1, q2, q3, q4⟩ := q
  have hx1 := ix_to q1.1
  have hx2 := ix_to q2.1
  have fC : Fr [(36, 0, 36), (121, 84, 120)] s (wayC s x1 x2 x3) := (Fr.sI (inS_r (lo := 0) (hi := 36) (by simp) (by omega))).tr (Fr.sI (inS_r (lo := 0) (hi := 36) (by simp) (by omega)))
  have fM : Fr [(36, 0, 36), (121, 84, 120)] t (wayM t x1 x2 x3) := (Fr.sI (inS_r (lo := 84) (hi := 120) (by simp) (by omega))).tr (Fr.sI (inS_r (lo := 84) (hi := 120) (by simp) (by omega)))
  have hS : Ei [(36, 0, 36), (121, 84, 120)] (mrg s t) (mrg (wayC s x1 x2 x3) (wayM t x1 x2 x3)) := (Ei_mc fC.ei).tr (Ei_mm fM.ei)
  obtain ⟨g1, g2, g3, g4, g5, g6, g7, g8, g9⟩ := g.1
  refine RD_oneD g hS (by decide +kernel) (by decide +kernel) (by decide +kernel) ⟨G1.of (hS.eqc (by decide +kernel)) g1, fun i hi => ?_, G3.of (hS.eqc (by decide +kernel)) g3, G4.of (hS.eqc (by decide +kernel)) g4, G5.of (hS.eqc (by decide +kernel)) g5, G6.of (hS.eqc (by decide +kernel)) g6, G7.of (hS.eqc (by decide +kernel)) g7, G8.of (hS.eqc (by decide +kernel)) g8, G9.of (hS.eqc (by decide +kernel)) g9⟩
  have g2 : rd (mrg s t) 36 i = rd (mrg s t) 121 (84 + i) ∧ 0 ≤ rd (mrg s t) 121 (84 + i) ∧ rd (mrg s t) 121 (84 + i) ≤ 99 := g2 i hi
  rw [mrg_c (by omega), mrg_m (by omega)] at g2
  show rd (mrg (wayC s x1 x2 x3) (wayM t x1 x2 x3)) 36 i = _ ∧ _
  rw [mrg_c (by omega), mrg_m (by omega)]
  generalize hA : 6 * ix x1 + ix x2 = A
  generalize hB : 6 * ix x2 + ix x1 = B
  have C : rd (wayC s x1 x2 x3) 36 i = if i = B then x3.toInt else if i = A then x3.toInt else rd s 36 i := by
    unfold wayC
    rw [hA, hB]
    by_cases c1 : i = B
    · rw [if_pos c1, c1, rdeq]
    rw [if_neg c1, rdne2 c1]
    by_cases c2 : i = A
    · rw [if_pos c2, c2, rdeq]
    rw [if_neg c2, rdne2 c2]
  have M : rd (wayM t x1 x2 x3) 121 (84 + i) = if i = B then x3.toInt else if i = A then x3.toInt else rd t 121 (84 + i) := by
    unfold wayM
    rw [hA, hB]
    by_cases c1 : i = B
    · rw [if_pos c1, c1, rdeq]
    rw [if_neg c1, rdne2 (by omega)]
    by_cases c2 : i = A
    · rw [if_pos c2, c2, rdeq]
    rw [if_neg c2, rdne2 (by omega)]
  rw [C, M]
  by_cases c1 : i = B
  · rw [if_pos c1, if_pos c1]
    omega
  · rw [if_neg c1, if_neg c1]
    by_cases c2 : i = A
    · rw [if_pos c2, if_pos c2]
      omega
    · rw [if_neg c2, if_neg c2]
      exact g2
theorem lM_daysP {d : Nat} {Φ : Po} {lws : Lws} {E : En} {c : Co} {N m : Nat} {x1 : Int32} {sN t0 : Sg} (hO : Ok E c) (hT : TkOk E c) (hN : x1.toInt = N) (hN60 : N ≤ 60) (hm9 : (m : Int) ≤ 9999 - c 42) {ok : Bool} (hok : ok = true ∧ m = N ∨ ok = false ∧ m < N ∧ pasN E c m 42 = 9999)
    (h : ∀ (t : Sg) (D : Int), 0 ≤ D → RD D lws (mrg sN t) → Hi t0 t → Φ (some (.int (cond ok 1 0))) t) :
    ∀ (n i : Nat) (s t : Sg) (x : Int32) (D : Int), i + n = m → x.toInt = i → Hi t0 t → DaysC E n s sN → 0 ≤ D → RD D lws (mrg s t) → EE lws t = E → mc t 121 = pasN E c i → bM_arePassed_7 true NOB (wp true (d + 9)) Φ (kM_arePassed (d + 9) Φ) [.ref 120, .int x1, .int x] [] t := by
  have c9 : (9999 : Int32).toInt = 9999 := rfl
  intro n
  induction n with
  | zero =>
    intro i s t x D hi hx hF hD hD0 g hE hc
    obtain rfl : i = m := by omega
    have hD : sN = s := hD
    subst hD
    have e8 : (gI t 121 (ix 8)).toInt = pasN E c i 42 := by rw [← hc]; rfl
    simp only [pI, pL, pR, pV, i10, ↓reduceIte, eM_arePassed_7, eM_arePassed_54]
    simp only [ile, hN, hx]
    rcases hok with ⟨rfl, rfl⟩ | ⟨rfl, h1, h2⟩
    · rw [if_pos (by omega)]
      exact h t D hD0 g hF
    · rw [if_neg (by omega)]
      simp only [ieq, e8, c9]
      rw [if_pos h2]
      exact ⟨⟨by decide, by decide⟩, h t D hD0 g hF⟩
  | succ n ih =>
    intro i s t x D hi hx hF hD hD0 g hE hc
    obtain ⟨o1, o2, o3, o4⟩ := pasN_ok hO hT i (by omega)
    have e8 : (gI t 121 (ix 8)).toInt = pasN E c i 42 := by rw [← hc]; rfl
    have cd : (gI t 121 (ix 8) = 9999) = (pasN E c i 42 = 9999) := by rw [ieq, e8]; rfl
    simp only [pI, pL, pR, pV, i10, ↓reduceIte, eM_arePassed_7]
    simp only [ile, hN, hx, cd]
    rw [if_neg (by rcases hok with ⟨-, e⟩ | ⟨-, e, -⟩ <;> omega), if_neg (by omega)]
    refine ⟨⟨by decide, by decide⟩, ?_⟩
    have hmN : m ≤ N := by rcases hok with ⟨-, e⟩ | ⟨-, e, -⟩ <;> omega
    have hx1 : (x + 1).toInt = ((i + 1 : Nat) : Int) := by rw [t1 (by omega), hx]; omega
    obtain ⟨a, b, k1, p1, rest⟩ := hD
    simp only [pI, pL, pR, pV, i10, ↓reduceIte, eM_arePassed_27]
    obtain ⟨-, -, -, -, -, -, h4⟩ := g.core
    refine sM_keep h4 (fun t1 hK => ?_)
    simp only [pI, pL, pR, pV, i10, ↓reduceIte, eM_arePassed_31]
    have g1 := stepK hD0 g k1 hK.i
    have mcK : mc t1 121 = mc t 121 := mc_ei hK.1.ei (by decide)
    have eK : EE lws t1 = E := (EE_of (hK.1.ei.eqc (by decide +kernel))).trans hE
    obtain ⟨c1, c2, c3, c4, c5, c6, c7⟩ := g1.core
    rw [eK] at c2 c3 c4
    refine sM_pass c2 c4 rfl c3 (by rw [mcK, hc]; omega) (Or.inr ⟨c5, c6.1, by omega⟩) (fun t2 hF2 hc2 hw2 hf2 ht2 _ hR => ?_)
    simp only [pI, pL, pR, pV, i10, ↓reduceIte, eM_arePassed_35]
    have hp : PMi E t1 t2 := ⟨hF2.ei, hc2, hR c5⟩
    have p1' : PCi E a b := p1
    have g2 := stepP (by omega) g1 (by rw [mcK, hc]; omega) (by rw [eK]; exact p1') (by rw [eK]; exact hp)
    have eP : EE lws t2 = E := (EE_of (hF2.ei.eqc (by decide +kernel))).trans eK
    have hH : Hi t0 (sI t2 120 28 (gI t2 120 28 + gI t2 120 27)) := ((hF.tr (hK.1.hi (by decide))).tr (hF2.hi (by decide))).tr (Fr.hi (S := [(120, 28, 29)]) (Fr.sI (by decide)) (by decide))
    refine hM_arePassed_7 _ _ _ _ _ (ih (i + 1) b _ (x + 1) (40 - 1) (by omega) hx1 hH rest (by omega) (RD.ms tms g2) ((EE_of (tms.eqc (by decide +kernel))).trans eP) ?_)
    rw [mc_ne (by omega), hc2, mcK, hc]; rfl
theorem sM_daysP {d : Nat} {Φ : Po} {lws : Lws} {D : Int} {N m : Nat} {x1 : Int32} {s sN t : Sg} {ok : Bool} (hD : 0 ≤ D) (g : RD D lws (mrg s t)) (hN : x1.toInt = N) (hN60 : N ≤ 60) (hm9 : (m : Int) ≤ 9999 - mc t 121 42) (hok : ok = true ∧ m = N ∨ ok = false ∧ m < N ∧ pasN (EE lws t) (mc t 121) m 42 = 9999) (hd : DaysC (EE lws t) m s sN) (h : ∀ (t' : Sg) (D' : Int), 0 ≤ D' → RD D' lws (mrg sN t') → Hi t t' → Φ (some (.int (cond ok 1 0))) t') : wp true (d + 10) nM_arePassed [.ref 120, .int x1] t Φ := by
  obtain ⟨c1, c2, c3, c4, c5, c6, c7⟩ := g.core
  apply wM_arePassed
  simp only [pI, pL, pR, pV, i10, ↓reduceIte, eM_arePassed_0]
  have hH : Hi t (sI t 120 28 0) := Fr.hi (S := [(120, 28, 29)]) (Fr.sI (by decide)) (by decide)
  exact lM_daysP (d := d) (lws := lws) (E := EE lws t) (c := mc t 121) (t0 := t) c2 c3 hN hN60 hm9 hok (fun t' D' h1 h2 h3 => h t' D' h1 h2 h3) m 0 s _ 0 D (by omega) rfl hH hd hD (RD.ms tms g) (EE_of (tms.eqc (by decide +kernel))) (mc_ne (by omega))
theorem sM_payP {d : Nat} {Φ : Po} {lws : Lws} {D : Int} {x1 x2 x3 : Int32} {s s' t : Sg} (hD : 0 ≤ D) (g : RD D lws (mrg s t)) (h1 : CanP (EE lws t) (mc t 121) x1 x2 x3 → (∃ a, KCi s a ∧ Ei [(2, 0, 44)] a s') → rc s' 2 = payF (mc t 121) (ix x1) (ix x2) x3.toInt → ∀ (t' : Sg) (r : Int32), r.toInt ≠ -1000 → RD 0 lws (mrg s' t') → Hi t t' → Φ (some (.int r)) t') (hev : CanP (EE lws t) (mc t 121) x1 x2 x3 → (∃ a, KCi s a ∧ Ei [(2, 0, 44)] a s') ∧ rc s' 2 = payF (mc t 121) (ix x1) (ix x2) x3.toInt) (h0 : ¬ CanP (EE lws t) (mc t 121) x1 x2 x3 → Φ (some (.int (-1000))) t) : wp true (d + 6) nM_pay [.ref 120, .int x1, .int x2, .int x3] t Φ := by
  obtain ⟨c1, hO, hT, hE, c5, c6, c7⟩ := g.core
  obtain ⟨b0, b1, n4, n6, eE⟩ := g.nb
  have e0 : rd t 121 0 = eN (EE lws t) := by show rd t 121 0 = ((rd t 121 0).toNat : Int); omega
  have e1 : rd t 121 1 = eV (EE lws t) := by show rd t 121 1 = ((rd t 121 1).toNat : Int); omega
  have hn := hO.1
  have l999 : (999 : Int32).toInt = 999 := rfl
  apply wM_pay
  simp only [pI, pL, pR, pV, i10, ↓reduceIte, eM_pay_0]
  refine sM_isVillage b1 (fun z => ?_) (fun z => ?_)
  · rw [e1] at z
    simp only [pI, pL, pR, pV, i10, ↓reduceIte, eM_pay_5]
    refine sM_isIn (fun y => ?_) (fun y => ?_)
    · rw [tl1, l999] at y
      simp only [pI, pL, pR, pV, i10, ↓reduceIte, eM_pay_16]
      refine sM_canPay hO e0 rfl z y (fun q => ?_) (fun q => ?_)
      · obtain ⟨⟨a, ka, fa⟩, hc⟩ := hev q
        simp only [pI, pL, pR, pV, i10, ↓reduceIte, eM_pay_26, eM_pay_33]
        refine sM_keep c7 (fun t1 hKM => ?_)
        simp only [pI, pL, pR, pV, i10, ↓reduceIte, eM_pay_37]
        have mcK : mc t1 121 = mc t 121 := mc_ei hKM.1.ei (by decide)
        refine sM_payNow hO mcK q (fun t2 hF3 hc3 => ?_)
        simp only [pI, pL, pR, pV, i10, ↓reduceIte, eM_pay_44]
        have qw := q.2.1.1
        refine sM_getO (by omega) (fun r hr => ?_)
        simp only [pI, pL, pR, pV, i10, ↓reduceIte, eM_pay_50]
        have gv : payF (mc t 121) (ix x1) (ix x2) x3.toInt (ix x2) = mc t 121 (ix x2) - x3.toInt := upc_eq
        have gk := stepK hD g ka hKM.i
        have eK : EE lws t1 = EE lws t := EE_of (hKM.1.ei.eqc (by decide +kernel))
        obtain ⟨p1, p2, p3, p4⟩ := payF_ok hO q
        have k0 : ∀ k, k < 4 → rd t1 121 k = rd t 121 k := fun k hk => hKM.1.rd (FKm_low k hk)
        have gc := stepC (s' := s') (t' := t2) (F := payF (mc t 121) (ix x1) (ix x2) x3.toInt) gk (fa.mo (by decide)) hc (hF3.ei.mo FMkSm) hc3 (core_ok (lws := lws) (c := mc t 121) (by rw [k0 0 (by omega)]; exact g.ws) (by rw [eK]; exact p1) (by rw [eK]; exact hT) p2 (Int.le_of_eq (wsum_cg _ (fun j hj => ⟨p3 _ (by omega) (by rw [k0 0 (by omega)] at hj; omega), p3 _ (by omega) (by rw [k0 0 (by omega)] at hj; omega)⟩)))) (fun k hk => by
          rw [mcK]
          rw [k0 0 (by omega), k0 1 (by omega)] at hk
          exact p4 k hk) (by rw [mcK]; exact p2 42 (by omega))
        refine h1 q ⟨a, ka, fa⟩ hc t2 r ?_ (gc.le (by omega)) ((hKM.1.hi (by decide)).tr (hF3.hi (by decide)))
        have := q.2.2.2.2
        rw [hr, hc3, gv]
        omega
      · simp only [pI, pL, pR, pV, i10, ↓reduceIte, eM_pay_26, eM_pay_29]
        exact h0 q
    · rw [tl1, l999] at y
      simp only [pI, pL, pR, pV, i10, ↓reduceIte, eM_pay_16, eM_pay_29]
      exact h0 (fun q => y q.2.2.1)
  · rw [e1] at z
    simp only [pI, pL, pR, pV, i10, ↓reduceIte, eM_pay_5, eM_pay_29]
    exact h0 (fun q => z q.1)
theorem sM_mergeP {d : Nat} {Φ : Po} {lws : Lws} {D : Int} {w u : Int32} {s s' t : Sg} (hD : 0 ≤ D) (g : RD D lws (mrg s t)) (hev : CanM (EE lws t) (mc t 121) w u → (∃ a, KCi s a ∧ Ei [(2, 0, 44)] a s') ∧ rc s' 2 = mergF (mc t 121) (ix w) (ix u)) (h1 : CanM (EE lws t) (mc t 121) w u → ∀ (t' : Sg) (r : Int32), r.toInt ≠ -1000 → RD 0 lws (mrg s' t') → Hi t t' → Φ (some (.int r)) t') (h0 : ¬ CanM (EE lws t) (mc t 121) w u → Φ (some (.int (-1000))) t) : wp true (d + 6) nM_merge [.ref 120, .int w, .int u] t Φ := by
  obtain ⟨c1, hO, hT, hE, c5, c6, c7⟩ := g.core
  obtain ⟨b0, b1, n4, n6, eE⟩ := g.nb
  have e0 : rd t 121 0 = eN (EE lws t) := by show rd t 121 0 = ((rd t 121 0).toNat : Int); omega
  have hn := hO.1
  apply wM_merge
  simp only [pI, pL, pR, pV, i10, ↓reduceIte, eM_merge_0]
  refine sM_isHere hO e0 rfl (fun z => ?_) (fun z => ?_)
  · simp only [pI, pL, pR, pV, i10, ↓reduceIte, eM_merge_5]
    refine sM_isHere hO e0 rfl (fun y => ?_) (fun y => ?_)
    · by_cases hwu : w = u
      · simp only [pI, pL, pR, pV, i10, ↓reduceIte, eM_merge_13, eM_merge_21]
        rw [if_pos hwu]
        exact h0 (fun q => q.1 hwu)
      · have q : CanM (EE lws t) (mc t 121) w u := ⟨hwu, z, y⟩
        obtain ⟨⟨a, ka, fa⟩, hc⟩ := hev q
        simp only [pI, pL, pR, pV, i10, ↓reduceIte, eM_merge_13]
        rw [if_neg hwu]
        simp only [pI, pL, pR, pV, i10, ↓reduceIte, eM_merge_25]
        refine sM_keep c7 (fun t1 hKM => ?_)
        simp only [pI, pL, pR, pV, i10, ↓reduceIte, eM_merge_29]
        have mcK : mc t1 121 = mc t 121 := mc_ei hKM.1.ei (by decide)
        refine sM_mergeNow hO mcK q (fun t2 hF3 hc3 => ?_)
        simp only [pI, pL, pR, pV, i10, ↓reduceIte, eM_merge_35]
        refine sM_getO (by omega) (fun r hr => ?_)
        simp only [pI, pL, pR, pV, i10, ↓reduceIte, eM_merge_41]
        have gk := stepK hD g ka hKM.i
        have eK : EE lws t1 = EE lws t := EE_of (hKM.1.ei.eqc (by decide +kernel))
        obtain ⟨p1, p2, p3, p4, p5⟩ := mergF_ok hO q
        have k0 : ∀ k, k < 4 → rd t1 121 k = rd t 121 k := fun k hk => hKM.1.rd (FKm_low k hk)
        have en : (rd t1 121 0).toNat = eN (EE lws t) := by rw [k0 0 (by omega)]; omega
        have ev : (rd t1 121 1).toNat = eV (EE lws t) := by rw [k0 1 (by omega)]; rfl
        have gc := stepC (s' := s') (t' := t2) (F := mergF (mc t 121) (ix w) (ix u)) gk (fa.mo (by decide)) hc (hF3.ei.mo FMkSm) hc3 (core_ok (lws := lws) (c := mc t 121) (by rw [k0 0 (by omega)]; exact g.ws) (by rw [eK]; exact p1) (by rw [eK]; exact hT) (fun k hk => p2 k (by omega)) (by rw [en]; exact p4)) (fun k hk => by
          rw [mcK]
          rw [en, ev] at hk
          exact p3 k hk) (by rw [mcK]; exact p2 42 (by omega))
        refine h1 q t2 r ?_ (gc.le (by omega)) ((hKM.1.hi (by decide)).tr (hF3.hi (by decide)))
        rw [hr, hc3, p5]
        omega
    · simp only [pI, pL, pR, pV, i10, ↓reduceIte, eM_merge_13, eM_merge_21]
      exact h0 (fun q => y q.2.2)
  · simp only [pI, pL, pR, pV, i10, ↓reduceIte, eM_merge_5, eM_merge_21]
    exact h0 (fun q => z q.2.1)
theorem sM_wayP {d : Nat} {Φ : Po} {x1 x2 x3 : Int32} {t : Sg} (hb : 0 ≤ rd t 121 1 ∧ rd t 121 1 ≤ 6) (h0 : ¬ CanY (rd t 121 1) x1 x2 x3 → Φ (some (.int 0)) t) (h1 : CanY (rd t 121 1) x1 x2 x3 → Φ (some (.int 1)) (wayM t x1 x2 x3)) : wp true (d + 3) nM_way [.ref 120, .int x1, .int x2, .int x3] t Φ := by
  have l99 : (99 : Int32).toInt = 99 := rfl
  unfold CanY wayM at *
  have no : ¬ ((0 ≤ x1.toInt ∧ x1.toInt < rd t 121 1) ∧ (0 ≤ x2.toInt ∧ x2.toInt < rd t 121 1) ∧ x1.toInt ≠ x2.toInt ∧ (0 ≤ x3.toInt ∧ x3.toInt ≤ 99)) → bM_way_31 true NOB (wp true (d + 2)) Φ (kM_way (d + 2) Φ) [.ref 120, .int x1, .int x2, .int x3] [] t := fun q => by
    simp only [pI, pL, pR, pV, i10, ↓reduceIte, eM_way_31]
    exact h0 q
  apply wM_way
  simp only [pI, pL, pR, pV, i10, ↓reduceIte, eM_way_0]
  refine sM_isVillage hb (fun q1 => ?_) (fun q1 => ?_)
  rotate_left
  · simp only [pI, pL, pR, pV, i10, ↓reduceIte, eM_way_5]
    exact no (fun z => q1 z.1)
  simp only [pI, pL, pR, pV, i10, ↓reduceIte, eM_way_5]
  try rw [if_neg (by decide)]
  refine sM_isVillage hb (fun q2 => ?_) (fun q2 => ?_)
  rotate_left
  · simp only [pI, pL, pR, pV, i10, ↓reduceIte, eM_way_13]
    exact no (fun z => q2 z.2.1)
  simp only [pI, pL, pR, pV, i10, ↓reduceIte, eM_way_13]
  try rw [if_neg (by decide)]
  simp only [ieq]
  split
  next q3 => exact no (fun z => z.2.2.1 q3)
  next q3 =>
    refine sM_isIn (fun q4 => ?_) (fun q4 => ?_)
    · rw [tl0, l99] at q4
      have h1 := h1 ⟨q1, q2, q3, q4⟩
      simp only [pI, pL, pR, pV, i10, ↓reduceIte, eM_way_28]
      try rw [if_neg (by decide)]
      simp only [pI, pL, pR, pV, i10, ↓reduceIte, eM_way_33]
      have hx1 := ix_to q1.1
      have hx2 := ix_to q2.1
      have l6 : (6 : Int32).toInt = 6 := rfl
      have l84 : (84 : Int32).toInt = 84 := rfl
      have z1 : (6 * x1).toInt = 6 * ix x1 := by rw [tX (by rw [l6]; omega), l6]; omega
      have z2 : (6 * x2).toInt = 6 * ix x2 := by rw [tX (by rw [l6]; omega), l6]; omega
      have v0 : (84 + 6 * x1).toInt = 84 + 6 * ix x1 := by rw [tP (by omega), z1, l84]
      have w0 : (84 + 6 * x2).toInt = 84 + 6 * ix x2 := by rw [tP (by omega), z2, l84]
      have v1 : (84 + 6 * x1 + x2).toInt = (84 + (6 * ix x1 + ix x2) : Nat) := by rw [tP (by omega), v0]; omega
      have v2 : (84 + 6 * x2 + x1).toInt = (84 + (6 * ix x2 + ix x1) : Nat) := by rw [tP (by omega), w0]; omega
      have j1 : ix (84 + 6 * x1 + x2) = 84 + (6 * ix x1 + ix x2) := ix_of v1
      have j2 : ix (84 + 6 * x2 + x1) = 84 + (6 * ix x2 + ix x1) := ix_of v2
      rw [j1, j2]
      exact ⟨⟨by omega, by omega⟩, ⟨by omega, by omega⟩, h1⟩
    · rw [tl0, l99] at q4
      simp only [pI, pL, pR, pV, i10, ↓reduceIte, eM_way_28]
      try rw [if_pos rfl]
      exact no (fun z => q4 z.2.2.2)
