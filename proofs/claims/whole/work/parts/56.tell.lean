theorem p_merge (w t : Int32) : PairI Rel nX_merge nM_merge [.int w, .int t] := by
  intro σ hR Φ h
  obtain ⟨lws, hR⟩ := hR
  have hO := hR.ok
  have hT := hR.tk
  have hE := hR.ce
  have hc := hR.rc
  have g9 := hR.1.2.2.2.2.2.2.2.2
  have s1 : rd σ 1 3 = rd σ 121 4 := g9.1
  have hn := hO.1
  obtain ⟨-, -, e0, e1, b0, b1⟩ := hR.n
  apply wX_merge
  simp only [pI, pL, pR, pV, i10, ↓reduceIte, eX_merge_0]
  apply wD_mergeByHand
  simp only [pI, pL, pR, pV, i10, ↓reduceIte, eD_mergeByHand_0]
  refine sD_canMerge hO hE hc (fun q => ?_) (fun q => ?_)
  · simp only [pI, pL, pR, pV, i10, ↓reduceIte, eD_mergeByHand_6, eD_mergeByHand_13]
    refine sW_keepStep g9.2.2.1 (by rw [s1]; exact g9.2.1) (fun σ1 hK => ?_)
    simp only [pI, pL, pR, pV, i10, ↓reduceIte, eD_mergeByHand_20]
    obtain ⟨r1, r2, r3⟩ := keepC_rc hK
    refine sD_mergeNow hO (r1.trans hc) q (fun σ2 hF2 hc2 => ?_)
    simp only [pI, pL, pR, pV, i10, ↓reduceIte, eD_mergeByHand_26]
    have qt := q.2.2.1
    have qw := q.2.1.1
    have eo : ix (0 + t) = ix t := by rw [ixk (n := 0) rfl (by omega)]; omega
    rw [eo]
    refine ⟨inb_k (n := 0) rfl (by omega) (by omega), ?_⟩
    simp only [pI, pL, pR, pV, i10, ↓reduceIte, eX_merge_9]
    have ht6 : ix t < 6 := by unfold ix; omega
    obtain ⟨p1, p2, p3, p4, p5⟩ := mergF_ok hO q
    have go : (gI σ2 2 (ix t)).toInt = mergF (mc σ 121) (ix w) (ix t) (ix t) := by rw [← hc2]; exact (rc_at (by omega)).symm
    have hF2x : Fr FX σ1 σ2 := hF2.mo (by decide)
    have hFx : Fr FX σ σ2 := (FXk hK.1).tr hF2x
    refine h _ σ2 (hFx.sm (by decide)) (fun Ψ hΨ => ?_)
    have mdl : ∀ a k, 120 ≤ a → rd σ2 a k = rd σ a k := fun a k ha => hFx.rd (not_inS (fun e he q => by have := FX_no e he; omega))
    have emc : mc σ2 121 = mc σ 121 := by unfold mc; funext k; split <;> first | rw [mdl _ _ (by omega)] | rfl
    have eE : EE lws σ2 = EE lws σ := by unfold EE; simp only [mdl _ _ (by omega : 120 ≤ 121)]
    have g0 := RD_start (lws := lws) (σ := σ) (τ := σ2) hR (fun a k h1 _ => mdl a k h1)
    have n0 : rd σ2 121 0 = eN (EE lws σ) := (mdl _ _ (by omega)).trans e0
    apply wM_merge
    simp only [pI, pL, pR, pV, i10, ↓reduceIte, eM_merge_0]
    refine sM_isHere hO n0 emc (fun _ => ?_) (fun z => absurd q.2.1 z)
    simp only [pI, pL, pR, pV, i10, ↓reduceIte, eM_merge_5]
    refine sM_isHere hO n0 emc (fun _ => ?_) (fun z => absurd q.2.2 z)
    simp only [pI, pL, pR, pV, i10, ↓reduceIte, eM_merge_13]
    rw [if_neg q.1]
    simp only [pI, pL, pR, pV, i10, ↓reduceIte, eM_merge_25]
    refine sM_keep (by rw [mdl _ _ (by omega)]; exact g9.2.1) (fun t1 hKM => ?_)
    simp only [pI, pL, pR, pV, i10, ↓reduceIte, eM_merge_29]
    have mcK : mc t1 121 = mc σ 121 := (mc_ei hKM.1.ei (by decide)).trans emc
    refine sM_mergeNow hO mcK q (fun t2 hF3 hc3 => ?_)
    simp only [pI, pL, pR, pV, i10, ↓reduceIte, eM_merge_35]
    refine sM_getO (by omega) (fun r hr => ?_)
    simp only [pI, pL, pR, pV, i10, ↓reduceIte, eM_merge_41]
    have er : r = gI σ2 2 (ix t) := eqv (by rw [hr, hc3, go])
    rw [er]
    have gk := stepK (by omega) g0 hK.i hKM.i
    have eK : EE lws t1 = EE lws σ := (EE_of (hKM.1.ei.eqc (by decide +kernel))).trans eE
    have k0 : ∀ k, k < 4 → rd t1 121 k = rd σ 121 k := fun k hk => (hKM.1.rd (FKm_low k hk)).trans (mdl _ _ (by omega))
    have en : (rd t1 121 0).toNat = eN (EE lws σ) := by rw [k0 0 (by omega)]; omega
    have ev : (rd t1 121 1).toNat = eV (EE lws σ) := by rw [k0 1 (by omega)]; omega
    have gc := stepC (s' := σ2) (t' := t2) (F := mergF (mc σ 121) (ix w) (ix t)) gk (hF2.ei.mo (by decide)) hc2 (hF3.ei.mo FMkSm) hc3 (core_ok (lws := lws) (c := mc σ 121) (by rw [k0 0 (by omega)]; exact hR.1.2.2.2.2.2.2.1.2.1.2.2) (by rw [eK]; exact p1) (by rw [eK]; exact hT) (fun k hk => p2 k (by omega)) (by rw [en]; exact p4)) (fun k hk => by
      rw [mcK]
      rw [en, ev] at hk
      exact p3 k hk) (by rw [mcK]; exact p2 42 (by omega))
    have hFt : Fr (FKm ++ FMk) σ2 t2 := (hKM.1.mo (fun e he => List.mem_append_left _ he)).tr (hF3.mo (fun e he => List.mem_append_right _ he))
    refine hΨ t2 (hFt.sm (by decide)) ⟨lws, RD_end (by omega) gc (fun a k ha => hFt.rd (not_inS (fun e he q => by
      have : ∀ e, e ∈ FKm ++ FMk → 120 ≤ e.1 := by decide
      have := this e he
      omega)))⟩
  · simp only [pI, pL, pR, pV, i10, ↓reduceIte, eD_mergeByHand_6]
    simp only [pI, pL, pR, pV, i10, ↓reduceIte, eX_merge_9]
    refine h _ σ ⟨fun _ => rfl, rfl⟩ (fun Ψ hΨ => ?_)
    have fin := hΨ σ ⟨fun _ => rfl, rfl⟩ ⟨lws, hR⟩
    apply wM_merge
    simp only [pI, pL, pR, pV, i10, ↓reduceIte, eM_merge_0]
    refine sM_isHere hO e0 rfl (fun z => ?_) (fun z => ?_)
    · simp only [pI, pL, pR, pV, i10, ↓reduceIte, eM_merge_5]
      refine sM_isHere hO e0 rfl (fun y => ?_) (fun y => ?_)
      · simp only [pI, pL, pR, pV, i10, ↓reduceIte, eM_merge_13, eM_merge_21]
        rw [if_pos (Classical.byContradiction (fun x => q ⟨x, z, y⟩))]
        exact fin
      · simp only [pI, pL, pR, pV, i10, ↓reduceIte, eM_merge_13, eM_merge_21]
        exact fin
    · simp only [pI, pL, pR, pV, i10, ↓reduceIte, eM_merge_5, eM_merge_21]
      exact fin
/-! SIMPLE TELLINGS -/
/-- both stores hold: one telling in each -/
theorem RD_one {lws : Lws} {σ σ2 : Sg} {S : Ls} (g : R lws σ) (hS : Ei S σ σ2) (h2 : dsj (fA 40 122) S = true) (h3 : dsj fT S = true) (h4 : dsj fF S = true) (hA : RA 0 0 121 σ2) : R lws σ2 := ⟨hA, RA.of (hS.eqc h2) g.2.1, RT.of (hS.eqc h3) g.2.2.1, RF.of (hS.eqc h4) g.2.2.2⟩
theorem p_sail (f : Int32) : PairI Rel nX_sail nM_sail [.int f] := by
  intro σ hR Φ h
  obtain ⟨lws, hR⟩ := hR
  obtain ⟨⟨g1, g2, g3, g4, g5, g6, g7, g8, g9⟩, gI', gT, gF⟩ := hR
  have hR : R lws σ := ⟨⟨g1, g2, g3, g4, g5, g6, g7, g8, g9⟩, gI', gT, gF⟩
  obtain ⟨a1, a2, a3, a4⟩ := g5
  have a1 : rd σ 1 14 = rd σ 121 6 := a1
  have a3 : ∀ k, k < 5 → rd σ 39 k = rd σ 121 (136 + k) := a3
  have cN : (f = -1) = (f.toInt = -1) := by rw [ieq]; rfl
  have SS : Ls := [(1, 14, 15), (39, 0, 5), (121, 6, 7), (121, 136, 141)]
  have put : ∀ σ2 : Sg, Ei [(1, 14, 15), (39, 0, 5), (121, 6, 7), (121, 136, 141)] σ σ2 → G5 0 121 σ2 → R lws σ2 := fun σ2 hS hg => RD_one hR hS (by decide +kernel) (by decide +kernel) (by decide +kernel) ⟨G1.of (hS.eqc (by decide +kernel)) g1, G2.of (hS.eqc (by decide +kernel)) g2, G3.of (hS.eqc (by decide +kernel)) g3, G4.of (hS.eqc (by decide +kernel)) g4, hg, G6.of (hS.eqc (by decide +kernel)) g6, G7.of (hS.eqc (by decide +kernel)) g7, G8.of (hS.eqc (by decide +kernel)) g8, G9.of (hS.eqc (by decide +kernel)) g9⟩
  apply wX_sail
  simp only [pI, pL, pR, pV, i10, ↓reduceIte, eX_sail_0]
  simp only [cN]
  split
  next z =>
    refine h 0 _ ((Fr.sI (S := [(1, 14, 15)]) (by decide)).sm (by decide)) (fun Ψ hΨ => ?_)
    apply wM_sail
    simp only [pI, pL, pR, pV, i10, ↓reduceIte, eM_sail_0]
    simp only [cN]
    rw [if_pos z]
    refine ⟨⟨by decide, by decide⟩, hΨ _ ((Fr.sI (S := [(121, 6, 7)]) (by decide)).sm (by decide)) ⟨lws, put _ ((Fr.sI (by decide)).tr (Fr.sI (by decide))).ei ⟨?_, ?_, fun k hk => ?_, fun k hk => ?_⟩⟩⟩
    · show rd _ 1 14 = _
      rw [rdne (by omega), rdeq, show ix 6 = 6 from rfl, rdeq]
    · rw [show ix 6 = 6 from rfl, rdeq]; decide
    · show rd _ 39 k = _
      rw [rdne (by omega), rdne (by omega), show ix 6 = 6 from rfl, rdne2 (by omega), rdne (by omega)]
      exact a3 k hk
    · rw [show ix 6 = 6 from rfl, rdeq] at hk
      have : (0 : Int32).toInt = 0 := rfl
      omega
  next z =>
    have no : ¬ ((0 ≤ f.toInt ∧ f.toInt ≤ 9) ∧ rd σ 121 6 ≠ 5) → Φ (some (.int (-2))) σ := fun q => by
      refine h _ σ ⟨fun _ => rfl, rfl⟩ (fun Ψ hΨ => ?_)
      have fin := hΨ σ ⟨fun _ => rfl, rfl⟩ ⟨lws, hR⟩
      apply wM_sail
      simp only [pI, pL, pR, pV, i10, ↓reduceIte, eM_sail_0]
      simp only [cN]
      rw [if_neg z]
      simp only [pI, pL, pR, pV, i10, ↓reduceIte, eM_sail_15]
      refine sM_isIn (fun y => ?_) (fun y => ?_)
      · simp only [pI, pL, pR, pV, i10, ↓reduceIte, eM_sail_22, eM_sail_36]
        rw [tl0, show (9 : Int32).toInt = 9 from rfl] at y
        have c5 : (gI σ 121 (ix 6) = 5) = (rd σ 121 6 = 5) := by rw [ieq]; rfl
        simp only [c5]
        rw [if_pos (Classical.byContradiction (fun x => q ⟨y, x⟩))]
        exact ⟨⟨by decide, by decide⟩, fin⟩
      · simp only [pI, pL, pR, pV, i10, ↓reduceIte, eM_sail_22, eM_sail_36]
        exact fin
    simp only [pI, pL, pR, pV, i10, ↓reduceIte, eX_sail_15, eX_sail_36]
    simp only [ilt, tl0, show (9 : Int32).toInt = 9 from rfl]
    split
    next y => exact no (fun x => by omega)
    next y =>
      split
      next y2 => exact no (fun x => by omega)
      next y2 =>
        have c5 : (gI σ 1 14).toInt = (5 : Int32).toInt ↔ rd σ 121 6 = 5 := by rw [show (gI σ 1 14).toInt = rd σ 121 6 from a1]; rfl
        split
        next x => exact no (fun w => by
          have : (gI σ 1 14).toInt = (5 : Int32).toInt := by first | exact x | (rw [x])
          exact w.2 (c5.mp this))
        next x =>
          have hx : rd σ 121 6 ≠ 5 := fun e => x (by first | exact c5.mpr e | exact eqv (c5.mpr e))
          simp only [pI, pL, pR, pV, i10, ↓reduceIte, eX_sail_39]
          have e14 : (gI σ 1 14).toInt = rd σ 121 6 := a1
          have i14 : ix (gI σ 1 14) = (rd σ 121 6).toNat := by unfold ix; rw [e14]
          generalize hq : (rd σ 121 6).toNat = q at i14
          have hq5 : q < 5 := by omega
          have hqi : (q : Int) = rd σ 121 6 := by omega
          rw [i14, gIeq, gIne (by omega)]
          refine ⟨⟨by omega, by omega⟩, ?_⟩
          have fX : Fr [(1, 14, 15), (39, 0, 5), (121, 6, 7), (121, 136, 141)] σ (sI (sI σ 39 q f) 1 14 (gI σ 1 14 + 1)) := (Fr.sI (inS_r (lo := 0) (hi := 5) (by simp) (by omega))).tr (Fr.sI (by decide))
          refine h _ _ (fX.sm (by decide)) (fun Ψ hΨ => ?_)
          apply wM_sail
          simp only [pI, pL, pR, pV, i10, ↓reduceIte, eM_sail_0]
          simp only [cN]
          rw [if_neg z]
          simp only [pI, pL, pR, pV, i10, ↓reduceIte, eM_sail_15]
          refine sM_isIn (fun _ => ?_) (fun w => absurd ⟨by rw [tl0]; omega, by rw [show (9 : Int32).toInt = 9 from rfl]; omega⟩ w)
          simp only [pI, pL, pR, pV, i10, ↓reduceIte, eM_sail_22]
          have m6 : gI (sI (sI σ 39 q f) 1 14 (gI σ 1 14 + 1)) 121 6 = gI σ 121 6 := by rw [gIne (by omega), gIne (by omega)]
          have e6 : (gI σ 121 6).toInt = rd σ 121 6 := rfl
          have c5' : (gI σ 121 6 = 5) = (rd σ 121 6 = 5) := by rw [ieq]; rfl
          rw [show ix 6 = 6 from rfl, m6]
          simp only [c5']
          rw [if_neg hx]
          refine ⟨⟨by decide, by decide⟩, ?_⟩
          simp only [pI, pL, pR, pV, i10, ↓reduceIte, eM_sail_39]
          have i136 : (136 + gI σ 121 6).toInt = 136 + rd σ 121 6 := by rw [tk (n := 136) rfl (by rw [e6]; omega), e6]; rfl
          have i136x : ix (136 + gI σ 121 6) = 136 + q := ix_of (by omega)
          rw [show ix 6 = 6 from rfl, m6, i136x, gIeq, gIne2 (by omega), m6]
          refine ⟨⟨by decide, by decide⟩, ⟨by omega, by omega⟩, ⟨by decide, by decide⟩, ⟨by decide, by decide⟩, ⟨by decide, by decide⟩, ?_⟩
          have ev : gI σ 121 6 + 1 = gI σ 1 14 + 1 := by
            rw [show gI σ 121 6 = gI σ 1 14 from eqv (by rw [e14, e6])]
          have fM : Fr [(1, 14, 15), (39, 0, 5), (121, 6, 7), (121, 136, 141)] (sI (sI σ 39 q f) 1 14 (gI σ 1 14 + 1)) (sI (sI (sI (sI σ 39 q f) 1 14 (gI σ 1 14 + 1)) 121 (136 + q) f) 121 6 (gI σ 121 6 + 1)) := (Fr.sI (inS_r (lo := 136) (hi := 141) (by simp) (by omega))).tr (Fr.sI (by decide))
          have n1 : (gI σ 121 6 + 1).toInt = rd σ 121 6 + 1 := by rw [t1 (by rw [e6]; omega), e6]
          have hg : G5 0 121 (sI (sI (sI (sI σ 39 q f) 1 14 (gI σ 1 14 + 1)) 121 (136 + q) f) 121 6 (gI σ 121 6 + 1)) := by
            refine ⟨?_, ?_, fun k hk => ?_, fun k hk => ?_⟩
            · show rd _ 1 14 = _
              rw [rdne (by omega), rdne (by omega), rdeq, rdeq, ev]
            · rw [rdeq, n1]; omega
            · have hl : rd (sI (sI (sI (sI σ 39 q f) 1 14 (gI σ 1 14 + 1)) 121 (136 + q) f) 121 6 (gI σ 121 6 + 1)) 39 k = rd (sI σ 39 q f) 39 k := by rw [rdne (by omega), rdne (by omega), rdne (by omega)]
              have hr : rd (sI (sI (sI (sI σ 39 q f) 1 14 (gI σ 1 14 + 1)) 121 (136 + q) f) 121 6 (gI σ 121 6 + 1)) 121 (136 + k) = rd (sI (sI (sI σ 39 q f) 1 14 (gI σ 1 14 + 1)) 121 (136 + q) f) 121 (136 + k) := rdne2 (by omega)
              refine hl.trans (Eq.trans ?_ hr.symm)
              by_cases e : k = q
              · rw [e, rdeq, rdeq]
              · rw [rdne2 e]
                refine (a3 k hk).trans (Eq.symm ?_)
                rw [rdne2 (by omega), rdne (by omega), rdne (by omega)]
            · rw [rdeq, n1] at hk
              rw [rdne2 (by omega)]
              by_cases e : k = q
              · subst e; rw [rdeq]; omega
              · rw [rdne2 (by omega), rdne (by omega), rdne (by omega)]; exact a4 k (by omega)
          have fin := hΨ _ (fM.sm (by decide)) ⟨lws, put _ (fX.tr fM).ei hg⟩
          rw [ev] at fin ⊢
          exact fin
