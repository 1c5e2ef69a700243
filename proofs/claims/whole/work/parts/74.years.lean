/-! YEARS: the reference -/
theorem core_ok2 {σ : Sg} {lws : Lws} {c F : Co} (hW : WsOk (rd σ 121 0).toNat c) (hO : Ok (EE lws σ) F) (hT : TkOk (EE lws σ) c) (h36 : ∀ k, 36 ≤ k → k ≤ 42 → F k = c k) (hw : wsum F (rd σ 121 0).toNat ≤ wsum c (rd σ 121 0).toNat) : COk σ 121 F := by
  refine ⟨hO, fun v hv => ?_, Int.le_trans hw hW⟩
  have h6 := hO.2.1
  have hv' : v < eV (EE lws σ) := hv
  rw [h36 _ (by omega) (by omega), h36 42 (by omega) (by omega)]
  exact hT v hv
theorem RD.ws {D : Int} {lws : Lws} {s t : Sg} (g : RD D lws (mrg s t)) : WsOk (rd t 121 0).toNat (mc t 121) := by
  have h : WsOk (rd (mrg s t) 121 0).toNat (mc (mrg s t) 121) := g.1.2.2.2.2.2.2.1.2.1.2.2
  rw [mrg_m (by omega), mrg_mc (by omega)] at h
  exact h
theorem sM_happens {d : Nat} {Φ : Po} {E : En} {c : Co} {σ : Sg} {x : Int32} (hO : Ok E c) (hE : ME σ E) (hc : mc σ 121 = c) (hT : TkOk E c) (hf : rd σ 120 24 = 1 ∧ 0 ≤ rd σ 121 10 ∧ rd σ 121 10 ≤ 20000) (hx : 0 ≤ x.toInt) (h0 : ¬ (2 < x.toInt % 5 ∧ c 42 < 9999) → ∀ σ' : Sg, Fr FMk σ σ' → mc σ' 121 = hapF E c x.toInt → Φ none σ') (h1 : 2 < x.toInt % 5 ∧ c 42 < 9999 → ∀ σ' : Sg, Fr FM σ σ' → PMi E σ σ' → Φ none σ') : wp true (d + 10) nM_happens [.ref 120, .int x] σ Φ := by
  apply wM_happens
  simp only [pI, pL, pR, pV, i10, ↓reduceIte, eM_happens_0]
  have e0 : (gI σ 121 (ix 0)).toInt = eN E := hE.1
  have e1 : (gI σ 121 (ix 1)).toInt = eV E := hE.2.1
  have e8 : (gI σ 121 (ix 8)).toInt = c 42 := by rw [← hc]; rfl
  have c5 : (x % 5).toInt = x.toInt % 5 := by rw [tR hx]; rfl
  have k2 : (2 : Int32).toInt = 2 := rfl
  have k9 : (9999 : Int32).toInt = 9999 := rfl
  have hd := hO.2.2.1
  refine ⟨by decide, ?_⟩
  simp only [ile, c5, k2, e8, k9]
  split
  next z =>
    simp only [pI, pL, pR, pV, i10, ↓reduceIte, eM_happens_27]
    have c0 : (gI σ 121 (ix 0) = 0) = (eN E = 0) := by
      simp only [ieq, e0, tl0]
      exact propext (by omega)
    have c1 : (gI σ 121 (ix 1) = 0) = (eV E = 0) := by
      simp only [ieq, e1, tl0]
      exact propext (by omega)
    simp only [c0]
    refine ⟨⟨by decide, by decide⟩, ?_⟩
    split
    next y =>
      refine h0 (by omega) σ Fr.rf ?_
      rw [hc]
      by_cases q : x.toInt % 5 < 2
      · rw [hap_np q (by omega)]
      · rw [hap_nm (by omega) (by omega)]
    next y =>
      simp only [pI, pL, pR, pV, i10, ↓reduceIte, eM_happens_37]
      have c52 : (x % 5 = 2) = (x.toInt % 5 = 2) := by rw [ieq, c5, k2]
      have c7 : (x % 7 = 0) = (x.toInt % 7 = 0) := by rw [ieq, tR hx]; rfl
      simp only [c52]
      split
      next u =>
        have d1 : (x % gI σ 121 (ix 0)).toInt = x.toInt % eN E := by rw [tR hx, e0]
        have d0 : (x / 3).toInt = x.toInt / 3 := by rw [tD hx (by decide)]; rfl
        have d2 : ((x / 3) % gI σ 121 (ix 0)).toInt = x.toInt / 3 % eN E := by rw [tR (by rw [d0]; omega), d0, e0]
        refine ⟨⟨by decide, by decide⟩, ne0 (by omega), by decide, ⟨by decide, by decide⟩, ne0 (by omega), by decide, ?_⟩
        simp only [c7]
        split
        next t7 =>
          obtain ⟨m1, m2⟩ := hap_mrg (E := E) (c := c) u t7 hx (by omega) d1 d2
          generalize x % gI σ 121 (ix 0) = v at *
          generalize x / 3 % gI σ 121 (ix 0) = w at *
          have no : ¬ CanM E c v w → bM_happens_100 true NOB (wp true (d + 9)) Φ (kM_happens (d + 9) Φ) [.ref 120, .int x, .int (x % 5), .int v, .int w] [] σ := fun q => by
            simp only [pI, pL, pR, pV, i10, ↓reduceIte, eM_happens_100]
            exact h0 (by omega) σ Fr.rf (by rw [m2 q]; exact hc)
          split
          next s => exact no (fun q => q.1 s)
          next s =>
            refine sM_isHere hO hE.1 hc (fun q => ?_) (fun q => ?_)
            · simp only [pI, pL, pR, pV, i10, ↓reduceIte, eM_happens_81]
              refine sM_isHere hO hE.1 hc (fun q2 => ?_) (fun q2 => ?_)
              · simp only [pI, pL, pR, pV, i10, ↓reduceIte, eM_happens_90]
                have qq : CanM E c v w := ⟨s, q, q2⟩
                refine sM_mergeNow hO hc qq (fun σ' hF hc' => ?_)
                simp only [pI, pL, pR, pV, i10, ↓reduceIte, eM_happens_100]
                exact h0 (by omega) σ' hF (by rw [m1 qq]; exact hc')
              · simp only [pI, pL, pR, pV, i10, ↓reduceIte, eM_happens_90]
                exact no (fun q => q2 q.2.2)
            · simp only [pI, pL, pR, pV, i10, ↓reduceIte, eM_happens_81]
              exact no (fun w => q w.2.1)
        next t7 =>
          simp only [pI, pL, pR, pV, i10, ↓reduceIte, eM_happens_100]
          exact h0 (by omega) σ Fr.rf (by rw [hc, hap_nm u (by omega)])
      next u =>
        simp only [pI, pL, pR, pV, i10, ↓reduceIte, eM_happens_101]
        simp only [c1]
        refine ⟨⟨by decide, by decide⟩, ?_⟩
        split
        next y2 => exact h0 (by omega) σ Fr.rf (by rw [hc, hap_np (by omega) (by omega)])
        next y2 =>
          simp only [pI, pL, pR, pV, i10, ↓reduceIte, eM_happens_111]
          have d1 : (x % gI σ 121 (ix 1)).toInt = x.toInt % eV E := by rw [tR hx, e1]
          have d0 : (x / 5).toInt = x.toInt / 5 := by rw [tD hx (by decide)]; rfl
          have d2 : ((x / 5) % gI σ 121 (ix 0)).toInt = x.toInt / 5 % eN E := by rw [tR (by rw [d0]; omega), d0, e0]
          have d20 : (x % 20).toInt = x.toInt % 20 := by rw [tR hx]; rfl
          have d3 : (1 + x % 20).toInt = 1 + x.toInt % 20 := by rw [tP (by rw [d20, tl1]; omega), d20, tl1]
          refine ⟨⟨by decide, by decide⟩, ne0 (by omega), by decide, ⟨by decide, by decide⟩, ne0 (by omega), by decide, ?_⟩
          obtain ⟨m1, m2⟩ := hap_pay (E := E) (c := c) (by omega) hx (by omega) (by omega) d1 d2 d3
          have b1 := Int.emod_nonneg x.toInt (by omega : (eV E : Int) ≠ 0)
          have b2 := Int.emod_lt_of_pos x.toInt (by omega : (0 : Int) < eV E)
          refine sM_canPay hO hE.1 hc (by rw [d1]; exact ⟨b1, b2⟩) (by rw [d3]; omega) (fun q => ?_) (fun q => ?_)
          · simp only [pI, pL, pR, pV, i10, ↓reduceIte, eM_happens_145]
            refine ⟨by decide, ?_⟩
            refine sM_payNow hO hc q (fun σ' hF hc' => ?_)
            simp only [pI, pL, pR, pV, i10, ↓reduceIte, eM_happens_161]
            exact h0 (by omega) σ' hF (by rw [m1 q]; exact hc')
          · simp only [pI, pL, pR, pV, i10, ↓reduceIte, eM_happens_145, eM_happens_161]
            exact h0 (by omega) σ Fr.rf (by rw [m2 q]; exact hc)
  next z =>
    refine ⟨⟨by decide, by decide⟩, ?_⟩
    split
    next y =>
      simp only [pI, pL, pR, pV, i10, ↓reduceIte, eM_happens_26]
      exact h0 (by omega) σ Fr.rf (by rw [hc, hap_nd (by omega)])
    next y =>
      refine sM_pass hO hE hc hT (by omega) (Or.inr hf) (fun σ' hF hc' _ _ _ _ hR => ?_)
      simp only [pI, pL, pR, pV, i10, ↓reduceIte, eM_happens_26]
      exact h1 (by omega) σ' hF ⟨hF.ei, by rw [hc]; exact hc', by rw [hc]; exact hR hf.1⟩
abbrev FY : Ls := FKm ++ (FM ++ FMk)
theorem FMcEi {σ σ' : Sg} (h : Fr FMc σ σ') : Ei SCm σ σ' := fun a k q => h.rd (not_inS (fun e he z => by
  have key : ∀ e, e ∈ FMc → e ∈ SCm ∨ e = (120, 25, 28) := by decide
  rcases key e he with m | m
  · obtain ⟨x, lo, hi⟩ := e
    obtain ⟨z1, z2⟩ := z
    have z1 : x = a := z1
    subst z1
    rw [inS_r m z2] at q
    cases q
  · subst m
    obtain ⟨z1, z2, z3⟩ := z
    have z1 : 120 = a := z1
    have z2 : 25 ≤ k := z2
    have z3 : k < 28 := z3
    subst z1
    rw [inS_r (a := 120) (lo := 25) (hi := 40) (S := SCm) (by decide) ⟨z2, by omega⟩] at q
    cases q))
theorem FYm : (∀ e, e ∈ FMk → e ∈ FY) ∧ (∀ e, e ∈ FM → e ∈ FY) ∧ (∀ e, e ∈ FMc → e ∈ FY) ∧ (∀ e, e ∈ FKm → e ∈ FY) := by decide
theorem un43 {n v k : Nat} (hn : n ≤ 6 ∧ v ≤ 6) (h : Untold n v k) : k ≠ 43 ∧ k < 42 := by
  unfold Untold at h
  omega
theorem wsum_x {c : Co} {x : Int} {n : Nat} (hn : n ≤ 6) : wsum (upc c 43 x) n = wsum c n := wsum_cg _ (fun j hj => ⟨upc_ne (by omega), upc_ne (by omega)⟩)
theorem lM_years {d : Nat} {Φ : Po} {lws : Lws} {E : En} {N : Nat} {x1 x2 : Int32} {sN t0 : Sg} (hN : x2.toInt = N) (hN60 : N ≤ 40)
    (h : ∀ (t : Sg) (D : Int), 0 ≤ D → RD D lws (mrg sN t) → Fr FY t0 t → Φ (some (.int (gI t 121 (ix 8)))) t) :
    ∀ (n i : Nat) (s t : Sg) (x : Int32) (v4 : Value) (D : Int), i + n = N → x.toInt = i → Fr FY t0 t → YrsC E n s sN → (n : Int) ≤ D → RD D lws (mrg s t) → EE lws t = E → bM_years_42 true NOB (wp true (d + 11)) Φ (kM_years (d + 11) Φ) [.ref 120, .int x1, .int x2, .int x, v4] [] t := by
  intro n
  induction n with
  | zero =>
    intro i s t x v4 D hi hx hF hD hD0 g hE
    simp only [pI, pL, pR, pV, i10, ↓reduceIte, eM_years_42, eM_years_72]
    simp only [ile, hN, hx]
    rw [if_pos (by omega)]
    have hD : sN = s := hD
    subst hD
    exact ⟨⟨by decide, by decide⟩, h t D (by omega) g hF⟩
  | succ n ih =>
    intro i s t x v4 D hi hx hF hD hD0 g hE
    simp only [pI, pL, pR, pV, i10, ↓reduceIte, eM_years_42]
    simp only [ile, hN, hx]
    rw [if_neg (by omega)]
    refine ⟨⟨by decide, by decide⟩, ?_⟩
    have hx1 : (x + 1).toInt = ((i + 1 : Nat) : Int) := by rw [t1 (by omega), hx]; omega
    obtain ⟨b, ⟨a, ea, ca, rest⟩, more⟩ := hD
    obtain ⟨k1, k2, k3, k4, k5, k6, k7⟩ := g.core
    rw [hE] at k2 k3 k4
    have hx0 := k2.2.2.2.1
    have hn6 := k2.1
    have hv6 := k2.2.1
    have ew : (rd t 121 0).toNat = eN E := by have := k4.1; omega
    have ev : (rd t 121 1).toNat = eV E := by have := k4.2.1; omega
    refine sM_anew rfl hx0 (fun t1 hF1 hc1 => ?_)
    simp only [pI, pL, pR, pV, i10, ↓reduceIte, eM_years_60]
    rw [k1] at ca rest
    have ex : (gI t 121 (ix 9)).toInt = mc t 121 43 := rfl
    generalize gI t 121 (ix 9) = xv at ex ⊢
    have e1 : EE lws t1 = E := (EE_of (hF1.ei.eqc (by decide +kernel))).trans hE
    have g1 := stepC (s' := a) (t' := t1) (F := upc (mc t 121) 43 (nextX (mc t 121 43))) g ea ca (FMcEi hF1) hc1 (core_ok2 (lws := lws) g.ws (by rw [hE]; exact k2.X (nextX_r _)) (by rw [hE]; exact k3) (fun k h1 h2 => upc_ne (by omega)) (by rw [ew, wsum_x hn6]; exact Int.le_refl _)) (fun k hk => by
      rw [ew, ev] at hk
      exact upc_ne (un43 ⟨hn6, hv6⟩ hk).1) (upc_ne (by decide))
    obtain ⟨j1, j2, j3, j4, j5, j6, j7⟩ := g1.core
    rw [e1] at j2 j3 j4
    have e42 : mc t1 121 42 = mc t 121 42 := by rw [hc1, upc_ne (by decide)]
    have ew1 : (rd t1 121 0).toNat = eN E := by have := j4.1; omega
    have ev1 : (rd t1 121 1).toNat = eV E := by have := j4.2.1; omega
    rw [← hc1] at ca
    have go : ∀ (t2 : Sg) (D' : Int), (n : Int) ≤ D' → RD D' lws (mrg b t2) → Fr FY t1 t2 → EE lws t2 = E → bM_years_66 true NOB (wp true (d + 11)) Φ (kM_years (d + 11) Φ) [.ref 120, .int x1, .int x2, .int x, .int xv] [] t2 := by
      intro t2 D' hD' g2 hF2 e2
      simp only [pI, pL, pR, pV, i10, ↓reduceIte, eM_years_66]
      exact hM_years_42 _ _ _ _ _ (ih (i + 1) b t2 (x + 1) _ D' (by omega) hx1 ((hF.tr (hF1.mo FYm.2.2.1)).tr hF2) more hD' g2 e2)
    refine sM_happens j2 j4 rfl j3 ⟨j5, by omega, by omega⟩ (by rw [ex]; omega) (fun q t2 hF2 hc2 => ?_) (fun q t2 hF2 hp => ?_)
    · rw [ex, e42] at q
      rw [if_neg q] at rest
      obtain ⟨r1, r2, r3⟩ := rest
      rw [ca] at r2 r3
      rw [ex] at hc2
      have e2 : EE lws t2 = E := (EE_of (hF2.ei.eqc (by decide +kernel))).trans e1
      refine go t2 D (by omega) (stepC (s' := b) (t' := t2) (F := hapF E (mc t1 121) (mc t 121 43)) g1 r1 r2 (hF2.ei.mo FMkSm) hc2 (core_ok2 (lws := lws) g1.ws (by rw [e1]; exact r3.1) (by rw [e1]; exact j3) (fun k h1 h2 => r3.2.1 k h1) (by rw [ew1]; exact r3.2.2.2)) (fun k hk => by
        rw [ew1, ev1] at hk
        exact r3.2.2.1 k hk) (r3.2.1 42 (by omega))) (hF2.mo FYm.1) e2
    · rw [ex, e42] at q
      rw [if_pos q] at rest
      have e2 : EE lws t2 = E := (EE_of (hF2.ei.eqc (by decide +kernel))).trans e1
      exact go t2 (D - 1) (by omega) (stepP (by omega) g1 (by rw [e42]; exact q.2) (by rw [e1]; exact rest) (by rw [e1]; exact hp)) (hF2.mo FYm.2.1) e2
theorem p_years (x1 x2 : Int32) : PairI Rel nX_years nM_years [.int x1, .int x2] := by
  intro σ hR Φ h
  obtain ⟨lws, hR⟩ := hR
  have hO := hR.ok
  have hT := hR.tk
  have g9 := hR.1.2.2.2.2.2.2.2.2
  have s1 : rd σ 1 3 = rd σ 121 4 := g9.1
  have k0 : (0 : Int32).toInt = 0 := rfl
  have k9 : (9999 : Int32).toInt = 9999 := rfl
  have k40 : (40 : Int32).toInt = 40 := rfl
  have no : ¬ ((0 ≤ x1.toInt ∧ x1.toInt ≤ 9999) ∧ (1 ≤ x2.toInt ∧ x2.toInt ≤ 40)) → Φ (some (.int (-1))) σ := by
    intro q
    refine h _ σ ⟨fun _ => rfl, rfl⟩ (fun Ψ hΨ => ?_)
    have fin := hΨ σ ⟨fun _ => rfl, rfl⟩ ⟨lws, hR⟩
    apply wM_years
    simp only [pI, pL, pR, pV, i10, ↓reduceIte, eM_years_0]
    refine sM_isIn (fun z => ?_) (fun z => ?_)
    · rw [tl0, k9] at z
      simp only [pI, pL, pR, pV, i10, ↓reduceIte, eM_years_8]
      refine sM_isIn (fun y => ?_) (fun y => ?_)
      · rw [tl1, k40] at y
        exact absurd ⟨z, y⟩ q
      · simp only [pI, pL, pR, pV, i10, ↓reduceIte, eM_years_18, eM_years_21]
        exact fin
    · simp only [pI, pL, pR, pV, i10, ↓reduceIte, eM_years_8, eM_years_21]
      exact fin
  apply wX_years
  simp only [pI, pL, pR, pV, i10, ↓reduceIte, eX_years_0]
  simp only [ilt, ile, k0, k9, tl1, k40]
  split
  next z =>
    simp only [pI, pL, pR, pV, i10, ↓reduceIte, eX_years_22]
    exact no (fun q => by omega)
  next z =>
    split
    next y =>
      simp only [pI, pL, pR, pV, i10, ↓reduceIte, eX_years_22]
      exact no (fun q => by omega)
    next y =>
      split
      next w =>
        simp only [pI, pL, pR, pV, i10, ↓reduceIte, eX_years_22]
        exact no (fun q => by omega)
      next w =>
        split
        next u =>
          have hn40 : 1 ≤ x2.toInt ∧ x2.toInt ≤ 40 := by omega
          have hs : 0 ≤ x1.toInt ∧ x1.toInt ≤ 9999 := by omega
          have hix := ix_to (x := x2) (by omega)
          simp only [pI, pL, pR, pV, i10, ↓reduceIte, eX_years_24]
          apply wD_passYears
          simp only [pI, pL, pR, pV, i10, ↓reduceIte, eD_passYears_0]
          refine sW_keepStep g9.2.2.1 (by rw [s1]; exact g9.2.1) (fun σ1 hK => ?_)
          simp only [pI, pL, pR, pV, i10, ↓reduceIte, eD_passYears_7]
          obtain ⟨r1, r2, r3⟩ := keepC_rc hK
          have hxv : (x1 * 2 + 127).toInt = x1.toInt * 2 + 127 := by
            simp only [ta, tm, Int32.reduceToInt]
            omega
          refine ⟨⟨by decide, by decide⟩, ?_⟩
          rw [show ix 43 = 43 from rfl]
          generalize hvx : x1 * 2 + 127 = vx at hxv ⊢
          have hc2 : rc (sI σ1 2 43 vx) 2 = upc (mc σ 121) 43 vx.toInt := by rw [rc_sI (by omega), r1, hR.rc]
          have hF2 : Fr [(2, 0, 44)] σ1 (sI σ1 2 43 vx) := Fr.sI (by decide)
          have hO2 : Ok (EE lws σ) (upc (mc σ 121) 43 vx.toInt) := hO.X (by omega)
          have hFx : Fr FX σ (sI σ1 2 43 vx) := (FXk hK.1).tr (hF2.mo (by decide))
          have h44 : rd (sI σ1 2 43 vx) 2 44 = rd σ 2 44 := by rw [rdne2 (by omega), r2]
          have hw44 := hR.w44
          refine lD_years (E := EE lws σ) (N := ix x2) (CEx hFx hR.ce) (by omega) (by omega) (fun σ3 hF3 hY => ?_) (ix x2) 0 _ 0 _ (by omega) rfl Fr.rf rfl (by rw [hc2]; exact hO2) (by rw [hc2]; exact tk_x hO hT) (by rw [h44]; omega)
          simp only [pI, pL, pR, pV, i10, ↓reduceIte, eX_years_33]
          refine ⟨⟨by decide, by decide⟩, ?_⟩
          have hFa := hFx.tr hF3
          refine h _ σ3 (hFa.sm (by decide)) (fun Ψ hΨ => ?_)
          have mdl : ∀ a k, 120 ≤ a → rd σ3 a k = rd σ a k := fun a k ha => hFa.rd (not_inS (fun e he q => by have := FX_no e he; omega))
          have emc : mc σ3 121 = mc σ 121 := by unfold mc; funext k; split <;> first | rw [mdl _ _ (by omega)] | rfl
          have eE : EE lws σ3 = EE lws σ := by unfold EE; simp only [mdl _ _ (by omega : 120 ≤ 121)]
          have g0 := RD_start (lws := lws) (σ := σ) (τ := σ3) hR (fun a k h1 _ => mdl a k h1)
          apply wM_years
          simp only [pI, pL, pR, pV, i10, ↓reduceIte, eM_years_0]
          refine sM_isIn (fun _ => ?_) (fun z => absurd ⟨by rw [tl0]; omega, by rw [k9]; omega⟩ z)
          simp only [pI, pL, pR, pV, i10, ↓reduceIte, eM_years_8]
          refine sM_isIn (fun _ => ?_) (fun z => absurd ⟨by rw [tl1]; omega, by rw [k40]; omega⟩ z)
          simp only [pI, pL, pR, pV, i10, ↓reduceIte, eM_years_18, eM_years_23]
          refine sM_keep (by rw [mdl _ _ (by omega)]; exact g9.2.1) (fun t1 hKM => ?_)
          simp only [pI, pL, pR, pV, i10, ↓reduceIte, eM_years_27]
          refine ⟨⟨by decide, by decide⟩, ?_⟩
          rw [show ix 9 = 9 from rfl, hvx]
          have mcK : mc t1 121 = mc σ 121 := (mc_ei hKM.1.ei (by decide)).trans emc
          have gk := stepK (by omega) g0 hK.i hKM.i
          have eK : EE lws t1 = EE lws σ := (EE_of (hKM.1.ei.eqc (by decide +kernel))).trans eE
          have hF9 : Fr FMk t1 (sI t1 121 9 vx) := Fr.sI (by decide)
          have hc3 : mc (sI t1 121 9 vx) 121 = upc (mc σ 121) 43 vx.toInt := by rw [mc_sI (n := 9) (k := 43) (by omega) rfl, mcK]
          obtain ⟨j1, j2, j3, j4, j5, j6, j7⟩ := gk.core
          rw [eK] at j4
          have hn6 := hO.1
          have hv6 := hO.2.1
          have ew1 : (rd t1 121 0).toNat = eN (EE lws σ) := by have := j4.1; omega
          have ev1 : (rd t1 121 1).toNat = eV (EE lws σ) := by have := j4.2.1; omega
          have hws := gk.ws
          rw [mcK] at hws
          have gc := stepC (s' := sI σ1 2 43 vx) (t' := sI t1 121 9 vx) (F := upc (mc σ 121) 43 vx.toInt) gk (hF2.ei.mo (by decide)) hc2 (hF9.ei.mo FMkSm) hc3 (core_ok2 (lws := lws) hws (by rw [eK]; exact hO2) (by rw [eK]; exact hT) (fun k h1 h2 => upc_ne (by omega)) (by rw [ew1, wsum_x hn6]; exact Int.le_refl _)) (fun k hk => by
            rw [ew1, ev1] at hk
            rw [mcK]
            exact upc_ne (un43 ⟨hn6, hv6⟩ hk).1) (by rw [mcK]; exact upc_ne (by decide))
          have eY : EE lws (sI t1 121 9 vx) = EE lws σ := (EE_of (hF9.ei.eqc (by decide +kernel))).trans eK
          refine lM_years (d := 1) (lws := lws) (E := EE lws σ) (N := ix x2) (sN := σ3) (t0 := σ3) (by omega) (by omega) (fun t D hD0 g hF4 => ?_) (ix x2) 0 _ _ 0 _ 40 (by omega) rfl ((hKM.1.mo FYm.2.2.2).tr (hF9.mo FYm.1)) hY (by omega) gc eY
          have ev : gI t 121 (ix 8) = gI σ3 2 (ix 42) := by
            obtain ⟨q1, -⟩ := g.core
            refine eqv ?_
            have a1 : (gI t 121 (ix 8)).toInt = mc t 121 42 := rfl
            have a2 : (gI σ3 2 (ix 42)).toInt = rc σ3 2 42 := rfl
            rw [a1, a2, q1]
          rw [ev]
          refine hΨ t (hF4.sm (by decide)) ⟨lws, RD_end hD0 g (fun a k ha => hF4.rd (not_inS (fun e he q => by
            have : ∀ e, e ∈ FY → 120 ≤ e.1 := by decide
            have := this e he
            omega)))⟩
        next u =>
          simp only [pI, pL, pR, pV, i10, ↓reduceIte, eX_years_22]
          exact no (fun q => by omega)
