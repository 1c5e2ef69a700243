/-! PAYMENTS, MERGING -/
def CanP (E : En) (c : Co) (v w p : Int32) : Prop := (0 ≤ v.toInt ∧ v.toInt < eV E) ∧ ((0 ≤ w.toInt ∧ w.toInt < eN E) ∧ c (24 + ix w) = 0) ∧ (1 ≤ p.toInt ∧ p.toInt ≤ 999) ∧ p.toInt ≤ c (30 + ix v) ∧ -999 ≤ c (ix w) - p.toInt
def payF (c : Co) (v w : Nat) (p : Int) : Co := upc (upc c (30 + v) (c (30 + v) - p)) w (c w - p)
theorem sD_canPay {d : Nat} {Φ : Po} {E : En} {c : Co} {σ : Sg} {v w p : Int32} (hO : Ok E c) (hE : CE σ E) (hc : rc σ 2 = c) (h1 : CanP E c v w p → Φ (some (.int 1)) σ) (h0 : ¬ CanP E c v w p → Φ (some (.int 0)) σ) : wp true (d + 2) nD_canPay [.ref 110, .int v, .int w, .int p] σ Φ := by
  apply wD_canPay
  simp only [pI, pL, pR, pV, i10, ↓reduceIte, eD_canPay_0]
  have hn := hO.1
  have hnv := hO.2.1
  have no : ¬ CanP E c v w p → bD_canPay_73 true NOB (wp true (d + 1)) Φ (kD_canPay (d + 1) Φ) [.ref 110, .int v, .int w, .int p] [] σ := fun q => by
    simp only [pI, pL, pR, pV, i10, ↓reduceIte, eD_canPay_73, eD_canPay_74]
    rw [zB_0]
    exact h0 q
  refine sW_isVillage (fun q => ?_) (fun q => ?_)
  · rw [hE.2.1] at q
    simp only [pI, pL, pR, pV, i10, ↓reduceIte, eD_canPay_8]
    refine sW_isHere ⟨hE.1, hn⟩ hc (fun q2 q3 => ?_) (fun q2 => ?_)
    · simp only [pI, pL, pR, pV, i10, ↓reduceIte, eD_canPay_19]
      have ep : ix (30 + v) = 30 + ix v := ixk rfl (by omega)
      have eo : ix (0 + w) = ix w := by rw [ixk (n := 0) rfl (by omega)]; omega
      have gp : (gI σ 2 (30 + ix v)).toInt = c (30 + ix v) := by rw [← hc]; exact (rc_at (by unfold ix; omega)).symm
      have go : (gI σ 2 (ix w)).toInt = c (ix w) := by rw [← hc]; exact (rc_at (by unfold ix; omega)).symm
      rw [ep, eo]
      simp only [ilt, tl1, show (999 : Int32).toInt = 999 from rfl, gp, show (-999 : Int32).toInt = -999 from rfl]
      split
      next z => exact no (fun x => by have := x.2.2.1; omega)
      next z =>
        split
        next y => exact no (fun x => by have := x.2.2.1; omega)
        next y =>
          refine ⟨inb_k (n := 30) rfl (by omega) (by omega), ?_⟩
          split
          next x => exact no (fun x => by have := x.2.2.2.1; omega)
          next x =>
            refine ⟨inb_k (n := 0) rfl (by omega) (by omega), ?_⟩
            have hob := (hO.w (w := ix w) (by unfold ix; omega)).1
            rw [tM (by rw [go]; omega), go]
            split
            next u => exact no (fun x => by have := x.2.2.2.2; omega)
            next u =>
              simp only [pI, pL, pR, pV, i10, ↓reduceIte, eD_canPay_74]
              rw [zB_1]
              exact h1 ⟨q, ⟨q2, q3⟩, by omega, by omega, by omega⟩
    · simp only [pI, pL, pR, pV, i10, ↓reduceIte, eD_canPay_19]
      exact no (fun x => q2 x.2.1)
  · rw [hE.2.1] at q
    simp only [pI, pL, pR, pV, i10, ↓reduceIte, eD_canPay_8]
    exact no (fun x => q x.1)
theorem sD_payNow {d : Nat} {Φ : Po} {E : En} {c : Co} {σ : Sg} {v w p : Int32} (hO : Ok E c) (hc : rc σ 2 = c) (hp : CanP E c v w p) (h : ∀ σ' : Sg, Fr [(2, 0, 44)] σ σ' → rc σ' 2 = payF c (ix v) (ix w) p.toInt → Φ none σ') : wp true (d + 1) nD_payNow [.ref 110, .int v, .int w, .int p] σ Φ := by
  apply wD_payNow
  simp only [pI, pL, pR, pV, i10, ↓reduceIte, eD_payNow_0]
  have hn := hO.1
  have hnv := hO.2.1
  obtain ⟨q1, ⟨q2, q3⟩, q4, q5, q6⟩ := hp
  have ep : ix (30 + v) = 30 + ix v := ixk rfl (by omega)
  have eo : ix (0 + w) = ix w := by rw [ixk (n := 0) rfl (by omega)]; omega
  have hv6 : ix v < 6 := by unfold ix; omega
  have hw6 : ix w < 6 := by unfold ix; omega
  have gp : (gI σ 2 (30 + ix v)).toInt = c (30 + ix v) := by rw [← hc]; exact (rc_at (by omega)).symm
  have go : (gI σ 2 (ix w)).toInt = c (ix w) := by rw [← hc]; exact (rc_at (by omega)).symm
  have hob := (hO.w (w := ix w) (by unfold ix; omega)).1
  have hpb := hO.v (v := ix v) (by unfold ix; omega)
  rw [ep, eo, gIne2 (by omega)]
  refine ⟨inb_k (n := 30) rfl (by omega) (by omega), inb_k (n := 30) rfl (by omega) (by omega), inb_k (n := 0) rfl (by omega) (by omega), inb_k (n := 0) rfl (by omega) (by omega), h _ ((Fr.sI (inS_r (lo := 0) (hi := 44) (by simp) (by omega))).tr (Fr.sI (inS_r (lo := 0) (hi := 44) (by simp) (by omega)))) ?_⟩
  rw [rc_sI (by omega), rc_sI (by omega), hc, tM (by rw [gp]; omega), tM (by rw [go]; omega), gp, go]
  rfl
theorem sM_isHere {d : Nat} {Φ : Po} {E : En} {c : Co} {σ : Sg} {w : Int32} (hO : Ok E c) (hn : rd σ 121 0 = eN E) (hc : mc σ 121 = c) (h1 : (0 ≤ w.toInt ∧ w.toInt < eN E) ∧ c (24 + ix w) = 0 → Φ (some (.int 1)) σ) (h0 : ¬ ((0 ≤ w.toInt ∧ w.toInt < eN E) ∧ c (24 + ix w) = 0) → Φ (some (.int 0)) σ) : wp true (d + 3) nM_isHere [.ref 120, .int w] σ Φ := by
  apply wM_isHere
  simp only [pI, pL, pR, pV, i10, ↓reduceIte, eM_isHere_0]
  have h6 := hO.1
  refine sM_isWind (by omega) (fun q => ?_) (fun q => ?_)
  · rw [hn] at q
    simp only [pI, pL, pR, pV, i10, ↓reduceIte, eM_isHere_5]
    refine sM_getG (by omega) (fun g hg => ?_)
    simp only [pI, pL, pR, pV, i10, ↓reduceIte, eM_isHere_14, eM_isHere_21, eM_isHere_22]
    rw [zB_1, zB_0]
    have c0 : (g = 0) = (c (24 + ix w) = 0) := by rw [ieq, hg, hc]; rfl
    simp only [c0]
    split
    next z => exact h1 ⟨q, z⟩
    next z => exact h0 (fun x => z x.2)
  · rw [hn] at q
    simp only [pI, pL, pR, pV, i10, ↓reduceIte, eM_isHere_5, eM_isHere_21, eM_isHere_22]
    rw [zB_0]
    exact h0 (fun x => q x.1)
theorem sM_canPay {d : Nat} {Φ : Po} {E : En} {c : Co} {σ : Sg} {v w p : Int32} (hO : Ok E c) (hn : rd σ 121 0 = eN E) (hc : mc σ 121 = c) (hv : 0 ≤ v.toInt ∧ v.toInt < eV E) (hp : 1 ≤ p.toInt ∧ p.toInt ≤ 999) (h1 : CanP E c v w p → Φ (some (.int 1)) σ) (h0 : ¬ CanP E c v w p → Φ (some (.int 0)) σ) : wp true (d + 4) nM_canPay [.ref 120, .int v, .int w, .int p] σ Φ := by
  apply wM_canPay
  simp only [pI, pL, pR, pV, i10, ↓reduceIte, eM_canPay_0]
  have h6 := hO.1
  have h6v := hO.2.1
  have no : ¬ CanP E c v w p → bM_canPay_36 true NOB (wp true (d + 3)) Φ (kM_canPay (d + 3) Φ) [.ref 120, .int v, .int w, .int p] [] σ := fun q => by
    simp only [pI, pL, pR, pV, i10, ↓reduceIte, eM_canPay_36, eM_canPay_37]
    rw [zB_0]
    exact h0 q
  refine sM_isHere hO hn hc (fun q => ?_) (fun q => ?_)
  · simp only [pI, pL, pR, pV, i10, ↓reduceIte, eM_canPay_5]
    refine sM_ofP (by omega) (fun a ha => ?_)
    simp only [pI, pL, pR, pV, i10, ↓reduceIte, eM_canPay_14]
    rw [hc] at ha
    simp only [ilt, ha]
    split
    next z => exact no (fun x => by have := x.2.2.2.1; omega)
    next z =>
      refine sM_getO (by omega) (fun b hb => ?_)
      simp only [pI, pL, pR, pV, i10, ↓reduceIte, eM_canPay_24]
      rw [hc] at hb
      have hob := (hO.w (w := ix w) (by unfold ix; omega)).1
      simp only [ilt, show (-999 : Int32).toInt = -999 from rfl]
      rw [tM (by rw [hb]; omega), hb]
      split
      next y => exact no (fun x => by have := x.2.2.2.2; omega)
      next y =>
        simp only [pI, pL, pR, pV, i10, ↓reduceIte, eM_canPay_37]
        rw [zB_1]
        exact h1 ⟨hv, q, hp, by omega, by omega⟩
  · simp only [pI, pL, pR, pV, i10, ↓reduceIte, eM_canPay_5]
    exact no (fun x => q x.2.1)
theorem sM_payNow {d : Nat} {Φ : Po} {E : En} {c : Co} {σ : Sg} {v w p : Int32} (hO : Ok E c) (hc : mc σ 121 = c) (hp : CanP E c v w p) (h : ∀ σ' : Sg, Fr FMk σ σ' → mc σ' 121 = payF c (ix v) (ix w) p.toInt → Φ none σ') : wp true (d + 2) nM_payNow [.ref 120, .int v, .int w, .int p] σ Φ := by
  have inMk : ∀ k, k < 44 → inS FMk 121 (mix k) = true := by decide
  apply wM_payNow
  simp only [pI, pL, pR, pV, i10, ↓reduceIte, eM_payNow_0]
  have hn := hO.1
  have hnv := hO.2.1
  obtain ⟨q1, ⟨q2, q3⟩, q4, q5, q6⟩ := hp
  have v6 : 0 ≤ v.toInt ∧ v.toInt < 6 := by omega
  have w6 : 0 ≤ w.toInt ∧ w.toInt < 6 := by omega
  have hob := (hO.w (w := ix w) (by unfold ix; omega)).1
  have hpb := hO.v (v := ix v) (by unfold ix; omega)
  have := ix6 v6
  have := ix6 w6
  refine sM_ofP v6 (fun a ha => ?_)
  simp only [pI, pL, pR, pV, i10, ↓reduceIte, eM_payNow_9]
  rw [hc] at ha
  refine sM_layP v6 (fun σ1 he1 hc1 => ?_)
  simp only [pI, pL, pR, pV, i10, ↓reduceIte, eM_payNow_14]
  refine sM_getO w6 (fun b hb => ?_)
  simp only [pI, pL, pR, pV, i10, ↓reduceIte, eM_payNow_23]
  rw [hc1, hc, upc_ne (by omega)] at hb
  refine sM_putO w6 (fun σ2 he2 hc2 => ?_)
  simp only [pI, pL, pR, pV, i10, ↓reduceIte, eM_payNow_28]
  refine h σ2 ?_ ?_
  · rw [he2, he1, ← mix_p (ix6 v6), ← mix_o (ix6 w6)]
    exact (Fr.sI (inMk _ (by omega))).tr (Fr.sI (inMk _ (by omega)))
  · rw [hc2, hc1, hc, tM (by rw [ha]; omega), tM (by rw [hb]; omega), ha, hb]
    rfl
theorem payF_ok {E : En} {c : Co} {v w p : Int32} (hO : Ok E c) (hp : CanP E c v w p) : Ok E (payF c (ix v) (ix w) p.toInt) ∧ (∀ k, 36 ≤ k → payF c (ix v) (ix w) p.toInt k = c k) ∧ (∀ k, 6 ≤ k → k < 30 → payF c (ix v) (ix w) p.toInt k = c k) ∧ (∀ k, Untold (eN E) (eV E) k → payF c (ix v) (ix w) p.toInt k = c k) := by
  obtain ⟨q1, ⟨q2, q3⟩, q4, q5, q6⟩ := hp
  have hn := hO.1
  have hnv := hO.2.1
  have hv6 : ix v < eV E := by unfold ix; omega
  have hw6 : ix w < eN E := by unfold ix; omega
  have hob := (hO.w hw6).1
  have hpb := hO.v hv6
  unfold payF
  refine ⟨(hO.P (by omega) (by omega)).O (by omega) (by omega), fun k hk => ?_, fun k h1 h2 => ?_, fun k hk => ?_⟩
  · rw [upc_ne (by omega), upc_ne (by omega)]
  · rw [upc_ne (by omega), upc_ne (by omega)]
  · unfold Untold at hk
    rw [upc_ne (by omega), upc_ne (by omega)]
theorem FKm_low : ∀ k, k < 4 → inS FKm 121 k = false := by decide
theorem FMkSm : ∀ e, e ∈ FMk → e ∈ SCm := by decide
theorem core_ok {σ : Sg} {lws : Lws} {c F : Co} (hW : WsOk (rd σ 121 0).toNat c) (hO : Ok (EE lws σ) F) (hT : TkOk (EE lws σ) c) (h36 : ∀ k, 36 ≤ k → F k = c k) (hw : wsum F (rd σ 121 0).toNat ≤ wsum c (rd σ 121 0).toNat) : COk σ 121 F := by
  refine ⟨hO, fun v hv => ?_, Int.le_trans hw hW⟩
  rw [h36 _ (by omega), h36 42 (by omega)]
  exact hT v hv
/-- how a payment by hand ends in the class -/
theorem p_pay (v w p : Int32) : PairI Rel nX_pay nM_pay [.int v, .int w, .int p] := by
  intro σ hR Φ h
  obtain ⟨lws, hR⟩ := hR
  have hO := hR.ok
  have hT := hR.tk
  have hE := hR.ce
  have hc := hR.rc
  have g9 := hR.1.2.2.2.2.2.2.2.2
  have s1 : rd σ 1 3 = rd σ 121 4 := g9.1
  have hn := hO.1
  have hnv := hO.2.1
  obtain ⟨-, -, e0, e1, b0, b1⟩ := hR.n
  apply wX_pay
  simp only [pI, pL, pR, pV, i10, ↓reduceIte, eX_pay_0]
  apply wD_payByHand
  simp only [pI, pL, pR, pV, i10, ↓reduceIte, eD_payByHand_0]
  refine sD_canPay hO hE hc (fun q => ?_) (fun q => ?_)
  · simp only [pI, pL, pR, pV, i10, ↓reduceIte, eD_payByHand_7, eD_payByHand_14]
    refine sW_keepStep g9.2.2.1 (by rw [s1]; exact g9.2.1) (fun σ1 hK => ?_)
    simp only [pI, pL, pR, pV, i10, ↓reduceIte, eD_payByHand_21]
    obtain ⟨r1, r2, r3⟩ := keepC_rc hK
    refine sD_payNow hO (r1.trans hc) q (fun σ2 hF2 hc2 => ?_)
    simp only [pI, pL, pR, pV, i10, ↓reduceIte, eD_payByHand_28]
    have eo : ix (0 + w) = ix w := by rw [ixk (n := 0) rfl (by have := q.2.1.1; omega)]; omega
    rw [eo]
    refine ⟨inb_k (n := 0) rfl (by have := q.2.1.1; omega) (by have := q.2.1.1; omega), ?_⟩
    simp only [pI, pL, pR, pV, i10, ↓reduceIte, eX_pay_10]
    have hw6 : ix w < 6 := by have := q.2.1.1; unfold ix; omega
    have go : (gI σ2 2 (ix w)).toInt = payF (mc σ 121) (ix v) (ix w) p.toInt (ix w) := by rw [← hc2]; exact (rc_at (by omega)).symm
    have hF2x : Fr FX σ1 σ2 := hF2.mo (by decide)
    have hFx : Fr FX σ σ2 := (FXk hK.1).tr hF2x
    refine h _ σ2 (hFx.sm (by decide)) (fun Ψ hΨ => ?_)
    have mdl : ∀ a k, 120 ≤ a → rd σ2 a k = rd σ a k := fun a k ha => hFx.rd (not_inS (fun e he q => by have := FX_no e he; omega))
    have emc : mc σ2 121 = mc σ 121 := by unfold mc; funext k; split <;> first | rw [mdl _ _ (by omega)] | rfl
    have eE : EE lws σ2 = EE lws σ := by unfold EE; simp only [mdl _ _ (by omega : 120 ≤ 121)]
    have g0 := RD_start (lws := lws) (σ := σ) (τ := σ2) hR (fun a k h1 _ => mdl a k h1)
    have n0 : rd σ2 121 0 = eN (EE lws σ) := (mdl _ _ (by omega)).trans e0
    apply wM_pay
    simp only [pI, pL, pR, pV, i10, ↓reduceIte, eM_pay_0]
    refine sM_isVillage (by rw [mdl _ _ (by omega)]; exact b1) (fun _ => ?_) (fun z => by rw [mdl _ _ (by omega), e1] at z; exact absurd q.1 z)
    simp only [pI, pL, pR, pV, i10, ↓reduceIte, eM_pay_5]
    refine sM_isIn (fun _ => ?_) (fun z => absurd ⟨by have := q.2.2.1; rw [tl1]; omega, by have := q.2.2.1; rw [show (999 : Int32).toInt = 999 from rfl]; omega⟩ z)
    simp only [pI, pL, pR, pV, i10, ↓reduceIte, eM_pay_16]
    refine sM_canPay hO n0 emc q.1 q.2.2.1 (fun _ => ?_) (fun z => absurd q z)
    simp only [pI, pL, pR, pV, i10, ↓reduceIte, eM_pay_26, eM_pay_33]
    refine sM_keep (by rw [mdl _ _ (by omega)]; exact g9.2.1) (fun t1 hKM => ?_)
    simp only [pI, pL, pR, pV, i10, ↓reduceIte, eM_pay_37]
    have mcK : mc t1 121 = mc σ 121 := (mc_ei hKM.1.ei (by decide)).trans emc
    refine sM_payNow hO mcK q (fun t2 hF3 hc3 => ?_)
    simp only [pI, pL, pR, pV, i10, ↓reduceIte, eM_pay_44]
    refine sM_getO (by have := q.2.1.1; omega) (fun r hr => ?_)
    simp only [pI, pL, pR, pV, i10, ↓reduceIte, eM_pay_50]
    have er : r = gI σ2 2 (ix w) := eqv (by rw [hr, hc3, go])
    rw [er]
    have gk := stepK (by omega) g0 hK.i hKM.i
    have eK : EE lws t1 = EE lws σ := (EE_of (hKM.1.ei.eqc (by decide +kernel))).trans eE
    obtain ⟨p1, p2, p3, p4⟩ := payF_ok hO q
    have k0 : ∀ k, k < 4 → rd t1 121 k = rd σ 121 k := fun k hk => (hKM.1.rd (FKm_low k hk)).trans (mdl _ _ (by omega))
    have gc := stepC (s' := σ2) (t' := t2) (F := payF (mc σ 121) (ix v) (ix w) p.toInt) gk (hF2.ei.mo (by decide)) hc2 (hF3.ei.mo FMkSm) hc3 (core_ok (lws := lws) (c := mc σ 121) (by rw [k0 0 (by omega)]; exact hR.1.2.2.2.2.2.2.1.2.1.2.2) (by rw [eK]; exact p1) (by rw [eK]; exact hT) p2 (Int.le_of_eq (wsum_cg _ (fun j hj => ⟨p3 _ (by omega) (by rw [k0 0 (by omega)] at hj; omega), p3 _ (by omega) (by rw [k0 0 (by omega)] at hj; omega)⟩)))) (fun k hk => by
      rw [mcK]
      rw [k0 0 (by omega), k0 1 (by omega)] at hk
      exact p4 k hk) (by rw [mcK]; exact p2 42 (by omega))
    have hFt : Fr (FKm ++ FMk) σ2 t2 := (hKM.1.mo (fun e he => List.mem_append_left _ he)).tr (hF3.mo (fun e he => List.mem_append_right _ he))
    refine hΨ t2 (hFt.sm (by decide)) ⟨lws, RD_end (by omega) gc (fun a k ha => hFt.rd (not_inS (fun e he q => by
      have : ∀ e, e ∈ FKm ++ FMk → 120 ≤ e.1 := by decide
      have := this e he
      omega)))⟩
  · simp only [pI, pL, pR, pV, i10, ↓reduceIte, eD_payByHand_7]
    simp only [pI, pL, pR, pV, i10, ↓reduceIte, eX_pay_10]
    refine h _ σ ⟨fun _ => rfl, rfl⟩ (fun Ψ hΨ => ?_)
    have fin := hΨ σ ⟨fun _ => rfl, rfl⟩ ⟨lws, hR⟩
    apply wM_pay
    simp only [pI, pL, pR, pV, i10, ↓reduceIte, eM_pay_0]
    refine sM_isVillage b1 (fun z => ?_) (fun z => ?_)
    · rw [e1] at z
      simp only [pI, pL, pR, pV, i10, ↓reduceIte, eM_pay_5]
      refine sM_isIn (fun y => ?_) (fun y => ?_)
      · rw [tl1, show (999 : Int32).toInt = 999 from rfl] at y
        simp only [pI, pL, pR, pV, i10, ↓reduceIte, eM_pay_16]
        refine sM_canPay hO e0 rfl z y (fun x => absurd x q) (fun x => ?_)
        simp only [pI, pL, pR, pV, i10, ↓reduceIte, eM_pay_26, eM_pay_29]
        exact fin
      · simp only [pI, pL, pR, pV, i10, ↓reduceIte, eM_pay_16, eM_pay_29]
        exact fin
    · simp only [pI, pL, pR, pV, i10, ↓reduceIte, eM_pay_5, eM_pay_29]
      exact fin
