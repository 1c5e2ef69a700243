/-! DAYS THAT PASS -/
theorem RD.of {D : Int} {lws : Lws} {σ σ' : Sg} (h1 : Eqc (fA 0 121) σ σ') (h2 : Eqc (fA 40 122) σ σ') (h3 : Eqc fT σ σ') (h4 : Eqc fF σ σ') (g : RD D lws σ) : RD D lws σ' := ⟨RA.of h1 g.1, RA.of h2 g.2.1, RT.of h3 g.2.2.1, RF.of h4 g.2.2.2⟩
theorem RD.ms {D : Int} {lws : Lws} {s t t' : Sg} (h : Ei MS t t') (g : RD D lws (mrg s t)) : RD D lws (mrg s t') := RD.of ((Ei_mm h).eqc (by decide +kernel)) ((Ei_mm h).eqc (by decide +kernel)) ((Ei_mm h).eqc (by decide +kernel)) ((Ei_mm h).eqc (by decide +kernel)) g
theorem RD.xs {D : Int} {lws : Lws} {s s' t : Sg} (h : Ei XS s s') (g : RD D lws (mrg s t)) : RD D lws (mrg s' t) := RD.of ((Ei_mc h).eqc (by decide +kernel)) ((Ei_mc h).eqc (by decide +kernel)) ((Ei_mc h).eqc (by decide +kernel)) ((Ei_mc h).eqc (by decide +kernel)) g
def DaysC (E : En) : Nat → Sg → Sg → Prop
  | 0, s, s' => s' = s
  | n + 1, s, s' => ∃ a b, KCi s a ∧ PCi E a b ∧ DaysC E n b s'
theorem DaysC.snoc {E : En} : ∀ {n : Nat} {s b a s' : Sg}, DaysC E n s b → KCi b a → PCi E a s' → DaysC E (n + 1) s s'
  | 0, s, b, a, s', h, k, p => by
    have h : b = s := h
    subst h
    exact ⟨a, s', k, p, rfl⟩
  | n + 1, s, b, a, s', ⟨x, y, k1, p1, r⟩, k, p => ⟨x, y, k1, p1, DaysC.snoc r k p⟩
abbrev FX : Ls := FKc ++ FD
theorem FXk {σ σ' : Sg} (h : Fr FKc σ σ') : Fr FX σ σ' := h.mo (fun e he => List.mem_append_left _ he)
theorem FXd {σ σ' : Sg} (h : Fr FD σ σ') : Fr FX σ σ' := h.mo (fun e he => List.mem_append_right _ he)
theorem FX_no : ∀ e, e ∈ FX → e.1 < 34 ∨ e.1 = 109 ∨ e.1 = 110 := by decide
theorem FX_1 : ∀ e, e ∈ FX → e.1 ≠ 1 ∨ e.2.2 ≤ 4 := by decide
theorem CEx {σ σ' : Sg} {E : En} (h : Fr FX σ σ') (g : CE σ E) : CE σ' E := CE.fr h ⟨rfl, rfl, rfl, rfl⟩ (fun a k q => not_inS (fun e he z => by have := FX_no e he; omega)) g
theorem keepC_rc {σ σ' : Sg} (h : KeepC σ σ') : rc σ' 2 = rc σ 2 ∧ rd σ' 2 44 = rd σ 2 44 ∧ (0 ≤ rd σ 1 2 ∧ rd σ 1 2 < 30 → 0 ≤ rd σ 1 3 ∧ rd σ 1 3 ≤ 30 → (0 ≤ rd σ' 1 2 ∧ rd σ' 1 2 < 30) ∧ (0 ≤ rd σ' 1 3 ∧ rd σ' 1 3 ≤ 30)) := by
  have no : ∀ k, inS FKc 2 k = false := fun k => not_inS (fun e he z => by
    have : ∀ e, e ∈ FKc → e.1 ≠ 2 := by decide
    exact this e he z.1)
  refine ⟨Fr_rc h.1 (fun k _ => no k), h.1.rd (no 44), fun h1 h2 => ?_⟩
  rw [h.2.1, h.2.2.1]
  omega
theorem lX_day {d : Nat} {Φ : Po} {E : En} {c : Co} {N : Nat} {x1 : Int32} {σ0 : Sg} (hO : Ok E c) (hT : TkOk E c) (hE : CE σ0 E) (hN : x1.toInt = N) (hN60 : N ≤ 60) (hN9 : (N : Int) ≤ 9999 - c 42) (h44 : 0 ≤ rd σ0 2 44 ∧ rd σ0 2 44 ≤ 9999)
    (h : ∀ (σ' : Sg) (v : Int32), Fr FX σ0 σ' → DaysC E N σ0 σ' → v.toInt = tkN E c N → Φ (some (.int v)) σ') :
    ∀ (n i : Nat) (σ : Sg) (t x : Int32), i + n = N → x.toInt = i → Fr FX σ0 σ → DaysC E i σ0 σ → rc σ 2 = pasN E c i → t.toInt = tkN E c i → rd σ 2 44 = rd σ0 2 44 + i → (0 ≤ rd σ 1 2 ∧ rd σ 1 2 < 30) → (0 ≤ rd σ 1 3 ∧ rd σ 1 3 ≤ 30) → bX_day_28 true NOB (wp true (d + 6)) Φ (kX_day (d + 6) Φ) [.ref 0, .int x1, .int t, .int x] [] σ := by
  intro n
  induction n with
  | zero =>
    intro i σ t x hi hx hF hD hc ht hw h2 h3
    simp only [pI, pL, pR, pV, i10, ↓reduceIte, eX_day_28, eX_day_63]
    simp only [ile, hN, hx]
    rw [if_pos (by omega)]
    obtain rfl : i = N := by omega
    exact h σ t hF hD ht
  | succ n ih =>
    intro i σ t x hi hx hF hD hc ht hw h2 h3
    simp only [pI, pL, pR, pV, i10, ↓reduceIte, eX_day_28]
    simp only [ile, hN, hx]
    rw [if_neg (by omega)]
    obtain ⟨o1, o2, o3, o4⟩ := pasN_ok hO hT i (by omega)
    refine sW_keepStep h2 h3 (fun σ1 hK => ?_)
    simp only [pI, pL, pR, pV, i10, ↓reduceIte, eX_day_40]
    obtain ⟨r1, r2, r3⟩ := keepC_rc hK
    have r3 := r3 h2 h3
    have hF1 := hF.tr (FXk hK.1)
    refine sD_pass o1 (CEx hF1 hE) (r1.trans hc) o2 (by omega) (by rw [r2, hw]; omega) (fun σ2 hF2 hc2 hw2 hf2 ht2 hP => ?_)
    simp only [pI, pL, pR, pV, i10, ↓reduceIte, eX_day_47]
    have e110 : (gI σ2 110 4).toInt = (passF E (pasN E c i)).2.2.2 := ht2
    have hb := (passF_ok o1 o2 (by omega)).2.2.2.2.2.1
    have hp : PCi E σ1 σ2 := by
      refine ⟨hF2.ei, ?_, ?_⟩
      · rw [r1, hc]; exact hc2
      · rw [r1, hc]; exact hP
    have e1 : ∀ k, k < 4 → rd σ2 1 k = rd σ1 1 k := fun k _ => hF2.rd (inFD (by omega))
    refine hX_day_28 _ _ _ _ _ (ih (i + 1) σ2 _ (x + 1) (by omega) (by rw [t1 (by omega), hx]; omega) (hF1.tr (FXd hF2)) (hD.snoc hK.i hp) hc2 ?_ ?_ (by rw [e1 2 (by omega)]; exact r3.1) (by rw [e1 3 (by omega)]; exact r3.2))
    · rw [tP (by rw [e110]; omega), ht, e110]; rfl
    · rw [hP.1, r2, hw]; omega
theorem mc_ei {S : Ls} {t t' : Sg} (h : Ei S t t') (hd : dsj (FMk) S = true) : mc t' 121 = mc t 121 := by
  have inM2 : ∀ k, k < 44 → inS FMk 121 (mix k) = true := by decide
  funext k
  unfold mc
  by_cases q : k < 44
  · rw [if_pos q, if_pos q, h _ _ (dsj_ok hd (inM2 k q))]
  · rw [if_neg q, if_neg q]
abbrev FAm : Ls := FKm ++ (FM ++ [(120, 28, 29)])
theorem FAk {σ σ' : Sg} (h : Fr FKm σ σ') : Fr FAm σ σ' := h.mo (fun e he => List.mem_append_left _ he)
theorem FAp {σ σ' : Sg} (h : Fr FM σ σ') : Fr FAm σ σ' := h.mo (fun e he => List.mem_append_right _ (List.mem_append_left _ he))
theorem FAt {σ : Sg} {v : Int32} : Fr FAm σ (sI σ 120 28 v) := Fr.sI (by decide)
theorem tms {σ : Sg} {v : Int32} : Ei MS σ (sI σ 120 28 v) := (Fr.sI (S := MS) (by decide)).ei
theorem lM_days {d : Nat} {Φ : Po} {lws : Lws} {E : En} {c : Co} {N : Nat} {x1 : Int32} {sN t0 : Sg} (hO : Ok E c) (hT : TkOk E c) (hN : x1.toInt = N) (hN60 : N ≤ 60) (hN9 : (N : Int) ≤ 9999 - c 42)
    (h : ∀ (t : Sg) (D : Int), 0 ≤ D → RD D lws (mrg sN t) → EE lws t = E → Fr FAm t0 t → mc t 121 = pasN E c N → rd t 120 28 = tkN E c N → Φ (some (.int 1)) t) :
    ∀ (n i : Nat) (s t : Sg) (x : Int32) (D : Int), i + n = N → x.toInt = i → Fr FAm t0 t → DaysC E n s sN → 0 ≤ D → RD D lws (mrg s t) → EE lws t = E → mc t 121 = pasN E c i → rd t 120 28 = tkN E c i → bM_arePassed_7 true NOB (wp true (d + 9)) Φ (kM_arePassed (d + 9) Φ) [.ref 120, .int x1, .int x] [] t := by
  intro n
  induction n with
  | zero =>
    intro i s t x D hi hx hF hD hD0 g hE hc ht
    simp only [pI, pL, pR, pV, i10, ↓reduceIte, eM_arePassed_7, eM_arePassed_54]
    simp only [ile, hN, hx]
    rw [if_pos (by omega)]
    obtain rfl : i = N := by omega
    have hD : sN = s := hD
    subst hD
    exact h t D hD0 g hE hF hc ht
  | succ n ih =>
    intro i s t x D hi hx hF hD hD0 g hE hc ht
    simp only [pI, pL, pR, pV, i10, ↓reduceIte, eM_arePassed_7]
    simp only [ile, hN, hx]
    rw [if_neg (by omega)]
    obtain ⟨o1, o2, o3, o4⟩ := pasN_ok hO hT i (by omega)
    have e8 : (gI t 121 (ix 8)).toInt = pasN E c i 42 := by rw [← hc]; rfl
    have cd : (gI t 121 (ix 8) = 9999) = (pasN E c i 42 = 9999) := by rw [ieq, e8]; rfl
    simp only [cd]
    rw [if_neg (by omega)]
    refine ⟨⟨by decide, by decide⟩, ?_⟩
    have hx1 : (x + 1).toInt = ((i + 1 : Nat) : Int) := by rw [t1 (by omega), hx]; omega
    obtain ⟨a, b, k1, p1, rest⟩ := hD
    simp only [pI, pL, pR, pV, i10, ↓reduceIte, eM_arePassed_27]
    obtain ⟨-, -, -, -, -, -, h4⟩ := g.core
    refine sM_keep h4 (fun t1 hK => ?_)
    simp only [pI, pL, pR, pV, i10, ↓reduceIte, eM_arePassed_31]
    have g1 := stepK hD0 g k1 hK.i
    have mcK : mc t1 121 = mc t 121 := mc_ei hK.1.ei (by decide)
    have eK : EE lws t1 = E := (EE_of (hK.1.ei.eqc (by decide +kernel))).trans hE
    obtain ⟨c1, c2, c3, c4, c5, c6, c7⟩ := g1.core
    rw [eK] at c2 c3 c4
    refine sM_pass c2 c4 rfl c3 (by rw [mcK, hc]; omega) (Or.inr ⟨c5, c6.1, by omega⟩) (fun t2 hF2 hc2 hw2 hf2 ht2 _ hR => ?_)
    simp only [pI, pL, pR, pV, i10, ↓reduceIte, eM_arePassed_35]
    have hp : PMi E t1 t2 := ⟨hF2.ei, hc2, hR c5⟩
    have p1' : PCi E a b := p1
    have g2 := stepP (by omega) g1 (by rw [mcK, hc]; omega) (by rw [eK]; exact p1') (by rw [eK]; exact hp)
    have e27 : (gI t2 120 27).toInt = (passF E (pasN E c i)).2.2.2 := by rw [← hc, ← mcK]; exact ht2
    have e28 : (gI t2 120 28).toInt = tkN E c i := by
      show rd t2 120 28 = _
      rw [hF2.rd rfl, hK.1.rd rfl]
      exact ht
    have hb := (passF_ok o1 o2 (by omega)).2.2.2.2.2.1
    have eP : EE lws t2 = E := (EE_of (hF2.ei.eqc (by decide +kernel))).trans eK
    refine hM_arePassed_7 _ _ _ _ _ (ih (i + 1) b _ (x + 1) (40 - 1) (by omega) hx1 (((hF.tr (FAk hK.1)).tr (FAp hF2)).tr FAt) rest (by omega) (RD.ms tms g2) ((EE_of (tms.eqc (by decide +kernel))).trans eP) ?_ ?_)
    · rw [mc_ne (by omega), hc2, mcK, hc]; rfl
    · rw [rdeq, tP (by rw [e27, e28]; omega), e27, e28]; rfl
theorem p_day (n : Int32) : PairI Rel nX_day nM_day [.int n] := by
  intro σ hR Φ h
  obtain ⟨lws, hR⟩ := hR
  have hO := hR.ok
  have hT := hR.tk
  have hday := hO.2.2.1
  have g9 := hR.1.2.2.2.2.2.2.2.2
  have s1 : rd σ 1 3 = rd σ 121 4 := g9.1
  have e8 : ∀ τ : Sg, rd τ 121 8 = mc τ 121 42 := fun _ => rfl
  -- both refuse
  have no : ¬ ((1 ≤ n.toInt ∧ n.toInt ≤ 60) ∧ mc σ 121 42 + n.toInt ≤ 9999) → Φ (some (.int (-1))) σ := by
    intro q
    refine h _ σ ⟨fun _ => rfl, rfl⟩ (fun Ψ hΨ => ?_)
    have fin := hΨ σ ⟨fun _ => rfl, rfl⟩ ⟨lws, hR⟩
    apply wM_day
    simp only [pI, pL, pR, pV, i10, ↓reduceIte, eM_day_0]
    refine sM_isIn (fun z => ?_) (fun z => ?_)
    · rw [tl1, show (60 : Int32).toInt = 60 from rfl] at z
      simp only [pI, pL, pR, pV, i10, ↓reduceIte, eM_day_7, eM_day_40, eM_day_41]
      have e : (gI σ 121 (ix 8) + n).toInt = mc σ 121 42 + n.toInt := by
        have : (gI σ 121 (ix 8)).toInt = mc σ 121 42 := rfl
        rw [tP (by omega), this]
      simp only [ilt, e, show (9999 : Int32).toInt = 9999 from rfl]
      rw [if_pos (by omega)]
      exact ⟨⟨by decide, by decide⟩, fin⟩
    · simp only [pI, pL, pR, pV, i10, ↓reduceIte, eM_day_7, eM_day_40, eM_day_41]
      exact fin
  apply wX_day
  simp only [pI, pL, pR, pV, i10, ↓reduceIte, eX_day_0]
  have c1 : ∀ z : Int32, z.toInt = n.toInt → z = n := fun z e => eqv e
  simp only [ilt, ilt, tl1, show (60 : Int32).toInt = 60 from rfl]
  split
  next z =>
    simp only [pI, pL, pR, pV, i10, ↓reduceIte, eX_day_22]
    exact no (fun q => by omega)
  next z =>
    split
    next y =>
      simp only [pI, pL, pR, pV, i10, ↓reduceIte, eX_day_22]
      exact no (fun q => by omega)
    next y =>
      refine sW_daysLeft hR.rc hday (fun l hl => ?_)
      simp only [pI, pL, pR, pV, i10, ↓reduceIte, eX_day_18]
      simp only [ile, hl]
      split
      next x =>
        simp only [pI, pL, pR, pV, i10, ↓reduceIte, eX_day_24]
        have hix := ix_to (x := n) (by omega)
        refine lX_day (N := ix n) hO hT hR.ce (by omega) (by omega) (by omega) hR.w44 (fun σ' v hF hD hv => ?_) (ix n) 0 σ 0 0 (by omega) rfl Fr.rf rfl hR.rc rfl (by omega) g9.2.2.1 (by rw [s1]; exact g9.2.1)
        refine h v σ' (hF.sm (by decide)) (fun Ψ hΨ => ?_)
        have mdl : ∀ a k, 120 ≤ a → rd σ' a k = rd σ a k := fun a k ha => hF.rd (not_inS (fun e he q => by have := FX_no e he; omega))
        have g0 := RD_start (lws := lws) (σ := σ) (τ := σ') hR (fun a k h1 _ => mdl a k h1)
        have emc : mc σ' 121 = mc σ 121 := by unfold mc; funext k; split <;> first | rw [mdl _ _ (by omega)] | rfl
        have eE : EE lws σ' = EE lws σ := by unfold EE; simp only [mdl _ _ (by omega : 120 ≤ 121)]
        apply wM_day
        simp only [pI, pL, pR, pV, i10, ↓reduceIte, eM_day_0]
        refine sM_isIn (fun q => ?_) (fun q => by exact absurd ⟨by rw [tl1]; omega, by rw [show (60 : Int32).toInt = 60 from rfl]; omega⟩ q)
        simp only [pI, pL, pR, pV, i10, ↓reduceIte, eM_day_7]
        have e : (gI σ' 121 (ix 8) + n).toInt = mc σ 121 42 + n.toInt := by
          have : (gI σ' 121 (ix 8)).toInt = mc σ 121 42 := by rw [← emc]; rfl
          rw [tP (by omega), this]
        simp only [ilt, e, show (9999 : Int32).toInt = 9999 from rfl]
        rw [if_neg (by omega)]
        refine ⟨⟨by decide, by decide⟩, ?_⟩
        apply wM_arePassed
        simp only [pI, pL, pR, pV, i10, ↓reduceIte, eM_arePassed_0]
        refine lM_days (d := 2) (lws := lws) (E := EE lws σ) (c := mc σ 121) (N := ix n) (sN := σ') (t0 := σ') hO hT (by omega) (by omega) (by omega) (fun t D hD0 g hE hF2 hc ht => ?_) (ix n) 0 σ _ 0 0 (by omega) rfl FAt hD (by omega) (RD.ms tms g0) ((EE_of (tms.eqc (by decide +kernel))).trans eE) ?_ ?_
        · simp only [pI, pL, pR, pV, i10, ↓reduceIte, eM_day_30, eM_day_41]
          have ev : gI t 120 28 = v := eqv (by rw [hv]; exact ht)
          rw [ev]
          refine hΨ t (hF2.sm (by decide)) ⟨lws, RD_end hD0 g (fun a k ha => ?_)⟩
          exact hF2.rd (not_inS (fun e he q => by
            have : ∀ e, e ∈ FAm → 120 ≤ e.1 := by decide
            have := this e he
            omega))
        · rw [mc_ne (by omega), emc]; rfl
        · rw [rdeq]; rfl
      next x =>
        simp only [pI, pL, pR, pV, i10, ↓reduceIte, eX_day_22]
        exact no (fun q => by omega)
