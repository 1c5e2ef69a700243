/-! WHOSE LAW -/
theorem qryK {x m : Nat} {as : List Value} (Q : Lws → En → Co → (Nat → Int) → Int)
    (hx : ∀ (lws : Lws) (σ : Sg) (Φ : Po), R lws σ → (∀ (v : Int32) (σ' : Sg), Fi XS σ σ' → v.toInt = Q lws (EE lws σ) (mc σ 121) (rd σ 121) → Φ (some (.int v)) σ') → wp true 13 x (.ref 0 :: as) σ Φ)
    (hm : ∀ (lws : Lws) (σ : Sg) (Φ : Po), R lws σ → (∀ (v : Int32) (σ' : Sg), Fi MS σ σ' → v.toInt = Q lws (EE lws σ) (mc σ 121) (rd σ 121) → Φ (some (.int v)) σ') → wp true 13 m (.ref 120 :: as) σ Φ) : PairI Rel x m as := by
  intro σ hR Φ h
  obtain ⟨lws, hR⟩ := hR
  refine hx lws σ Φ hR (fun v σ' hF hv => ?_)
  refine h v σ' (hF.sm (by decide)) (fun Ψ hΨ => ?_)
  refine hm lws σ' Ψ (hR.xi hF) (fun v2 σ'' hF2 hv2 => ?_)
  have e : v2 = v := by
    refine eqv ?_
    have e121 := xs121 hF
    have emc : mc σ' 121 = mc σ 121 := by unfold mc; rw [e121]
    have eE : EE lws σ' = EE lws σ := by unfold EE; rw [e121]
    rw [hv2, hv, e121, emc, eE]
  rw [e]
  exact hΨ σ'' (hF2.sm (by decide)) ⟨lws, (hR.xi hF).mi hF2⟩
theorem CodeAt_r {σ σ' : Sg} {t : Nat} (hc : ∀ k, rd σ' (89 + 5 * t) k = rd σ (89 + 5 * t) k) : ∀ (ops : List (Int × Int)) (i : Nat), CodeAt σ t i ops → CodeAt σ' t i ops
  | [], _, _ => trivial
  | (o, v) :: r, i, ⟨h1, h2⟩ => ⟨(hc i).trans h1, CodeAt_r hc r (i + 1) h2⟩
theorem CE.ei {σ σ' : Sg} {E : En} (e1 : rd σ' 1 4 = rd σ 1 4 ∧ rd σ' 1 6 = rd σ 1 6 ∧ rd σ' 1 9 = rd σ 1 9 ∧ rd σ' 1 10 = rd σ 1 10) (e2 : ∀ a k, (a = 34 ∨ a = 35 ∨ (88 ≤ a ∧ a < 108)) → rd σ' a k = rd σ a k) (g : CE σ E) : CE σ' E := by
  obtain ⟨g1, g2, g3, g4, ⟨g5, g6, g7, g8⟩, g9⟩ := g
  obtain ⟨a1, a2, a3, a4⟩ := e1
  refine ⟨a1.trans g1, a2.trans g2, fun w hw => (e2 _ _ (Or.inl rfl)).trans (g3 w hw), fun w hw => (e2 _ _ (Or.inr (Or.inl rfl))).trans (g4 w hw), ⟨?_, ?_, ?_, ?_⟩, g9⟩
  · rw [a3]; exact g5
  · rw [a3, a4]; exact g6
  · rw [a4]; exact g7
  · rw [a4]
    intro t ht hr l hl
    have g := g8 t ht hr l hl
    cases hx : eL E l with
    | none =>
      rw [hx] at g
      show rd σ' (90 + 5 * t) l = -1
      rw [e2 _ _ (by omega)]
      exact g
    | some ops =>
      rw [hx] at g
      show 0 ≤ rd σ' (90 + 5 * t) l ∧ rd σ' (91 + 5 * t) l = rd σ' (90 + 5 * t) l + ops.length ∧ rd σ' (91 + 5 * t) l ≤ 300 ∧ CodeAt σ' t (rd σ' (90 + 5 * t) l).toNat ops
      rw [e2 (90 + 5 * t) _ (by omega), e2 (91 + 5 * t) _ (by omega)]
      obtain ⟨b1, b2, b3, b4⟩ := g
      exact ⟨b1, b2, b3, CodeAt_r (fun k => e2 _ _ (by omega)) _ _ b4⟩
theorem R_by {lws : Lws} {σ : Sg} (hR : R lws σ) {t : Int32} (q : -1 ≤ t.toInt ∧ t.toInt < rd σ 121 2) : R lws (sI (sI σ 1 10 t) 121 3 t) := by
  obtain ⟨⟨g1, g2, g3, g4, g5, g6, g7, g8, g9⟩, gI', gT, gF⟩ := hR
  have hR : R lws σ := ⟨⟨g1, g2, g3, g4, g5, g6, g7, g8, g9⟩, gI', gT, gF⟩
  obtain ⟨b1, b2, b3, b4⟩ := g3
  have b1 : rd σ 1 9 = rd σ 121 2 := b1
  have fX : Fr [(1, 10, 11), (121, 3, 4)] σ (sI σ 1 10 t) := Fr.sI (by decide)
  have fM : Fr [(1, 10, 11), (121, 3, 4)] (sI σ 1 10 t) (sI (sI σ 1 10 t) 121 3 t) := Fr.sI (by decide)
  have hS := (fX.tr fM).ei
  refine RD_one hR hS (by decide +kernel) (by decide +kernel) (by decide +kernel) ⟨G1.of (hS.eqc (by decide +kernel)) g1, G2.of (hS.eqc (by decide +kernel)) g2, ?_, G4.of (hS.eqc (by decide +kernel)) g4, G5.of (hS.eqc (by decide +kernel)) g5, G6.of (hS.eqc (by decide +kernel)) g6, G7.of (hS.eqc (by decide +kernel)) g7, G8.of (hS.eqc (by decide +kernel)) g8, G9.of (hS.eqc (by decide +kernel)) g9⟩
  refine ⟨?_, ?_, ?_, ?_⟩
  · show rd _ 1 9 = _
    rw [rdne (by omega), rdne2 (by omega), rdne2 (by omega), rdne (by omega)]; exact b1
  · show rd _ 1 10 = _
    rw [rdne (by omega), rdeq, rdeq]
  · rw [rdne2 (by omega), rdne (by omega)]; exact b3
  · rw [rdeq, rdne2 (by omega), rdne (by omega)]; exact q
def ER (lws : Lws) (E : En) (t : Nat) : En := (E.1, E.2.1, E.2.2.1, E.2.2.2.1, fun l => lws t l)
theorem EE_by {lws : Lws} {σ : Sg} {t : Int32} {T : Nat} (ht : t.toInt = T) : EE lws (sI (sI σ 1 10 t) 121 3 t) = ER lws (EE lws σ) T := by
  have e : ∀ k, k ≠ 3 → rd (sI (sI σ 1 10 t) 121 3 t) 121 k = rd σ 121 k := fun k hk => by rw [rdne2 hk, rdne (by omega)]
  have e3 : rd (sI (sI σ 1 10 t) 121 3 t) 121 3 = T := by rw [rdeq, ht]
  have f1 : (fun w => if w < 6 then rd (sI (sI σ 1 10 t) 121 3 t) 121 (12 + 8 * w) else 0) = fun w => if w < 6 then rd σ 121 (12 + 8 * w) else 0 := by
    funext w
    rw [e _ (by omega)]
  have f2 : (fun w => if w < 6 then rd (sI (sI σ 1 10 t) 121 3 t) 121 (60 + 4 * w) else 0) = fun w => if w < 6 then rd σ 121 (60 + 4 * w) else 0 := by
    funext w
    rw [e _ (by omega)]
  have f3 : (fun l => if rd (sI (sI σ 1 10 t) 121 3 t) 121 3 < 0 then none else lws (rd (sI (sI σ 1 10 t) 121 3 t) 121 3).toNat l) = fun l => lws T l := by
    funext l
    rw [e3, if_neg (by omega)]
    rfl
  unfold EE ER
  rw [e 0 (by omega), e 1 (by omega), f1, f2, f3]
theorem sM_takenG {d : Nat} {Φ : Po} {E : En} {c : Co} {nI : Int32} {σ : Sg} (hO : Ok E c) (hT : TkOk E c) (hE : ME σ E) (hc : mc σ 121 = c) (hfl : rd σ 120 24 = 1) (hn : 0 ≤ nI.toInt ∧ nI.toInt ≤ 60) (h : ∀ (σ' : Sg) (v : Int32), Fi MS σ σ' → v.toInt = tkN E c (canN c (ix nI)) → Φ (some (.int v)) σ') : wp true (d + 12) nM_takenIn [.ref 120, .int nI] σ Φ := by
  apply wM_takenIn
  simp only [pI, pL, pR, pV, i10, ↓reduceIte, eM_takenIn_0]
  apply wM_behind
  simp only [pI, pL, pR, pV, i10, ↓reduceIte, eM_behind_0]
  refine sM_setAside (fun σ1 h1 h2 hz h28 => ?_)
  simp only [pI, pL, pR, pV, i10, ↓reduceIte, eM_behind_4]
  have c0 : canN c 0 = 0 := by unfold canN; omega
  have hix := ix_to hn.1
  refine lM_behind hO hT (aside_me h1 hE) hz hn.2 (by decide) (fun σ2 σ3 v h3 hc2 ht2 h4 h5 h6 hv => ?_) (ix nI) σ1 0 (by rw [tl0]; omega) (by decide) Fr.rf ?_ ?_ hz
  · simp only [pI, pL, pR, pV, i10, ↓reduceIte, eM_takenIn_7]
    refine h σ3 _ (put_fi hfl h1 h2 h3 h4 h5 h6 FMgsub FMg129) ?_
    have : rd σ3 120 28 = rd σ2 120 28 := h4.rd rfl
    rw [← ht2]
    exact this
  · show _ = pasN _ _ (canN c 0)
    simp only [c0]
    exact (aside_mc h1).trans hc
  · show _ = tkN _ _ (canN c 0)
    simp only [c0]
    exact h28
def whoS (lws : Lws) (E : En) (c : Co) (n : Nat) : Nat → Int × Int
  | 0 => (-1, 1000000)
  | t + 1 => if tkN (ER lws E t) c (canN c n) < (whoS lws E c n t).2 then ((t : Int), tkN (ER lws E t) c (canN c n)) else whoS lws E c n t
abbrev FW1 : Ls := XS ++ [(1, 10, 11)]
abbrev FW2 : Ls := MS ++ [(121, 3, 4)]
theorem FW1n {b k : Nat} (h : (b ≠ 1 ∨ k ≠ 10) ∧ (b < 83 ∨ b = 120 ∨ b = 121 ∨ (88 ≤ b ∧ b < 108))) : inS FW1 b k = false := not_inS (fun e he z => by
  have key : ∀ e, e ∈ FW1 → (83 ≤ e.1 ∧ e.1 < 88) ∨ (108 < e.1 ∧ e.1 < 120) ∨ e = (1, 10, 11) := by decide
  rcases key e he with m | m | m
  · omega
  · omega
  · subst m
    have z1 : 1 = b := z.1
    have z2 : 10 ≤ k := z.2.1
    have z3 : k < 11 := z.2.2
    omega)
theorem FW2n {b k : Nat} (h : (b = 121 ∧ k ≠ 3) ∨ b = 123 ∨ (b = 120 ∧ k = 24)) : inS FW2 b k = false := not_inS (fun e he z => by
  have key : ∀ e, e ∈ FW2 → (e.1 = 120 ∧ (e.2.2 ≤ 24 ∨ 25 ≤ e.2.1)) ∨ (123 < e.1) ∨ e = (121, 3, 4) := by decide
  rcases key e he with m | m | m
  · omega
  · omega
  · subst m
    have z1 : 121 = b := z.1
    have z2 : 3 ≤ k := z.2.1
    have z3 : k < 4 := z.2.2
    omega)
def qWhose (n : Int32) (lws : Lws) (E : En) (c : Co) (a : Nat → Int) : Int := if 1 ≤ n.toInt ∧ n.toInt ≤ 60 then (whoS lws E c (ix n) (a 2).toNat).1 else -1
theorem p_whose (n : Int32) : PairI Rel nX_whose nM_whose [.int n] := by
  refine qryK (qWhose n) (fun lws σ Φ hR h => ?_) (fun lws σ Φ hR h => ?_)
  · apply wX_whose
    simp only [pI, pL, pR, pV, i10, ↓reduceIte, eX_whose_0]
    unfold qWhose at h
    refine sX_isFar (fun q => ?_) (fun q => ?_)
    · rw [if_pos q] at h
      simp only [pI, pL, pR, pV, i10, ↓reduceIte, eX_whose_4]
      apply wF_mildestText
      simp only [pI, pL, pR, pV, i10, ↓reduceIte, eF_mildestText_0]
      have hO := hR.ok
      have hT := hR.tk
      have hrc := hR.rc
      have hw44 := hR.w44
      have h3 := hR.1.2.2.1
      have b1 : rd σ 1 9 = rd σ 121 2 := h3.1
      have b3 := h3.2.2.1
      have hix := ix_to (x := n) (by omega)
      have hl := canN_le (n := ix n) hO.2.2.1
      have kA : (1000000 : Int32).toInt = 1000000 := rfl
      obtain ⟨T, hT2⟩ : ∃ T : Nat, rd σ 121 2 = T := ⟨(rd σ 121 2).toNat, by omega⟩
      have hTn : (rd σ 121 2).toNat = T := by omega
      rw [hTn] at h
      have lp : ∀ (r m : Nat) (σ' : Sg) (x3 x4 x5 : Int32) (v6 : Value), m + r = T → x5.toInt = m → Fi FW1 σ σ' → x3.toInt = (whoS lws (EE lws σ) (mc σ 121) (ix n) m).1 → x4.toInt = (whoS lws (EE lws σ) (mc σ 121) (ix n) m).2 → bF_mildestText_17 true NOB (wp true 11) (pI (bX_whose_15 true NOB (wp true 12) Φ (kX_whose 12 Φ)) [.ref 0, .int n] []) (kF_mildestText 11 (pI (bX_whose_15 true NOB (wp true 12) Φ (kX_whose 12 Φ)) [.ref 0, .int n] [])) [.ref 111, .int n, .int (gI σ 1 10), .int x3, .int x4, .int x5, v6] [] σ' := by
        intro r
        induction r with
        | zero =>
          intro m σ' x3 x4 x5 v6 hm h5 hF e3 e4
          have e9 : (gI σ' 1 9).toInt = T := by rw [hF.1 1 9 (FW1n (by omega))]; exact b1.trans hT2
          simp only [pI, pL, pR, pV, i10, ↓reduceIte, eF_mildestText_17]
          simp only [ile, e9, h5]
          rw [if_pos (by omega)]
          simp only [pI, pL, pR, pV, i10, ↓reduceIte, eF_mildestText_75]
          simp only [pI, pL, pR, pV, i10, ↓reduceIte, eX_whose_15, eX_whose_19]
          obtain rfl : m = T := by omega
          refine h _ _ ⟨fun b k q => ?_, hF.2⟩ e3
          by_cases e : b = 1 ∧ k = 10
          · rw [e.1, e.2, gIeq]
          · rw [gI_sI, if_neg e]
            refine hF.1 b k (not_inS (fun e1 he z => ?_))
            rcases List.mem_append.mp he with m | m
            · obtain ⟨x, lo, hi⟩ := e1
              obtain ⟨z1, z2⟩ := z
              have z1 : x = b := z1
              subst z1
              rw [inS_r m z2] at q
              cases q
            · rw [List.mem_singleton] at m
              subst m
              obtain ⟨z1, z2, z3⟩ := z
              have z1 : 1 = b := z1
              have z2 : 10 ≤ k := z2
              have z3 : k < 11 := z3
              exact e ⟨z1.symm, by omega⟩
        | succ r ih =>
          intro m σ' x3 x4 x5 v6 hm h5 hF e3 e4
          have e9 : (gI σ' 1 9).toInt = T := by rw [hF.1 1 9 (FW1n (by omega))]; exact b1.trans hT2
          have h51 : (x5 + 1).toInt = ((m + 1 : Nat) : Int) := by rw [tq1 x5 (by omega), h5]; omega
          have eS : whoS lws (EE lws σ) (mc σ 121) (ix n) (m + 1) = if tkN (ER lws (EE lws σ) m) (mc σ 121) (canN (mc σ 121) (ix n)) < (whoS lws (EE lws σ) (mc σ 121) (ix n) m).2 then ((m : Int), tkN (ER lws (EE lws σ) m) (mc σ 121) (canN (mc σ 121) (ix n))) else whoS lws (EE lws σ) (mc σ 121) (ix n) m := rfl
          have hOm : Ok (ER lws (EE lws σ) m) (mc σ 121) := hO
          have hTm : TkOk (ER lws (EE lws σ) m) (mc σ 121) := hT
          have hCE : CE (sI σ' 1 10 x5) (ER lws (EE lws σ) m) := by
            have g := (R_by hR (t := x5) (by omega)).ce
            rw [EE_by h5] at g
            have r1 : ∀ k, (k = 4 ∨ k = 6 ∨ k = 9) → rd (sI σ' 1 10 x5) 1 k = rd (sI (sI σ 1 10 x5) 121 3 x5) 1 k := fun k hk => by rw [rdne2 (by omega), rdne (by omega), rdne2 (by omega), hF.rd (FW1n (by omega))]
            refine CE.ei ⟨r1 4 (by omega), r1 6 (by omega), r1 9 (by omega), by rw [rdeq, rdne (by omega), rdeq]⟩ (fun b k hb => ?_) g
            rw [rdne (by omega), rdne (by omega), rdne (by omega), hF.rd (FW1n (by omega))]
          have hrc1 : rc (sI σ' 1 10 x5) 2 = mc σ 121 := by
            rw [rc_ne (by omega), ← hrc]
            funext k
            unfold rc
            by_cases z : k < 44
            · rw [if_pos z, if_pos z, hF.rd (FW1n (by omega))]
            · rw [if_neg z, if_neg z]
          have h441 : rd (sI σ' 1 10 x5) 2 44 = rd σ 2 44 := by rw [rdne (by omega), hF.rd (FW1n (by omega))]
          have hF1 : Fi FW1 σ (sI σ' 1 10 x5) := hF.tr (Fr.fi (Fr.sI (by decide)))
          simp only [pI, pL, pR, pV, i10, ↓reduceIte, eF_mildestText_17]
          simp only [ile, e9, h5]
          rw [if_neg (by omega)]
          generalize sI σ' 1 10 x5 = σa at hCE hrc1 h441 hF1 ⊢
          refine sF_keepNow (fun σ1 k1 k2 => ?_)
          simp only [pI, pL, pR, pV, i10, ↓reduceIte, eF_mildestText_42]
          refine sF_upTo hOm hTm (keep_ce k1 hCE) ((keep_rc k1).trans hrc1) (by rw [k1.rd rfl, h441]; exact hw44) (by omega) (fun σ2 v j k3 hj hv hc2 hq => ?_)
          simp only [pI, pL, pR, pV, i10, ↓reduceIte, eF_mildestText_49]
          refine sF_giveBack (fun σ3 k4 k5 => ?_)
          have fi := back_fi k1 k2 k3 k4 k5 FDsub FD112
          have hb := (pasN_ok hOm hTm j (by omega)).2.2.2
          have hv2 : v.toInt = tkN (ER lws (EE lws σ) m) (mc σ 121) (canN (mc σ 121) (ix n)) := by
            rcases hq with z | z
            · rw [hv, z]
            · rw [kA] at z
              omega
          simp only [pI, pL, pR, pV, i10, ↓reduceIte, eF_mildestText_55]
          simp only [ile, e4, hv2]
          have hF3 : Fi FW1 σ σ3 := hF1.tr (fi.mo (fun e he => List.mem_append_left _ he))
          split
          next z =>
            rw [if_neg (by omega)] at eS
            simp only [pI, pL, pR, pV, i10, ↓reduceIte, eF_mildestText_69]
            exact hF_mildestText_17 _ _ _ _ _ (ih (m + 1) σ3 x3 x4 (x5 + 1) _ (by omega) h51 hF3 (by rw [eS]; exact e3) (by rw [eS]; exact e4))
          next z =>
            rw [if_pos (by omega)] at eS
            simp only [pI, pL, pR, pV, i10, ↓reduceIte, eF_mildestText_69]
            exact hF_mildestText_17 _ _ _ _ _ (ih (m + 1) σ3 x5 v (x5 + 1) _ (by omega) h51 hF3 (by rw [eS]; exact h5) (by rw [eS]; exact hv2))
      exact lp T 0 σ (-1) 1000000 0 _ (by omega) rfl Fr.rf.fi rfl rfl
    · rw [if_neg q] at h
      simp only [pI, pL, pR, pV, i10, ↓reduceIte, eX_whose_4, eX_whose_18, eX_whose_19]
      exact h _ _ Fr.rf.fi rfl
  · apply wM_whose
    simp only [pI, pL, pR, pV, i10, ↓reduceIte, eM_whose_0]
    unfold qWhose at h
    refine sM_isIn (fun q => ?_) (fun q => ?_)
    · rw [tl1, show (60 : Int32).toInt = 60 from rfl] at q
      rw [if_pos q] at h
      simp only [pI, pL, pR, pV, i10, ↓reduceIte, eM_whose_7, eM_whose_12]
      refine ⟨⟨by decide, by decide⟩, ?_⟩
      have hO := hR.ok
      have hT := hR.tk
      have hfl := hR.fl
      have b3 := hR.1.2.2.1.2.2.1
      have hix := ix_to (x := n) (by omega)
      have hl := canN_le (n := ix n) hO.2.2.1
      have kA : (1000000000 : Int32).toInt = 1000000000 := rfl
      obtain ⟨T, hT2⟩ : ∃ T : Nat, rd σ 121 2 = T := ⟨(rd σ 121 2).toNat, by omega⟩
      have hTn : (rd σ 121 2).toNat = T := by omega
      rw [hTn] at h
      have lp : ∀ (r m : Nat) (σ' : Sg) (x3 x4 x5 : Int32) (v6 : Value), m + r = T → x5.toInt = m → Fi FW2 σ σ' → x3.toInt = (whoS lws (EE lws σ) (mc σ 121) (ix n) m).1 → (x4.toInt = (whoS lws (EE lws σ) (mc σ 121) (ix n) m).2 ∨ ((whoS lws (EE lws σ) (mc σ 121) (ix n) m).2 = 1000000 ∧ x4.toInt = 1000000000)) → bM_whose_29 true NOB (wp true 12) Φ (kM_whose 12 Φ) [.ref 120, .int n, .int (gI σ 121 (ix 3)), .int x3, .int x4, .int x5, v6] [] σ' := by
        intro r
        induction r with
        | zero =>
          intro m σ' x3 x4 x5 v6 hm h5 hF e3 e4
          have e2 : (gI σ' 121 (ix 2)).toInt = T := by rw [show ix 2 = 2 from rfl, hF.1 121 2 (FW2n (by omega))]; exact hT2
          simp only [pI, pL, pR, pV, i10, ↓reduceIte, eM_whose_29, eM_whose_78]
          simp only [ile, e2, h5]
          rw [if_pos (by omega)]
          obtain rfl : m = T := by omega
          refine ⟨⟨by decide, by decide⟩, ⟨by decide, by decide⟩, h _ _ ⟨fun b k q => ?_, hF.2⟩ e3⟩
          rw [show ix 3 = 3 from rfl]
          by_cases e : b = 121 ∧ k = 3
          · rw [e.1, e.2, gIeq]
          · rw [gI_sI, if_neg e]
            refine hF.1 b k (not_inS (fun e1 he z => ?_))
            rcases List.mem_append.mp he with m | m
            · obtain ⟨x, lo, hi⟩ := e1
              obtain ⟨z1, z2⟩ := z
              have z1 : x = b := z1
              subst z1
              rw [inS_r m z2] at q
              cases q
            · rw [List.mem_singleton] at m
              subst m
              obtain ⟨z1, z2, z3⟩ := z
              have z1 : 121 = b := z1
              have z2 : 3 ≤ k := z2
              have z3 : k < 4 := z3
              exact e ⟨z1.symm, by omega⟩
        | succ r ih =>
          intro m σ' x3 x4 x5 v6 hm h5 hF e3 e4
          have e2 : (gI σ' 121 (ix 2)).toInt = T := by rw [show ix 2 = 2 from rfl, hF.1 121 2 (FW2n (by omega))]; exact hT2
          have h51 : (x5 + 1).toInt = ((m + 1 : Nat) : Int) := by rw [tq1 x5 (by omega), h5]; omega
          have eS : whoS lws (EE lws σ) (mc σ 121) (ix n) (m + 1) = if tkN (ER lws (EE lws σ) m) (mc σ 121) (canN (mc σ 121) (ix n)) < (whoS lws (EE lws σ) (mc σ 121) (ix n) m).2 then ((m : Int), tkN (ER lws (EE lws σ) m) (mc σ 121) (canN (mc σ 121) (ix n))) else whoS lws (EE lws σ) (mc σ 121) (ix n) m := rfl
          have hOm : Ok (ER lws (EE lws σ) m) (mc σ 121) := hO
          have hTm : TkOk (ER lws (EE lws σ) m) (mc σ 121) := hT
          have hME : ME (sI σ' 121 3 x5) (ER lws (EE lws σ) m) := by
            have g := (R_by hR (t := x5) (by omega)).me
            rw [EE_by h5] at g
            have r1 : ∀ k, k ≠ 3 → rd (sI σ' 121 3 x5) 121 k = rd (sI (sI σ 1 10 x5) 121 3 x5) 121 k := fun k hk => by rw [rdne2 hk, rdne2 hk, rdne (by omega), hF.rd (FW2n (by omega))]
            refine ME.of ⟨r1 0 (by omega), r1 1 (by omega), by rw [rdeq, rdeq]⟩ (fun w hw => r1 _ (by omega)) (fun v hv => r1 _ (by omega)) (fun k => ?_) g
            rw [rdne (by omega), rdne (by omega), rdne (by omega), hF.rd (FW2n (by omega))]
          have hmc1 : mc (sI σ' 121 3 x5) 121 = mc σ 121 := by
            have : mc (sI σ' 121 3 x5) 121 = mc σ' 121 := mc_sIo (by decide)
            rw [this]
            funext k
            unfold mc
            by_cases z : k < 44
            · have hm3 : mix k ≠ 3 := (by decide : ∀ k, k < 44 → mix k ≠ 3) k z
              rw [if_pos z, if_pos z, hF.rd (FW2n (by omega))]
            · rw [if_neg z, if_neg z]
          have hfl1 : rd (sI σ' 121 3 x5) 120 24 = 1 := by rw [rdne (by omega), hF.rd (FW2n (by omega))]; exact hfl
          have hF1 : Fi FW2 σ (sI σ' 121 3 x5) := hF.tr (Fr.fi (Fr.sI (by decide)))
          simp only [pI, pL, pR, pV, i10, ↓reduceIte, eM_whose_29]
          rw [show ix 3 = 3 from rfl]
          simp only [ile, e2, h5]
          rw [if_neg (by omega)]
          refine ⟨⟨by decide, by decide⟩, ⟨by decide, by decide⟩, ?_⟩
          generalize sI σ' 121 3 x5 = σa at hME hmc1 hfl1 hF1 ⊢
          refine sM_takenG hOm hTm hME hmc1 hfl1 (by omega) (fun σ3 v fi hv2 => ?_)
          have hb := (pasN_ok hOm hTm (canN (mc σ 121) (ix n)) hl.1).2.2.2
          simp only [pI, pL, pR, pV, i10, ↓reduceIte, eM_whose_53]
          have hF3 : Fi FW2 σ σ3 := hF1.tr (fi.mo (fun e he => List.mem_append_left _ he))
          simp only [ilt, hv2]
          split
          next z =>
            rw [if_pos (by omega)] at eS
            simp only [pI, pL, pR, pV, i10, ↓reduceIte, eM_whose_65, eM_whose_72]
            exact hM_whose_29 _ _ _ _ _ (ih (m + 1) σ3 x5 v (x5 + 1) _ (by omega) h51 hF3 (by rw [eS]; exact h5) (Or.inl (by rw [eS]; exact hv2)))
          next z =>
            rw [if_neg (by omega)] at eS
            simp only [pI, pL, pR, pV, i10, ↓reduceIte, eM_whose_72]
            exact hM_whose_29 _ _ _ _ _ (ih (m + 1) σ3 x3 x4 (x5 + 1) _ (by omega) h51 hF3 (by rw [eS]; exact e3) (by rw [eS]; exact e4))
      exact lp T 0 σ (-1) 1000000000 0 _ (by omega) rfl Fr.rf.fi rfl (Or.inr ⟨rfl, rfl⟩)
    · rw [tl1, show (60 : Int32).toInt = 60 from rfl] at q
      rw [if_neg q] at h
      simp only [pI, pL, pR, pV, i10, ↓reduceIte, eM_whose_7]
      exact h _ _ Fr.rf.fi rfl
