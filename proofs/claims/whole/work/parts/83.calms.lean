/-! CALMS -/
def clmS (E : En) (c : Co) : Nat → Nat × Nat × Nat
  | 0 => (0, 0, 0)
  | n + 1 => if (passF E (pasN E c n)).2.1 = -1 then ((clmS E c n).1 + 1, (clmS E c n).2.1 + 1, max (clmS E c n).2.2 ((clmS E c n).2.1 + 1)) else ((clmS E c n).1, 0, (clmS E c n).2.2)
theorem clmS_b {E : En} {c : Co} : ∀ n, (clmS E c n).1 ≤ n ∧ (clmS E c n).2.1 ≤ n ∧ (clmS E c n).2.2 ≤ n
  | 0 => ⟨Nat.le_refl _, Nat.le_refl _, Nat.le_refl _⟩
  | n + 1 => by
    obtain ⟨i1, i2, i3⟩ := clmS_b (E := E) (c := c) n
    have eS : clmS E c (n + 1) = if (passF E (pasN E c n)).2.1 = -1 then ((clmS E c n).1 + 1, (clmS E c n).2.1 + 1, max (clmS E c n).2.2 ((clmS E c n).2.1 + 1)) else ((clmS E c n).1, 0, (clmS E c n).2.2) := rfl
    rw [eS]
    split
    · refine ⟨?_, ?_, ?_⟩ <;> dsimp only <;> omega
    · refine ⟨?_, ?_, ?_⟩ <;> dsimp only <;> omega
abbrev FCm : Ls := FD ++ [(111, 5, 7)]
theorem FCmd {σ σ' : Sg} (h : Fr FD σ σ') : Fr FCm σ σ' := h.mo (fun e he => List.mem_append_left _ he)
theorem back_fj {σ σ1 σ2 σ3 : Sg} {S : Ls} (h1 : Fr [(112, 0, 75)] σ σ1) (h2 : ∀ k, k < 75 → gI σ1 112 k = gI σ 2 k) (h3 : Fr S σ1 σ2) (h4 : Fr [(2, 0, 75)] σ2 σ3) (h5 : ∀ k, k < 75 → gI σ3 2 k = gI σ2 112 k) (hS : ∀ a k, inS S a k = true → inS XS a k = true ∨ (a = 2 ∧ k < 75)) (h112 : ∀ k, k < 75 → inS S 112 k = false) : Fi XS σ σ3 := by
  refine ⟨fun a k q => ?_, by rw [h4.2.2.2, h3.2.2.2, h1.2.2.2]⟩
  by_cases e2 : a = 2 ∧ k < 75
  · obtain ⟨rfl, hk⟩ := e2
    rw [h5 k hk, h3.1 112 k (h112 k hk), h2 k hk]
  · have n4 : inS [(2, 0, 75)] a k = false := by
      apply Bool.eq_false_iff.mpr
      intro z
      obtain ⟨e, he, e1, e2', e3⟩ := inS_ex z
      rw [List.mem_singleton] at he
      subst he
      exact e2 ⟨e1.symm, e3⟩
    have n3 : inS S a k = false := by
      apply Bool.eq_false_iff.mpr
      intro z
      rcases hS a k z with m | m
      · rw [m] at q; cases q
      · exact e2 m
    have n1 : inS [(112, 0, 75)] a k = false := by
      apply Bool.eq_false_iff.mpr
      intro z
      obtain ⟨e, he, e1, e2', e3⟩ := inS_ex z
      rw [List.mem_singleton] at he
      subst he
      have e1 : 112 = a := e1
      subst e1
      rw [inS_r (lo := 0) (hi := 75) (by decide) ⟨e2', e3⟩] at q
      cases q
    rw [h4.1 a k n4, h3.1 a k n3, h1.1 a k n1]
theorem FCmsub : ∀ a k, inS FCm a k = true → inS XS a k = true ∨ (a = 2 ∧ k < 75) := fun a k q => by
  obtain ⟨e, he, e1, e2, e3⟩ := inS_ex q
  have key : ∀ e, e ∈ FCm → e ∈ XS ∨ e = (110, 2, 5) ∨ e = (111, 5, 7) ∨ (e.1 = 2 ∧ e.2.2 ≤ 75) := by decide
  rcases key e he with m | m | m | m
  · obtain ⟨x, lo, hi⟩ := e
    have e1 : x = a := e1
    subst e1
    exact Or.inl (inS_r m ⟨e2, e3⟩)
  · subst m
    have e1 : 110 = a := e1
    subst e1
    exact Or.inl (inS_r (lo := 2) (hi := 5) (by decide) ⟨e2, e3⟩)
  · subst m
    have e1 : 111 = a := e1
    subst e1
    have e2 : 5 ≤ k := e2
    have e3 : k < 7 := e3
    exact Or.inl (inS_r (lo := 3) (hi := 9) (by decide) ⟨by omega, by omega⟩)
  · exact Or.inr ⟨by omega, by omega⟩
theorem CEcm {σ σ' : Sg} {E : En} (h : Fr FCm σ σ') (g : CE σ E) : CE σ' E := CE.fr h ⟨rfl, rfl, rfl, rfl⟩ (fun a k q => not_inS (fun e he z => by
  have : ∀ e, e ∈ FCm → e.1 = 109 ∨ e.1 = 2 ∨ e.1 = 110 ∨ e.1 = 111 := by decide
  have := this e he
  omega)) g
theorem lF_calms {d : Nat} {Φ : Po} {E : En} {c : Co} {x1 canI : Int32} {σ0 : Sg} {can : Nat} (hO : Ok E c) (hT : TkOk E c) (hE : CE σ0 E) (h44 : 0 ≤ rd σ0 2 44 ∧ rd σ0 2 44 ≤ 9999) (hcan : canI.toInt = can) (hcn : (can : Int) ≤ 9999 - c 42) (hc60 : can ≤ 60)
    (h : ∀ σ2 σ3 : Sg, Fr FCm σ0 σ2 → rd σ2 111 5 = (clmS E c can).1 → rd σ2 111 6 = (clmS E c can).2.2 → Fr [(2, 0, 75)] σ2 σ3 → (∀ k, k < 75 → gI σ3 2 k = gI σ2 112 k) → Φ none σ3) :
    ∀ (n i : Nat) (σ : Sg) (x2 x4 : Int32), i + n = can → x4.toInt = i → Fr FCm σ0 σ → rc σ 2 = pasN E c i → rd σ 2 44 = rd σ0 2 44 + i → rd σ 111 5 = (clmS E c i).1 → x2.toInt = (clmS E c i).2.1 → rd σ 111 6 = (clmS E c i).2.2 → bF_countCalms_25 true NOB (wp true (d + 6)) Φ (kF_countCalms (d + 6) Φ) [.ref 111, .int x1, .int x2, .int canI, .int x4] [] σ := by
  intro n
  induction n with
  | zero =>
    intro i σ x2 x4 hi h4 hF hc hw h5 h2 h6
    simp only [pI, pL, pR, pV, i10, ↓reduceIte, eF_countCalms_25]
    simp only [ile, hcan, h4]
    rw [if_pos (by omega)]
    simp only [pI, pL, pR, pV, i10, ↓reduceIte, eF_countCalms_98]
    refine sF_giveBack (fun σ3 g4 g5 => ?_)
    simp only [pI, pL, pR, pV, i10, ↓reduceIte, eF_countCalms_102]
    obtain rfl : i = can := by omega
    exact h σ σ3 hF h5 h6 g4 g5
  | succ n ih =>
    intro i σ x2 x4 hi h4 hF hc hw h5 h2 h6
    obtain ⟨o1, o2, o3, o4⟩ := pasN_ok hO hT i (by omega)
    obtain ⟨b1, b2, b3⟩ := clmS_b (E := E) (c := c) i
    have eS : clmS E c (i + 1) = if (passF E (pasN E c i)).2.1 = -1 then ((clmS E c i).1 + 1, (clmS E c i).2.1 + 1, max (clmS E c i).2.2 ((clmS E c i).2.1 + 1)) else ((clmS E c i).1, 0, (clmS E c i).2.2) := rfl
    simp only [pI, pL, pR, pV, i10, ↓reduceIte, eF_countCalms_25]
    simp only [ile, hcan, h4]
    rw [if_neg (by omega)]
    refine sD_pass o1 (CEcm hF hE) hc o2 (by omega) (by rw [hw]; omega) (fun σ2 hF2 hc2 hw2 hf2 ht2 hP => ?_)
    have h41 : (x4 + 1).toInt = ((i + 1 : Nat) : Int) := by rw [tq1 x4 (by omega), h4]; omega
    have hW : rd σ2 2 44 = rd σ0 2 44 + (i + 1 : Nat) := by rw [hP.1, hw]; omega
    have g5 : (gI σ2 111 5).toInt = (clmS E c i).1 := by rw [hF2.1 _ _ (inFD (by omega))]; exact h5
    have g6 : (gI σ2 111 6).toInt = (clmS E c i).2.2 := by rw [hF2.1 _ _ (inFD (by omega))]; exact h6
    have hF2c : Fr FCm σ0 σ2 := hF.tr (FCmd hF2)
    -- behind the two questions
    have fin : ∀ (r q : Int32) (R Q : Nat), r.toInt = R → q.toInt = Q → R ≤ i + 1 → Q ≤ 1 → ((clmS E c i).1 + Q = (clmS E c (i + 1)).1 ∧ R = (clmS E c (i + 1)).2.1 ∧ max (clmS E c i).2.2 R = (clmS E c (i + 1)).2.2) → bF_countCalms_76 true NOB (wp true (d + 6)) Φ (kF_countCalms (d + 6) Φ) [.ref 111, .int x1, .int r, .int canI, .int x4] [.int q, .int (gI σ2 111 5), .ref 111] σ2 := by
      intro r q R Q hr hq hR1 hQ1 hE3
      simp only [pI, pL, pR, pV, i10, ↓reduceIte, eF_countCalms_76]
      refine sJ_max (fun m hm => ?_)
      rw [gIne2 (by omega), g6, hr] at hm
      simp only [pI, pL, pR, pV, i10, ↓reduceIte, eF_countCalms_89]
      refine hF_countCalms_25 _ _ _ _ _ (ih (i + 1) _ r (x4 + 1) (by omega) h41 (hF2c.tr ((Fr.sI (by decide)).tr (Fr.sI (by decide)))) ?_ ?_ ?_ ?_ ?_)
      · rw [rc_ne (by omega), rc_ne (by omega)]; exact hc2
      · rw [rdne (by omega), rdne (by omega)]; exact hW
      · rw [rdne2 (by omega), rdeq, tP (by rw [g5, hq]; omega), g5, hq, ← hE3.1]; omega
      · rw [hr, hE3.2.1]
      · rw [rdeq, hm, ← hE3.2.2]; omega
    simp only [pI, pL, pR, pV, i10, ↓reduceIte, eF_countCalms_38]
    refine sD_wasCalm hw2 (fun y => ?_) (fun y => ?_)
    · rw [if_pos y] at eS
      simp only [pI, pL, pR, pV, i10, ↓reduceIte, eF_countCalms_45, eF_countCalms_55]
      refine sD_wasCalm hw2 (fun _ => ?_) (fun z => absurd y z)
      simp only [pI, pL, pR, pV, i10, ↓reduceIte, eF_countCalms_68]
      refine fin (x2 + 1) 1 ((clmS E c i).2.1 + 1) 1 (by rw [tq1 x2 (by omega), h2]; omega) rfl (by omega) (by omega) ?_
      rw [eS]
      exact ⟨rfl, rfl, rfl⟩
    · rw [if_neg y] at eS
      simp only [pI, pL, pR, pV, i10, ↓reduceIte, eF_countCalms_45, eF_countCalms_54, eF_countCalms_55]
      refine sD_wasCalm hw2 (fun z => absurd z y) (fun _ => ?_)
      simp only [pI, pL, pR, pV, i10, ↓reduceIte, eF_countCalms_68, eF_countCalms_75]
      refine fin 0 0 0 0 rfl rfl (by omega) (by omega) ?_
      rw [eS]
      exact ⟨rfl, rfl, by dsimp only; omega⟩
theorem lM_calms {d : Nat} {Φ : Po} {E : En} {c : Co} {x1 x2 : Int32} {σ0 : Sg} {N : Nat} (hO : Ok E c) (hT : TkOk E c) (hE : ME σ0 E) (hi0 : rd σ0 120 24 = 0) (hN : x1.toInt = N) (hN60 : N ≤ 60)
    (h : ∀ (σ2 σ3 : Sg) (v : Int32), Fr FMg σ0 σ2 → v.toInt = (if x2 = 0 then (clmS E c (canN c N)).1 else (clmS E c (canN c N)).2.2 : Nat) → Fr [(121, 8, 84), (120, 24, 25)] σ2 σ3 → (∀ k, 8 ≤ k → k < 84 → gI σ3 121 k = gI σ2 129 k) → gI σ3 120 24 = 1 → Φ (some (.int v)) σ3) :
    ∀ (n i : Nat) (σ : Sg) (x3 x4 x5 x6 : Int32), i + n = N → x6.toInt = i → Fr FMg σ0 σ → x3.toInt = (clmS E c (canN c i)).1 → x4.toInt = (clmS E c (canN c i)).2.1 → x5.toInt = (clmS E c (canN c i)).2.2 → mc σ 121 = pasN E c (canN c i) → rd σ 120 28 = tkN E c (canN c i) → rd σ 120 24 = 0 → bM_calms_27 true NOB (wp true (d + 11)) Φ (kM_calms (d + 11) Φ) [.ref 120, .int x1, .int x2, .int x3, .int x4, .int x5, .int x6] [] σ := by
  intro n
  induction n with
  | zero =>
    intro i σ x3 x4 x5 x6 hi h6 hF h3 h4 h5 hc ht hz
    simp only [pI, pL, pR, pV, i10, ↓reduceIte, eM_calms_27]
    simp only [ile, hN, h6]
    rw [if_pos (by omega)]
    simp only [pI, pL, pR, pV, i10, ↓reduceIte, eM_calms_99]
    refine sM_putBack (fun σ3 g4 g5 g6 => ?_)
    simp only [pI, pL, pR, pV, i10, ↓reduceIte, eM_calms_103]
    obtain rfl : i = N := by omega
    split
    next z =>
      rw [if_pos z] at h
      simp only [pI, pL, pR, pV, i10, ↓reduceIte, eM_calms_112, eM_calms_113]
      exact h σ σ3 x3 hF h3 g4 g5 g6
    next z =>
      rw [if_neg z] at h
      simp only [pI, pL, pR, pV, i10, ↓reduceIte, eM_calms_113]
      exact h σ σ3 x5 hF h5 g4 g5 g6
  | succ n ih =>
    intro i σ x3 x4 x5 x6 hi h6 hF h3 h4 h5 hc ht hz
    have hl := canN_le (n := i) hO.2.2.1
    obtain ⟨o1, o2, o3, o4⟩ := pasN_ok hO hT (canN c i) (by omega)
    obtain ⟨s1, s2⟩ := canN_s hO hT i
    obtain ⟨b1, b2, b3⟩ := clmS_b (E := E) (c := c) (canN c i)
    have h61 : (x6 + 1).toInt = ((i + 1 : Nat) : Int) := by rw [tq1 x6 (by omega), h6]; omega
    simp only [pI, pL, pR, pV, i10, ↓reduceIte, eM_calms_27]
    simp only [ile, hN, h6]
    rw [if_neg (by omega)]
    refine sM_goOn o1 (MEg hF hE) hc o2 hz (by rw [ht]; omega) (fun y => ?_) (fun y σ2 hF2 hc2 hw hf ht2 hs hz2 => ?_)
    · simp only [pI, pL, pR, pV, i10, ↓reduceIte, eM_calms_37, eM_calms_93]
      have e := s1 y
      exact hM_calms_27 _ _ _ _ _ (ih (i + 1) σ x3 x4 x5 (x6 + 1) (by omega) h61 hF (by rw [e]; exact h3) (by rw [e]; exact h4) (by rw [e]; exact h5) (by rw [e]; exact hc) (by rw [e]; exact ht) hz)
    · have e := (s2 (by omega)).1
      have eS : clmS E c (canN c i + 1) = if (passF E (pasN E c (canN c i))).2.1 = -1 then ((clmS E c (canN c i)).1 + 1, (clmS E c (canN c i)).2.1 + 1, max (clmS E c (canN c i)).2.2 ((clmS E c (canN c i)).2.1 + 1)) else ((clmS E c (canN c i)).1, 0, (clmS E c (canN c i)).2.2) := rfl
      have hc3 : mc σ2 121 = pasN E c (canN c (i + 1)) := by rw [e]; exact hc2
      have ht3 : rd σ2 120 28 = tkN E c (canN c (i + 1)) := by rw [e, hs, ht]; rfl
      have cw : (gI σ2 120 25 = -1) = ((passF E (pasN E c (canN c i))).2.1 = -1) := by rw [ieq, show (gI σ2 120 25).toInt = _ from hw]; rfl
      simp only [pI, pL, pR, pV, i10, ↓reduceIte, eM_calms_37, eM_calms_43]
      simp only [cw]
      have fin : ∀ (x3' x4' x5' : Int32), x3'.toInt = (clmS E c (canN c i + 1)).1 → x4'.toInt = (clmS E c (canN c i + 1)).2.1 → x5'.toInt = (clmS E c (canN c i + 1)).2.2 → bM_calms_93 true NOB (wp true (d + 11)) Φ (kM_calms (d + 11) Φ) [.ref 120, .int x1, .int x2, .int x3', .int x4', .int x5', .int x6] [] σ2 := by
        intro x3' x4' x5' k3 k4 k5
        simp only [pI, pL, pR, pV, i10, ↓reduceIte, eM_calms_93]
        exact hM_calms_27 _ _ _ _ _ (ih (i + 1) σ2 x3' x4' x5' (x6 + 1) (by omega) h61 (hF.tr hF2) (by rw [e]; exact k3) (by rw [e]; exact k4) (by rw [e]; exact k5) hc3 ht3 hz2)
      split
      next y2 =>
        rw [if_pos y2] at eS
        have k4 : (x4 + 1).toInt = ((clmS E c (canN c i)).2.1 + 1 : Nat) := by rw [tq1 x4 (by omega), h4]; omega
        have k3 : (x3 + 1).toInt = ((clmS E c (canN c i)).1 + 1 : Nat) := by rw [tq1 x3 (by omega), h3]; omega
        simp only [pI, pL, pR, pV, i10, ↓reduceIte, eM_calms_59]
        simp only [cw]
        rw [if_pos y2]
        simp only [pI, pL, pR, pV, i10, ↓reduceIte, eM_calms_75]
        simp only [ile, k4, h5]
        split
        next u =>
          simp only [pI, pL, pR, pV, i10, ↓reduceIte, eM_calms_89, eM_calms_91]
          refine fin _ _ _ (by rw [k3, eS]) (by rw [k4, eS]) ?_
          rw [h5, eS]
          dsimp only
          omega
        next u =>
          simp only [pI, pL, pR, pV, i10, ↓reduceIte, eM_calms_91]
          refine fin _ _ _ (by rw [k3, eS]) (by rw [k4, eS]) ?_
          rw [k4, eS]
          dsimp only
          omega
      next y2 =>
        rw [if_neg y2] at eS
        simp only [pI, pL, pR, pV, i10, ↓reduceIte, eM_calms_58, eM_calms_59]
        simp only [cw]
        rw [if_neg y2]
        simp only [pI, pL, pR, pV, i10, ↓reduceIte, eM_calms_74, eM_calms_75]
        have k3 : (x3 + 0).toInt = (clmS E c (canN c i)).1 := by rw [tP (by rw [tl0]; omega), h3, tl0]; omega
        simp only [ile, h5, show (0 : Int32).toInt = 0 from rfl]
        rw [if_pos (by omega)]
        simp only [pI, pL, pR, pV, i10, ↓reduceIte, eM_calms_89, eM_calms_91]
        exact fin _ _ _ (by rw [k3, eS]) (by rw [eS]; rfl) (by rw [h5, eS])
def qCalms (n r : Int32) (E : En) (c : Co) (_ : Nat → Int) : Int := if 1 ≤ n.toInt ∧ n.toInt ≤ 60 then ((if r = 0 then (clmS E c (canN c (ix n))).1 else (clmS E c (canN c (ix n))).2.2 : Nat) : Int) else -1
theorem p_calms (n r : Int32) : PairI Rel nX_calms nM_calms [.int n, .int r] := by
  refine qryJ (qCalms n r) (fun lws σ Φ hR h => ?_) (fun lws σ Φ hR h => ?_)
  · apply wX_calms
    simp only [pI, pL, pR, pV, i10, ↓reduceIte, eX_calms_0]
    unfold qCalms at h
    refine sX_isFar (fun q => ?_) (fun q => ?_)
    · rw [if_pos q] at h
      simp only [pI, pL, pR, pV, i10, ↓reduceIte, eX_calms_4, eX_calms_9]
      apply wF_countCalms
      simp only [pI, pL, pR, pV, i10, ↓reduceIte, eF_countCalms_0]
      have hO := hR.ok
      have hT := hR.tk
      have hl := canN_le (n := ix n) hO.2.2.1
      have hix := ix_to (x := n) (by omega)
      have hFa : Fr [(111, 5, 7)] σ (sI (sI σ 111 5 0) 111 6 0) := (Fr.sI (by decide)).tr (Fr.sI (by decide))
      have hFx : Fr XS σ (sI (sI σ 111 5 0) 111 6 0) := (Fr.sI (by decide)).tr (Fr.sI (by decide))
      have hRa := hR.xs hFx
      have e121 := xs121 hFx.fi
      have eE : EE lws (sI (sI σ 111 5 0) 111 6 0) = EE lws σ := by unfold EE; rw [e121]
      have em : mc (sI (sI σ 111 5 0) 111 6 0) 121 = mc σ 121 := by unfold mc; rw [e121]
      have hrc := hRa.rc
      have hce := hRa.ce
      have hw44 := hRa.w44
      rw [em] at hrc
      rw [eE] at hce
      have z5 : rd (sI (sI σ 111 5 0) 111 6 0) 111 5 = 0 := by rw [rdne2 (by omega), rdeq]; rfl
      have z6 : rd (sI (sI σ 111 5 0) 111 6 0) 111 6 = 0 := by rw [rdeq]; rfl
      generalize sI (sI σ 111 5 0) 111 6 0 = σa at *
      refine sF_canPass hrc hO.2.2.1 (by omega) (fun v hv => ?_)
      simp only [pI, pL, pR, pV, i10, ↓reduceIte, eF_countCalms_17]
      refine sF_keepNow (fun σ1 h1 h2 => ?_)
      simp only [pI, pL, pR, pV, i10, ↓reduceIte, eF_countCalms_22]
      refine lF_calms hO hT (keep_ce h1 hce) (by rw [h1.rd rfl]; exact hw44) hv hl.1 (by omega) (fun σ2 σ3 h3 g5 g6 h4 h5 => ?_) (canN (mc σ 121) (ix n)) 0 σ1 0 0 (by omega) rfl Fr.rf ((keep_rc h1).trans hrc) (by omega) (by rw [h1.rd rfl, z5]; rfl) rfl (by rw [h1.rd rfl, z6]; rfl)
      have fi := back_fj h1 h2 h3 h4 h5 FCmsub (fun k hk => not_inS (fun e he z => by
        have : ∀ e, e ∈ FCm → e.1 ≠ 112 := by decide
        exact this e he z.1))
      simp only [pI, pL, pR, pV, i10, ↓reduceIte, eX_calms_17]
      have r5 : (gI σ3 111 5).toInt = (clmS (EE lws σ) (mc σ 121) (canN (mc σ 121) (ix n))).1 := by rw [h4.1 _ _ rfl]; exact g5
      have r6 : (gI σ3 111 6).toInt = (clmS (EE lws σ) (mc σ 121) (canN (mc σ 121) (ix n))).2.2 := by rw [h4.1 _ _ rfl]; exact g6
      split
      next z =>
        rw [if_pos z] at h
        simp only [pI, pL, pR, pV, i10, ↓reduceIte, eX_calms_31, eX_calms_38]
        exact h _ _ (hFx.fi.tr fi) r5
      next z =>
        rw [if_neg z] at h
        simp only [pI, pL, pR, pV, i10, ↓reduceIte, eX_calms_38]
        exact h _ _ (hFx.fi.tr fi) r6
    · rw [if_neg q] at h
      simp only [pI, pL, pR, pV, i10, ↓reduceIte, eX_calms_4]
      exact h _ _ Fr.rf.fi rfl
  · apply wM_calms
    simp only [pI, pL, pR, pV, i10, ↓reduceIte, eM_calms_0]
    unfold qCalms at h
    refine sM_isIn (fun q => ?_) (fun q => ?_)
    · rw [tl1, show (60 : Int32).toInt = 60 from rfl] at q
      rw [if_pos q] at h
      simp only [pI, pL, pR, pV, i10, ↓reduceIte, eM_calms_7, eM_calms_12]
      have hO := hR.ok
      have hT := hR.tk
      have hix := ix_to (x := n) (by omega)
      refine sM_setAside (fun σ1 h1 h2 hz h28 => ?_)
      simp only [pI, pL, pR, pV, i10, ↓reduceIte, eM_calms_16]
      have c0 : canN (mc σ 121) 0 = 0 := by unfold canN; omega
      refine lM_calms (d := 1) (c := mc σ 121) (N := ix n) hO hT (aside_me h1 hR.me) hz (by omega) (by omega) (fun σ2 σ3 v h3 hr h4 h5 h6 => h _ _ (put_fi hR.fl h1 h2 h3 h4 h5 h6 FMgsub FMg129) hr) (ix n) 0 σ1 0 0 0 0 (by omega) rfl Fr.rf (by rw [c0]; rfl) (by rw [c0]; rfl) (by rw [c0]; rfl) ?_ ?_ hz
      · simp only [c0]
        exact aside_mc h1
      · simp only [c0]
        exact h28
    · rw [tl1, show (60 : Int32).toInt = 60 from rfl] at q
      rw [if_neg q] at h
      simp only [pI, pL, pR, pV, i10, ↓reduceIte, eM_calms_7]
      exact h _ _ Fr.rf.fi rfl
