/-! PLAYED: the pair -/
theorem sM_isPlayed {d : Nat} {Φ : Po} {lws : Lws} {D : Int} {s s' t : Sg} {τ k : Nat} {x1 : Int32} {ok : Bool} (hD : 0 ≤ D) (g : RD D lws (mrg s t)) (hτ : τ < 4) (hk : k < 24) (hx : x1.toInt = ((705 * τ + 1 + 4 * k : Nat) : Int)) (hcl : ClR (mrg s t) τ k) (ev : EvP lws (gI s (92 + 5 * τ) (4 * k)) (gI s (92 + 5 * τ) (4 * k + 1)) (gI s (92 + 5 * τ) (4 * k + 2)) (gI s (92 + 5 * τ) (4 * k + 3)) s s' ok) (h : ∀ (t' : Sg) (D' : Int), 0 ≤ D' → RD D' lws (mrg s' t') → Hi t t' → Φ (some (.int (cond ok 1 0))) t') : wp true (d + 11) nM_isPlayed [.ref 120, .int x1] t Φ := by
  obtain ⟨b0, b1, n4, n6, eE⟩ := g.nb
  obtain ⟨ecore, -, -, -, -, -, -⟩ := g.core
  obtain ⟨k1, k2, k3, k4, k5, k6⟩ := hcl
  have m92 : ∀ j, rd (mrg s t) (92 + 5 * τ) j = rd s (92 + 5 * τ) j := fun j => mrg_c (by omega)
  have m123 : ∀ j, rd (mrg s t) 123 j = rd t 123 j := fun j => mrg_m (by omega)
  rw [m92, m123] at k1
  rw [m123] at k2
  rw [m123, m92, m123] at k3
  rw [m123, m92, m123] at k4
  rw [m123, m92, m123] at k5
  rw [m123, m123] at k6
  have j1 : (x1 + 1).toInt = ((705 * τ + 2 + 4 * k : Nat) : Int) := by rw [tq1 x1 (by omega), hx]; omega
  have l2 : (2 : Int32).toInt = 2 := rfl
  have l3 : (3 : Int32).toInt = 3 := rfl
  have j2 : (x1 + 2).toInt = ((705 * τ + 3 + 4 * k : Nat) : Int) := by rw [tP (by rw [l2]; omega), hx, l2]; omega
  have j3 : (x1 + 3).toInt = ((705 * τ + 4 + 4 * k : Nat) : Int) := by rw [tP (by rw [l3]; omega), hx, l3]; omega
  have i0 : ix x1 = 705 * τ + 1 + 4 * k := ix_of hx
  have i1 : ix (x1 + 1) = 705 * τ + 2 + 4 * k := ix_of j1
  have i2 : ix (x1 + 2) = 705 * τ + 3 + 4 * k := ix_of j2
  have i3 : ix (x1 + 3) = 705 * τ + 4 + 4 * k := ix_of j3
  have K : (gI t 123 (705 * τ + 1 + 4 * k)).toInt = (gI s (92 + 5 * τ) (4 * k)).toInt := k1.symm
  have kk : rd t 123 (705 * τ + 1 + 4 * k) = (gI s (92 + 5 * τ) (4 * k)).toInt := k1.symm
  rw [kk] at k2 k3 k4 k5 k6
  generalize gI s (92 + 5 * τ) (4 * k) = y1 at *
  have z2 : 5 ≤ y1.toInt → gI t 123 (705 * τ + 2 + 4 * k) = gI s (92 + 5 * τ) (4 * k + 1) := fun q => eqv (k3 q).symm
  have z3 : 5 ≤ y1.toInt → y1.toInt ≠ 10 → gI t 123 (705 * τ + 3 + 4 * k) = gI s (92 + 5 * τ) (4 * k + 2) := fun q q2 => eqv (k4 q q2).symm
  have z4 : y1.toInt = 5 ∨ y1.toInt = 7 ∨ y1.toInt = 8 → gI t 123 (705 * τ + 4 + 4 * k) = gI s (92 + 5 * τ) (4 * k + 3) := fun q => eqv (k5 q).symm
  generalize gI s (92 + 5 * τ) (4 * k + 1) = y2 at *
  generalize gI s (92 + 5 * τ) (4 * k + 2) = y3 at *
  generalize gI s (92 + 5 * τ) (4 * k + 3) = y4 at *
  have km3 : (-1000 : Int32).toInt = -1000 := rfl
  apply wM_isPlayed
  simp only [pI, pL, pR, pV, i10, ↓reduceIte, eM_isPlayed_0]
  rw [i0, i1, i2, i3]
  refine ⟨⟨by omega, by omega⟩, ⟨by omega, by omega⟩, ⟨by omega, by omega⟩, ⟨by omega, by omega⟩, ?_⟩
  simp only [K]
  unfold EvP at ev
  rcases ev with ⟨c, ev⟩ | ⟨c, ev⟩ | ⟨c, ev⟩ | ⟨c, ev⟩ | ⟨c, ev⟩ | ⟨c, ev⟩ | ⟨c, rfl, rfl⟩
  · rw [if_pos c, z2 (by omega), z3 (by omega) (by omega), z4 (by omega)]
    rw [n4] at ev
    simp only [pI, pL, pR, pV, i10, ↓reduceIte, eM_isPlayed_72]
    refine sM_wind b0 (fun q => ?_) (fun q t' v hv hF hk => ?_)
    · rcases ev with ⟨q2, -⟩ | ⟨-, rfl, rfl⟩
      · exact absurd q2 q
      · simp only [pI, pL, pR, pV, i10, ↓reduceIte, eM_isPlayed_80]
        rw [if_pos (by decide)]
        simp only [pI, pL, pR, pV, i10, ↓reduceIte, eM_isPlayed_87, eM_isPlayed_88]
        simp only [zB_0, cond]
        exact h t D hD g Hi.rf
    · rcases ev with ⟨-, rfl, kc⟩ | ⟨q2, -⟩
      · have hv0 : ¬ v < 0 := by rw [ilt, hv, tl0]; omega
        simp only [pI, pL, pR, pV, i10, ↓reduceIte, eM_isPlayed_80]
        rw [if_neg hv0]
        simp only [pI, pL, pR, pV, i10, ↓reduceIte, eM_isPlayed_88]
        simp only [zB_1, cond]
        obtain ⟨q1, q3, q4, q5⟩ := q
        exact h t' D hD (stepW g (by omega) (by omega) q3 q4 q5 kc hk) (hF.hi (by decide))
      · exact absurd q q2
  · rw [if_neg (by omega), if_pos c, z2 (by omega), z3 (by omega) (by omega)]
    rw [n6] at ev
    simp only [pI, pL, pR, pV, i10, ↓reduceIte, eM_isPlayed_89]
    refine sM_village b1 (fun q => ?_) (fun q t' v hv hF hk => ?_)
    · rcases ev with ⟨q2, -⟩ | ⟨-, rfl, rfl⟩
      · exact absurd q2 q
      · simp only [pI, pL, pR, pV, i10, ↓reduceIte, eM_isPlayed_95]
        rw [if_pos (by decide)]
        simp only [pI, pL, pR, pV, i10, ↓reduceIte, eM_isPlayed_102, eM_isPlayed_103]
        simp only [zB_0, cond]
        exact h t D hD g Hi.rf
    · rcases ev with ⟨-, rfl, kc⟩ | ⟨q2, -⟩
      · have hv0 : ¬ v < 0 := by rw [ilt, hv, tl0]; omega
        simp only [pI, pL, pR, pV, i10, ↓reduceIte, eM_isPlayed_95]
        rw [if_neg hv0]
        simp only [pI, pL, pR, pV, i10, ↓reduceIte, eM_isPlayed_103]
        simp only [zB_1, cond]
        obtain ⟨q1, q3, q4⟩ := q
        exact h t' D hD (stepV g (by omega) (by omega) q3 q4 kc hk) (hF.hi (by decide))
      · exact absurd q q2
  · rw [if_neg (by omega), if_neg (by omega), if_pos c, z2 (by omega), z3 (by omega) (by omega), z4 (by omega)]
    simp only [pI, pL, pR, pV, i10, ↓reduceIte, eM_isPlayed_104]
    refine sM_wayP b1 (fun q => ?_) (fun q => ?_)
    · rw [← n6] at q
      rcases ev with ⟨q2, -⟩ | ⟨-, rfl, rfl⟩
      · exact absurd q2 q
      · simp only [pI, pL, pR, pV, i10, ↓reduceIte, eM_isPlayed_112]
        simp only [zB_0, cond]
        exact h t D hD g Hi.rf
    · rw [← n6] at q
      rcases ev with ⟨-, rfl, rfl⟩ | ⟨q2, -⟩
      · simp only [pI, pL, pR, pV, i10, ↓reduceIte, eM_isPlayed_112]
        simp only [zB_1, cond]
        have hx1 := ix_to q.1.1
        have hx2 := ix_to q.2.1.1
        have q1 := q.1
        have q2 := q.2.1
        have fM : Fr [(121, 84, 120)] t (wayM t y2 y3 y4) := (Fr.sI (inS_r (lo := 84) (hi := 120) (by simp) (by omega))).tr (Fr.sI (inS_r (lo := 84) (hi := 120) (by simp) (by omega)))
        exact h _ D hD (stepY g q) (fM.hi (by decide))
      · exact absurd q q2
  · rw [if_neg (by omega), if_neg (by omega), if_neg (by omega), if_pos c, z2 (by omega), z3 (by omega) (by omega), z4 (by omega)]
    rw [eE, ecore] at ev
    simp only [pI, pL, pR, pV, i10, ↓reduceIte, eM_isPlayed_113]
    rcases ev with ⟨q, rfl, ka, kc⟩ | ⟨q, rfl, rfl⟩
    · refine sM_payP (s' := s') hD g (fun _ _ _ t' r hr gc hH => ?_) (fun _ => ⟨ka, kc⟩) (fun z => absurd q z)
      have hne : r ≠ -1000 := fun e => hr (by rw [e]; rfl)
      simp only [pI, pL, pR, pV, i10, ↓reduceIte, eM_isPlayed_121]
      rw [if_neg hne]
      simp only [pI, pL, pR, pV, i10, ↓reduceIte, eM_isPlayed_132]
      simp only [zB_1, cond]
      exact h t' 0 (by omega) gc hH
    · refine sM_payP (s' := s') hD g (fun z => absurd z q) (fun z => absurd z q) (fun _ => ?_)
      simp only [pI, pL, pR, pV, i10, ↓reduceIte, eM_isPlayed_121]
      try rw [if_pos rfl]
      simp only [pI, pL, pR, pV, i10, ↓reduceIte, eM_isPlayed_131, eM_isPlayed_132]
      simp only [zB_0, cond]
      exact h t D hD g Hi.rf
  · rw [if_neg (by omega), if_neg (by omega), if_neg (by omega), if_neg (by omega), if_pos c, z2 (by omega), z3 (by omega) (by omega)]
    rw [eE, ecore] at ev
    simp only [pI, pL, pR, pV, i10, ↓reduceIte, eM_isPlayed_133]
    rcases ev with ⟨q, rfl, ka, kc⟩ | ⟨q, rfl, rfl⟩
    · refine sM_mergeP (s' := s') hD g (fun _ => ⟨ka, kc⟩) (fun _ t' r hr gc hH => ?_) (fun z => absurd q z)
      have hne : r ≠ -1000 := fun e => hr (by rw [e]; rfl)
      simp only [pI, pL, pR, pV, i10, ↓reduceIte, eM_isPlayed_139]
      rw [if_neg hne]
      simp only [pI, pL, pR, pV, i10, ↓reduceIte, eM_isPlayed_150]
      simp only [zB_1, cond]
      exact h t' 0 (by omega) gc hH
    · refine sM_mergeP (s' := s') hD g (fun z => absurd z q) (fun z => absurd z q) (fun _ => ?_)
      simp only [pI, pL, pR, pV, i10, ↓reduceIte, eM_isPlayed_139]
      try rw [if_pos rfl]
      simp only [pI, pL, pR, pV, i10, ↓reduceIte, eM_isPlayed_149, eM_isPlayed_150]
      simp only [zB_0, cond]
      exact h t D hD g Hi.rf
  · rw [if_neg (by omega), if_neg (by omega), if_neg (by omega), if_neg (by omega), if_neg (by omega), if_pos c, z2 (by omega)]
    rw [eE, ecore] at ev
    obtain ⟨m, N, hN, hN60, hd, hm9, hok⟩ := ev
    simp only [pI, pL, pR, pV, i10, ↓reduceIte, eM_isPlayed_151]
    refine sM_daysP (sN := s') (ok := ok) hD g hN hN60 hm9 hok hd (fun t' D' h1 h2 h3 => ?_)
    cases ok with
    | true =>
      simp only [cond]
      simp only [pI, pL, pR, pV, i10, ↓reduceIte, eM_isPlayed_156]
      simp only [zB_1, cond]
      exact h t' D' h1 h2 h3
    | false =>
      simp only [cond]
      simp only [pI, pL, pR, pV, i10, ↓reduceIte, eM_isPlayed_156]
      simp only [zB_0, cond]
      exact h t' D' h1 h2 h3
  · rw [if_neg (by omega), if_neg (by omega), if_neg (by omega), if_neg (by omega), if_neg (by omega), if_neg (by omega)]
    simp only [pI, pL, pR, pV, i10, ↓reduceIte, eM_isPlayed_157]
    exact h t D hD g Hi.rf
theorem lM_played {d : Nat} {Φ : Po} {lws : Lws} {τ N : Nat} {x1 : Int32} {σ0 sN t0 : Sg} {R : Int} (hτ : τ < 4) (hN : N ≤ 24) (hx : x1.toInt = τ) (hc0 : rd σ0 (88 + 5 * τ) 5 = N) (h9 : (τ : Int) < rd σ0 1 9) (h : ∀ (v : Int32) (t : Sg) (D : Int), 0 ≤ D → v.toInt = R → RD D lws (mrg sN t) → Hi t0 t → Φ (some (.int v)) t) :
    ∀ (n k : Nat) (s t : Sg) (x2 : Int32) (D : Int), k + n = N → x2.toInt = k → 0 ≤ D → RD D lws (mrg s t) → (∀ a j, 88 ≤ a → a < 108 → gI s a j = gI σ0 a j) → gI s 1 9 = gI σ0 1 9 → Hi t0 t → PlC lws (fun k j => gI σ0 (92 + 5 * τ) (4 * k + j)) n k s sN R → bM_played_21 true NOB (wp true (d + 11)) Φ (kM_played (d + 11) Φ) [.ref 120, .int x1, .int x2] [] t := by
  have l705 : (705 : Int32).toInt = 705 := rfl
  have l4 : (4 : Int32).toInt = 4 := rfl
  have a0 : (705 * x1).toInt = ((705 * τ : Nat) : Int) := by rw [tX (by rw [l705, hx]; omega), l705, hx]; omega
  have a1 : (705 * x1 + 1).toInt = ((705 * τ + 1 : Nat) : Int) := by rw [tq1 _ (by omega), a0]; omega
  have ia : ix (705 * x1) = 705 * τ := ix_of a0
  have tex : ∀ (s t : Sg) (D : Int), RD D lws (mrg s t) → (∀ a j, 88 ≤ a → a < 108 → gI s a j = gI σ0 a j) → gI s 1 9 = gI σ0 1 9 → (gI t 123 (705 * τ)).toInt = N ∧ ∀ k : Nat, k < N → ClR (mrg s t) τ k := by
    intro s t D g hs h19
    have g3 : rd (mrg s t) 1 9 = rd (mrg s t) 121 2 := g.1.2.2.1.1
    have e19 : rd (mrg s t) 1 9 = rd σ0 1 9 := by
      rw [mrg_c (by omega)]
      show (gI s 1 9).toInt = _
      rw [h19]
      rfl
    have T := g.2.2.1.1 τ hτ (by omega)
    obtain ⟨u1, u2, u3, -⟩ := T
    have e88 : rd (mrg s t) (88 + 5 * τ) 5 = N := by
      rw [mrg_c (by omega), ← hc0]
      show (gI s (88 + 5 * τ) 5).toInt = _
      rw [hs _ _ (by omega) (by omega)]
      rfl
    rw [e88] at u1
    refine ⟨?_, fun k hk => u3 k (by omega)⟩
    rw [mrg_m (by omega)] at u1
    exact u1.symm
  intro n
  induction n with
  | zero =>
    intro k s t x2 D hk h2 hD g hs h19 hH hp
    obtain ⟨rfl, rfl⟩ := hp
    obtain ⟨e1, -⟩ := tex sN t D g hs h19
    simp only [pI, pL, pR, pV, i10, ↓reduceIte, eM_played_21]
    rw [ia]
    simp only [ile, e1, h2]
    rw [if_pos (by omega)]
    refine ⟨⟨by omega, by omega⟩, ?_⟩
    simp only [pI, pL, pR, pV, i10, ↓reduceIte, eM_played_61]
    exact h _ t D hD rfl g hH
  | succ n ih =>
    intro k s t x2 D hk h2 hD g hs h19 hH hp
    obtain ⟨b, ok, ev, ⟨kp1, kp2⟩, hp⟩ := hp
    obtain ⟨e1, e2⟩ := tex s t D g hs h19
    have b0 : (4 * x2).toInt = ((4 * k : Nat) : Int) := by rw [tX (by rw [l4, h2]; omega), l4, h2]; omega
    have b1 : (705 * x1 + 1 + 4 * x2).toInt = ((705 * τ + 1 + 4 * k : Nat) : Int) := by rw [tP (by rw [a1, b0]; omega), a1, b0]; omega
    have h21 : (x2 + 1).toInt = ((k + 1 : Nat) : Int) := by rw [tq1 x2 (by omega), h2]; omega
    have hg : ∀ j, gI s (92 + 5 * τ) j = gI σ0 (92 + 5 * τ) j := fun j => hs _ _ (by omega) (by omega)
    simp only [pI, pL, pR, pV, i10, ↓reduceIte, eM_played_21]
    rw [ia]
    simp only [ile, e1, h2]
    rw [if_neg (by omega)]
    refine ⟨⟨by omega, by omega⟩, ?_⟩
    refine sM_isPlayed (s' := b) (ok := ok) hD g hτ (by omega) b1 (e2 k (by omega)) (by rw [hg, hg, hg, hg]; exact ev) (fun t' D' hD' g' hH' => ?_)
    rcases hp with ⟨rfl, hp⟩ | ⟨rfl, rfl, rfl⟩
    · simp only [cond]
      simp only [pI, pL, pR, pV, i10, ↓reduceIte, eM_played_50, eM_played_55]
      exact hM_played_21 _ _ _ _ _ (ih (k + 1) b t' (x2 + 1) D' (by omega) h21 hD' g' (fun a j h1 h2 => (kp1 a j h1 h2).trans (hs a j h1 h2)) (kp2.trans h19) (hH.tr hH') hp)
    · simp only [cond]
      simp only [pI, pL, pR, pV, i10, ↓reduceIte, eM_played_50]
      exact h x2 t' D' hD' h2 g' (hH.tr hH')
theorem p_played (x1 : Int32) : PairI Rel nX_played nM_played [.int x1] := by
  intro σ hR Φ h
  obtain ⟨lws, hR⟩ := hR
  obtain ⟨b1, b2, b3, b4⟩ := hR.1.2.2.1
  have b1 : rd σ 1 9 = rd σ 121 2 := b1
  have l2 : ix 2 = 2 := rfl
  have e2 : ∀ τ : Sg, (gI τ 121 2 - 1).toInt = rd τ 121 2 - 1 ∨ rd τ 121 2 < -1000 := fun τ => by
    by_cases q : rd τ 121 2 < -1000
    · exact Or.inr q
    · left
      have := trng (gI τ 121 2)
      have e : (gI τ 121 2).toInt = rd τ 121 2 := rfl
      rw [tM (by rw [tl1]; omega), e, tl1]
  apply wX_played
  simp only [pI, pL, pR, pV, i10, ↓reduceIte, eX_played_0]
  refine sW_isText (fun q => ?_) (fun q => ?_)
  · have q : 0 ≤ x1.toInt ∧ x1.toInt < rd σ 1 9 := q
    have hix := ix_to q.1
    have hτ : ix x1 < 4 := by omega
    have T := hR.2.2.1.1 (ix x1) hτ (by omega)
    obtain ⟨u1, u2, u3, -⟩ := T
    obtain ⟨N, hNN⟩ : ∃ N : Nat, rd σ 123 (705 * ix x1) = N := ⟨(rd σ 123 (705 * ix x1)).toNat, by omega⟩
    rw [hNN] at u1 u2 u3
    obtain ⟨o1, o2, o3⟩ := txt_o hτ σ
    simp only [pI, pL, pR, pV, i10, ↓reduceIte, eX_played_8]
    rw [o3]
    refine ⟨⟨by omega, by omega⟩, ?_⟩
    apply wD_play
    simp only [pI, pL, pR, pV, i10, ↓reduceIte, eD_play_0]
    refine lD_play (lws := lws) (N := N) (σ0 := σ) hτ (by omega) u1 (fun k hk hK => ?_) N 0 σ 0 _ _ (by omega) rfl Fr.rf hR.ci (fun s' v hF hp => ?_)
    · obtain ⟨k1, k2, k3, k4, k5, k6⟩ := u3 k (by omega)
      have hK : rd σ (92 + 5 * ix x1) (4 * k) = 10 := hK
      have k7 := k6 (by omega)
      have k8 := k3 (by omega)
      have k9 : (gI σ (92 + 5 * ix x1) (4 * k + 1)).toInt = rd σ 123 (705 * ix x1 + 2 + 4 * k) := k8
      omega
    · simp only [pI, pL, pR, pV, i10, ↓reduceIte, eX_played_24, eX_played_29]
      refine h v s' (hF.sm (by decide +kernel)) (fun Ψ hΨ => ?_)
      have mdl : ∀ a k, 120 ≤ a → rd s' a k = rd σ a k := fun a k ha => hF.rd (not_inS (fun e he z => by
        have := FPl_hi e he
        omega))
      have g0 := RD_start (lws := lws) (σ := σ) (τ := s') hR (fun a k h1 _ => mdl a k h1)
      have ee : rd s' 121 2 = rd σ 121 2 := mdl _ _ (by omega)
      apply wM_played
      simp only [pI, pL, pR, pV, i10, ↓reduceIte, eM_played_0]
      rw [l2]
      refine ⟨⟨by decide, by decide⟩, ?_⟩
      have e2 := e2 s'
      refine sM_isIn (fun _ => ?_) (fun z => absurd ⟨by rw [tl0]; omega, by omega⟩ z)
      simp only [pI, pL, pR, pV, i10, ↓reduceIte, eM_played_13, eM_played_19]
      refine lM_played (lws := lws) (τ := ix x1) (N := N) (σ0 := σ) (sN := s') (t0 := s') (R := v.toInt) hτ (by omega) hix.symm u1 (by omega) (fun v2 t D hD hv2 g hH => ?_) N 0 σ s' 0 0 (by omega) rfl (by omega) g0 (fun _ _ _ _ => rfl) rfl Hi.rf hp
      have ev : v2 = v := eqv hv2
      rw [ev]
      refine hΨ t hH.sm ⟨lws, RD_end hD g (fun a k ha => ?_)⟩
      show (gI t a k).toInt = (gI s' a k).toInt
      rw [hH.1 _ _ (Or.inl ha)]
  · have q : ¬ (0 ≤ x1.toInt ∧ x1.toInt < rd σ 1 9) := q
    simp only [pI, pL, pR, pV, i10, ↓reduceIte, eX_played_8, eX_played_27, eX_played_29]
    refine h _ σ ⟨fun _ => rfl, rfl⟩ (fun Ψ hΨ => ?_)
    have fin := hΨ σ ⟨fun _ => rfl, rfl⟩ ⟨lws, hR⟩
    apply wM_played
    simp only [pI, pL, pR, pV, i10, ↓reduceIte, eM_played_0]
    rw [l2]
    refine ⟨⟨by decide, by decide⟩, ?_⟩
    have e2 := e2 σ
    refine sM_isIn (fun z => ?_) (fun z => ?_)
    · rw [tl0] at z
      exact absurd ⟨z.1, by omega⟩ q
    · simp only [pI, pL, pR, pV, i10, ↓reduceIte, eM_played_13]
      exact fin
