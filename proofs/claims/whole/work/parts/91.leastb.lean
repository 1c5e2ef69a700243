/-! LEAST TO PAY: the class -/
theorem sF_pence {d : Nat} {Φ : Po} {E : En} {c : Co} {σ : Sg} {x1 : Int32} {s : Nat} (hO : Ok E c) (hn : rd σ 1 4 = eN E) (hc : rc σ 2 = c) (hx : x1.toInt = s) (hs : s < 64) (h : ∀ v : Int32, v.toInt = (if subS c (eN E) s (eN E) = true then penS c s (eN E) else -1) → Φ (some (.int v)) σ) : wp true (d + 3) nF_penceFor [.ref 111, .int x1] σ Φ := by
  have n6 := hO.1
  have n1 : (gI σ 1 4).toInt = eN E := hn
  have lp : ∀ (n m : Nat) (x2 x3 : Int32), m + n = eN E → x3.toInt = m → x2.toInt = penS c s m → subS c (eN E) s m = true → bF_penceFor_4 true NOB (wp true (d + 2)) Φ (kF_penceFor (d + 2) Φ) [.ref 111, .int x1, .int x2, .int x3] [] σ := by
    intro n
    induction n with
    | zero =>
      intro m x2 x3 hm h3 h2 hb
      obtain rfl : m = eN E := by omega
      simp only [pI, pL, pR, pV, i10, ↓reduceIte, eF_penceFor_4]
      simp only [ile, n1, h3]
      rw [if_pos (by omega)]
      simp only [pI, pL, pR, pV, i10, ↓reduceIte, eF_penceFor_54]
      exact h x2 (by rw [if_pos hb, h2])
    | succ n ih =>
      intro m x2 x3 hm h3 h2 hb
      have h31 : (x3 + 1).toInt = ((m + 1 : Nat) : Int) := by rw [tq1 x3 (by omega), h3]; omega
      have hpb := penS_b (s := s) hO m (by omega)
      have hix : ix x3 = m := ix_of h3
      have cb := bitI hx hs h3 (by omega)
      have eP : penS c s (m + 1) = penS c s m + if s.testBit m = true then c m else 0 := rfl
      have eB : subS c (eN E) s (m + 1) = (subS c (eN E) s m && (!(s.testBit m) || owB c (eN E) m)) := rfl
      simp only [pI, pL, pR, pV, i10, ↓reduceIte, eF_penceFor_4]
      simp only [ile, n1, h3, cb]
      rw [if_neg (by omega)]
      split
      next z =>
        rw [if_pos z] at eP
        rw [hb, z] at eB
        refine sF_isOwed ⟨hn, n6⟩ hc (by omega) (fun v hv => ?_)
        rw [hix] at hv
        have hv : v.toInt = bi (owB c (eN E) m) := by
          rw [hv]
          unfold owB
          rw [decide_eq_true (by omega : m < eN E), Bool.true_and]
        have c0 : (v = 0) = (v.toInt = 0) := by rw [ieq]; rfl
        simp only [pI, pL, pR, pV, i10, ↓reduceIte, eF_penceFor_29]
        simp only [c0, hv]
        cases hq : owB c (eN E) m with
        | false =>
          try rw [if_pos rfl]
          refine h _ ?_
          rw [if_neg]
          · rfl
          · rw [subS_no (m := m + 1) (by rw [eB, hq]; rfl) (eN E) (by omega)]
            decide
        | true =>
          try rw [if_neg (by decide)]
          simp only [pI, pL, pR, pV, i10, ↓reduceIte, eF_penceFor_34, eF_penceFor_48]
          have iO : ix (0 + x3) = m := by rw [ixk (n := 0) rfl (by omega), hix]; omega
          have bO : inb (0 + x3) 75 := inb_k (n := 0) rfl (by omega) (by omega)
          have gO : (gI σ 2 m).toInt = c m := by rw [← hc]; exact (rc_at (by omega)).symm
          have hw := (hO.w (w := m) (by omega)).1
          rw [iO]
          exact ⟨bO, hF_penceFor_4 _ _ _ _ _ (ih (m + 1) _ (x3 + 1) (by omega) h31 (by rw [tP (by rw [gO]; omega), h2, gO, eP]) (by rw [eB, hq]; rfl))⟩
      next z =>
        rw [if_neg z] at eP
        have zf : s.testBit m = false := by
          cases q : s.testBit m
          · rfl
          · exact absurd q z
        rw [hb, zf] at eB
        simp only [pI, pL, pR, pV, i10, ↓reduceIte, eF_penceFor_48]
        exact hF_penceFor_4 _ _ _ _ _ (ih (m + 1) x2 (x3 + 1) (by omega) h31 (by rw [eP, h2]; omega) (by rw [eB]; rfl))
  apply wF_penceFor
  simp only [pI, pL, pR, pV, i10, ↓reduceIte, eF_penceFor_0]
  exact lp (eN E) 0 0 0 (by omega) rfl rfl rfl
theorem sF_payOff {d : Nat} {Φ : Po} {E : En} {c : Co} {σ : Sg} {x1 : Int32} {s : Nat} (hO : Ok E c) (hn : rd σ 1 4 = eN E) (hc : rc σ 2 = c) (hx : x1.toInt = s) (hs : s < 64) (h : ∀ σ' : Sg, Fr [(2, 0, 44)] σ σ' → rc σ' 2 = payS c s (eN E) → Φ none σ') : wp true (d + 1) nF_payOff [.ref 111, .int x1] σ Φ := by
  have n6 := hO.1
  have lp : ∀ (n m : Nat) (σ' : Sg) (x2 : Int32), m + n = eN E → x2.toInt = m → Fr [(2, 0, 44)] σ σ' → rc σ' 2 = payS c s m → bF_payOff_2 true NOB (wp true d) Φ (kF_payOff d Φ) [.ref 111, .int x1, .int x2] [] σ' := by
    intro n
    induction n with
    | zero =>
      intro m σ' x2 hm h2 hF hr
      have n1 : (gI σ' 1 4).toInt = eN E := by rw [hF.1 _ _ rfl]; exact hn
      obtain rfl : m = eN E := by omega
      simp only [pI, pL, pR, pV, i10, ↓reduceIte, eF_payOff_2]
      simp only [ile, n1, h2]
      rw [if_pos (by omega)]
      simp only [pI, pL, pR, pV, i10, ↓reduceIte, eF_payOff_40]
      exact h σ' hF hr
    | succ n ih =>
      intro m σ' x2 hm h2 hF hr
      have n1 : (gI σ' 1 4).toInt = eN E := by rw [hF.1 _ _ rfl]; exact hn
      have h21 : (x2 + 1).toInt = ((m + 1 : Nat) : Int) := by rw [tq1 x2 (by omega), h2]; omega
      have cb := bitI hx hs h2 (by omega)
      have eP : payS c s (m + 1) = if s.testBit m = true then upc (payS c s m) m 0 else payS c s m := rfl
      simp only [pI, pL, pR, pV, i10, ↓reduceIte, eF_payOff_2]
      simp only [ile, n1, h2, cb]
      rw [if_neg (by omega)]
      split
      next z =>
        rw [if_pos z] at eP
        have iO : ix (0 + x2) = m := by rw [ixk (n := 0) rfl (by omega), ix_of h2]; omega
        rw [iO]
        simp only [pI, pL, pR, pV, i10, ↓reduceIte, eF_payOff_34]
        exact ⟨inb_k (n := 0) rfl (by omega) (by omega), hF_payOff_2 _ _ _ _ _ (ih (m + 1) _ (x2 + 1) (by omega) h21 (hF.tr (Fr.sI (inS_r (lo := 0) (hi := 44) (by simp) (by omega)))) (by rw [rc_sI (by omega), hr, eP]; rfl))⟩
      next z =>
        rw [if_neg z] at eP
        simp only [pI, pL, pR, pV, i10, ↓reduceIte, eF_payOff_34]
        exact hF_payOff_2 _ _ _ _ _ (ih (m + 1) σ' (x2 + 1) (by omega) h21 hF (by rw [eP]; exact hr))
  apply wF_payOff
  simp only [pI, pL, pR, pV, i10, ↓reduceIte, eF_payOff_0]
  exact lp (eN E) 0 σ 0 (by omega) rfl Fr.rf hc
abbrev FLs : Ls := FD ++ [(111, 3, 5)]
theorem FLsub : ∀ a k, inS FLs a k = true → inS XS a k = true ∨ (a = 2 ∧ k < 75) := fun a k q => by
  obtain ⟨e, he, e1, e2, e3⟩ := inS_ex q
  have key : ∀ e, e ∈ FLs → e ∈ XS ∨ e = (110, 2, 5) ∨ e = (111, 3, 5) ∨ (e.1 = 2 ∧ e.2.2 ≤ 75) := by decide
  rcases key e he with m | m | m | m
  · obtain ⟨x, lo, hi⟩ := e
    have e1 : x = a := e1
    subst e1
    exact Or.inl (inS_r m ⟨e2, e3⟩)
  · subst m
    have e1 : 110 = a := e1
    subst e1
    exact Or.inl (inS_r (lo := 2) (hi := 5) (by decide) ⟨e2, e3⟩)
  · subst m
    have e1 : 111 = a := e1
    subst e1
    have e2 : 3 ≤ k := e2
    have e3 : k < 5 := e3
    exact Or.inl (inS_r (lo := 3) (hi := 9) (by decide) ⟨by omega, by omega⟩)
  · exact Or.inr ⟨by omega, by omega⟩
theorem sF_least {d : Nat} {Φ : Po} {lws : Lws} {E : En} {c : Co} {a : Nat → Int} {σ : Sg} {x1 x2 : Int32} (g0 : Wd lws E c a σ) (hn : 1 ≤ x1.toInt ∧ x1.toInt ≤ 60) (hh : 0 ≤ x2.toInt ∧ x2.toInt ≤ 9999) (h : ∀ σ' : Sg, Fi XS σ σ' → (gI σ' 111 3).toInt = (lsS E c (ix x1) x2.toInt 64).1 → (gI σ' 111 4).toInt = (lsS E c (ix x1) x2.toInt 64).2 → Φ none σ') : wp true (d + 9) nF_findLeast [.ref 111, .int x1, .int x2] σ Φ := by
  obtain ⟨hO, -, -, -, -, hT⟩ := g0.all
  obtain ⟨-, -, -, -, -, -, n6, -⟩ := g0.nv
  have hp64 : 2 ^ eN E ≤ 64 := Nat.pow_le_pow_right (n := 2) (by omega) n6
  have hix := ix_to (x := x1) (by omega)
  have fLs112 : ∀ k, k < 75 → inS FLs 112 k = false := fun k hk => not_inS (fun e he z => by
    have : ∀ e, e ∈ FLs → e.1 ≠ 112 := by decide
    exact this e he z.1)
  have lp : ∀ (n m : Nat) (σ' : Sg) (x3 : Int32) (v4 : Value), m + n = 2 ^ eN E → x3.toInt = m → Fi XS σ σ' → (gI σ' 111 3).toInt = (lsS E c (ix x1) x2.toInt m).1 → (gI σ' 111 4).toInt = (lsS E c (ix x1) x2.toInt m).2 → bF_findLeast_12 true NOB (wp true (d + 8)) Φ (kF_findLeast (d + 8) Φ) [.ref 111, .int x1, .int x2, .int x3, v4] [] σ' := by
    intro n
    induction n with
    | zero =>
      intro m σ' x3 v4 hm h3 hF e3 e4
      have g := g0.x hF
      have hv := pow2N g.nv.1 n6
      simp only [pI, pL, pR, pV, i10, ↓reduceIte, eF_findLeast_12]
      simp only [ile, hv, h3]
      rw [if_pos (by omega)]
      simp only [pI, pL, pR, pV, i10, ↓reduceIte, eF_findLeast_98]
      have es := lsS_stay (E := E) (c := c) (n := ix x1) (h := x2.toInt) (m := m) 64 (by omega) (fun s h1 h2 => subS_over n6 h2 (by omega))
      exact h σ' hF (by rw [es]; exact e3) (by rw [es]; exact e4)
    | succ n ih =>
      intro m σ' x3 v4 hm h3 hF e3 e4
      have g := g0.x hF
      obtain ⟨-, hE, hc, -⟩ := g.all
      have hv := pow2N g.nv.1 n6
      have h31 : (x3 + 1).toInt = ((m + 1 : Nat) : Int) := by rw [tq1 x3 (by omega), h3]; omega
      have hsub := subS_hi (c := c) (s := m) n6 (by omega) 6 n6 (Nat.le_refl _)
      have hlb := lsS_b (c := c) (n := ix x1) (h := x2.toInt) n6 m
      have hpb := penS_b (s := m) hO (eN E) (Nat.le_refl _)
      have eS : lsS E c (ix x1) x2.toInt (m + 1) = if subS c (eN E) m 6 = true ∧ ((lsS E c (ix x1) x2.toInt m).1 = -1 ∨ penS c m (eN E) < (lsS E c (ix x1) x2.toInt m).1) ∧ tkN E (payS c m (eN E)) (canN c (ix x1)) ≤ x2.toInt then (penS c m (eN E), (m : Int)) else lsS E c (ix x1) x2.toInt m := rfl
      rw [hsub] at eS
      simp only [pI, pL, pR, pV, i10, ↓reduceIte, eF_findLeast_12]
      simp only [ile, hv, h3]
      rw [if_neg (by omega)]
      refine sF_pence hO hE.1 hc h3 (by omega) (fun p hp => ?_)
      have skip : ∀ (σ2 : Sg) (v : Value), Fi XS σ σ2 → (gI σ2 111 3).toInt = (lsS E c (ix x1) x2.toInt m).1 → (gI σ2 111 4).toInt = (lsS E c (ix x1) x2.toInt m).2 → lsS E c (ix x1) x2.toInt (m + 1) = lsS E c (ix x1) x2.toInt m → ∀ x4 : Int32, bF_findLeast_92 true NOB (wp true (d + 8)) Φ (kF_findLeast (d + 8) Φ) [.ref 111, .int x1, .int x2, .int x3, .int x4] [] σ2 := by
        intro σ2 v hF2 k3 k4 e x4
        simp only [pI, pL, pR, pV, i10, ↓reduceIte, eF_findLeast_92]
        exact hF_findLeast_12 _ _ _ _ _ (ih (m + 1) σ2 (x3 + 1) _ (by omega) h31 hF2 (by rw [e]; exact k3) (by rw [e]; exact k4))
      have cN : ∀ y : Int32, (y = -1) = (y.toInt = -1) := fun y => by rw [ieq]; rfl
      simp only [pI, pL, pR, pV, i10, ↓reduceIte, eF_findLeast_30]
      simp only [cN, ilt, e3]
      by_cases hs : subS c (eN E) m (eN E) = true
      · rw [if_pos hs] at hp
        have hp0 := penS_0 _ hs
        rw [if_neg (by omega)]
        -- it is tried
        have try_ : ((lsS E c (ix x1) x2.toInt m).1 = -1 ∨ penS c m (eN E) < (lsS E c (ix x1) x2.toInt m).1) → bF_findLeast_58 true NOB (wp true (d + 8)) Φ (kF_findLeast (d + 8) Φ) [.ref 111, .int x1, .int x2, .int x3, .int p] [] σ' := by
          intro hbet
          obtain ⟨hOp, hPp⟩ := payS_ok (s := m) hO (eN E) (Nat.le_refl _)
          have hTp := payS_tk (s := m) hO hT
          have h42 : payS c m (eN E) 42 = c 42 := hPp 42 (by omega)
          have hcan : canN (payS c m (eN E)) (ix x1) = canN c (ix x1) := by
            unfold canN
            rw [h42]
          have hl := canN_le (n := ix x1) hOp.2.2.1
          rw [hcan] at hl
          simp only [pI, pL, pR, pV, i10, ↓reduceIte, eF_findLeast_58]
          refine sF_keepNow (fun σ1 k1 k2 => ?_)
          simp only [pI, pL, pR, pV, i10, ↓reduceIte, eF_findLeast_62]
          refine sF_payOff hO (by rw [k1.rd rfl]; exact hE.1) ((keep_rc k1).trans hc) h3 (by omega) (fun σ2 hF2 hc2 => ?_)
          simp only [pI, pL, pR, pV, i10, ↓reduceIte, eF_findLeast_67]
          have hF2d : Fr FD σ1 σ2 := hF2.mo (by decide)
          have w44 : rd σ2 2 44 = rd σ' 2 44 := by rw [hF2.rd (by decide), k1.rd rfl]
          refine sF_upTo hOp hTp (CEd hF2d (keep_ce k1 hE)) hc2 (by rw [w44]; exact g.1.w44) (by omega) (fun σ3 v j k3 hj hv2 hc3 hq => ?_)
          rw [hcan] at hj hq
          have hb := (pasN_ok hOp hTp j (by omega)).2.2.2
          have hiff : v.toInt ≤ x2.toInt ↔ tkN E (payS c m (eN E)) (canN c (ix x1)) ≤ x2.toInt := by
            rcases hq with z | z
            · rw [hv2, z]
            · have mono := tkN_mono hOp hTp (m := j) (canN c (ix x1)) hj (by omega)
              omega
          have f3 : ∀ k, k < 9 → gI σ3 111 k = gI σ' 111 k := fun k hk => by
            rw [k3.1 _ _ (inFD (by omega)), hF2.1 _ _ (not_inS (fun e he z => by
              rw [List.mem_singleton] at he
              subst he
              exact absurd z.1 (by decide))), k1.1 _ _ (not_inS (fun e he z => by
              rw [List.mem_singleton] at he
              subst he
              exact absurd z.1 (by decide)))]
          have hF3 : Fr FLs σ1 σ3 := (hF2d.tr k3).mo (fun e he => List.mem_append_left _ he)
          have c73 : (x2 < v) = ¬ (v.toInt ≤ x2.toInt) := by rw [ilt]; exact propext (by omega)
          simp only [pI, pL, pR, pV, i10, ↓reduceIte, eF_findLeast_73]
          simp only [c73]
          by_cases hle : v.toInt ≤ x2.toInt
          · rw [if_neg (fun q => q hle)]
            rw [if_pos ⟨hs, hbet, hiff.mp hle⟩] at eS
            simp only [pI, pL, pR, pV, i10, ↓reduceIte, eF_findLeast_88]
            have hF4 : Fr FLs σ1 (sI (sI σ3 111 3 p) 111 4 x3) := hF3.tr ((Fr.sI (by decide)).tr (Fr.sI (by decide)))
            refine sF_giveBack (fun σ5 k4 k5 => ?_)
            have fi := back_fj k1 k2 hF4 k4 k5 FLsub fLs112
            simp only [pI, pL, pR, pV, i10, ↓reduceIte, eF_findLeast_92]
            refine hF_findLeast_12 _ _ _ _ _ (ih (m + 1) σ5 (x3 + 1) _ (by omega) h31 (hF.tr fi) ?_ ?_)
            · rw [k4.1 _ _ rfl, gIne2 (by omega), gIeq, eS]
              exact hp
            · rw [k4.1 _ _ rfl, gIeq, eS]
              exact h3
          · rw [if_pos hle]
            rw [if_neg (fun q => hle (hiff.mpr q.2.2))] at eS
            simp only [pI, pL, pR, pV, i10, ↓reduceIte, eF_findLeast_88]
            refine sF_giveBack (fun σ5 k4 k5 => ?_)
            have fi := back_fj k1 k2 hF3 k4 k5 FLsub fLs112
            refine skip σ5 (.int 0) (hF.tr fi) ?_ ?_ eS p
            · rw [k4.1 _ _ rfl, f3 3 (by omega)]; exact e3
            · rw [k4.1 _ _ rfl, f3 4 (by omega)]; exact e4
        split
        next z => exact try_ (Or.inl z)
        next z =>
          simp only [hp]
          split
          next y => exact try_ (Or.inr y)
          next y => exact skip σ' (.int 0) hF e3 e4 (by rw [eS, if_neg (fun q => by rcases q.2.1 with u | u <;> omega)]) p
      · rw [if_neg hs] at hp
        rw [if_pos (by omega)]
        exact skip σ' (.int 0) hF e3 e4 (by rw [eS, if_neg (fun q => hs q.1)]) p
  apply wF_findLeast
  simp only [pI, pL, pR, pV, i10, ↓reduceIte, eF_findLeast_0]
  have hFx : Fr XS σ (sI (sI σ 111 3 (-1)) 111 4 (-1)) := (Fr.sI (by decide)).tr (Fr.sI (by decide))
  refine lp (2 ^ eN E) 0 _ 0 _ (by omega) rfl hFx.fi ?_ ?_
  · rw [gIne2 (by omega), gIeq]; rfl
  · rw [gIeq]; rfl
