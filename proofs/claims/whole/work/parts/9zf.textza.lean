/-! TEXTS: the reference reads on behind a ONE -/
theorem sM_behindOne {d : Nat} {Φ : Po} {t L l i : Nat} {B : Nat → Int} {st : List Int} {cd : List (Int × Int)} {σ : Sg} (ht : t < 4) (g : PS t L B l i st cd 1 σ) (hI : Iw l 0 i st cd 1) (h41 : tp st ≠ 41)
    (h0 : (bhF l (tokO L B i) st).1 = 0 → (bhF l (tokO L B i) st).2.2.2 = 0 → ST t L B l Φ σ (tokE L B i) (bhF l (tokO L B i) st).2.1 (cd ++ (bhF l (tokO L B i) st).2.2.1) 0)
    (he : (bhF l (tokO L B i) st).1 = 0 → (bhF l (tokO L B i) st).2.2.2 = 1 → Eo t L B l Φ σ (tokE L B i) (bhF l (tokO L B i) st).2.1 (cd ++ (bhF l (tokO L B i) st).2.2.1))
    (hm : bw l (tokO L B i) (tp (setl 5 st).1) < 0 → ¬ (tokO L B i = 37 ∧ tp (setl 5 st).1 = 40) → Φ (some (.int (-1))) σ) : wp true (d + 4) nM_behindOne [.ref 120] σ Φ := by
  have k0 : (0 : Int32).toInt = 0 := rfl
  have k4 : (4 : Int32).toInt = 4 := rfl
  have k5 : (5 : Int32).toInt = 5 := rfl
  obtain ⟨hT, hk, hi, hP, h18⟩ := id g
  obtain ⟨hS, h8, hW, hlen, -⟩ := hI
  have hW : Wv st := by
    rcases hW with q | q
    · exact absurd q (by decide)
    · exact q.2
  have hL := hT.1.1
  have hl53 := hS.len8 h8
  have hv := Sv_ops hS
  have hTe := tokE_L hT.1 hi
  obtain ⟨q1, q2, q3⟩ := s5F hS hW h41
  apply wM_behindOne
  simp only [pI, pL, pR, pV, i10, ↓reduceIte, eM_behindOne_0]
  refine sM_betweenOf (d := d) hk hP hS hW h41 (by omega) (fun v hv1 => ?_)
  simp only [pI, pL, pR, pV, i10, ↓reduceIte, eM_behindOne_4]
  simp only [ilt, hv1, k0]
  by_cases c : bw l (tokO L B i) (tp (setl 5 st).1) < 0
  · rw [if_pos c]
    have hm := hm c
    obtain ⟨b1, -⟩ := bh_no hS hW h41 c
    simp only [pI, pL, pR, pV, i10, ↓reduceIte, eM_behindOne_60]
    refine sM_isOpen hP (by omega) (fun z => ?_) (fun z => ?_)
    · simp only [pI, pL, pR, pV, i10, ↓reduceIte, eM_behindOne_64]
      try rw [if_neg (by decide)]
      have e9 : (gI σ 120 9).toInt = rd σ 120 9 := rfl
      obtain ⟨-, -, ss⟩ := KW_sign hk.2.2.1
      have k41 : (41 : Int32).toInt = 41 := rfl
      have s41 : (gI σ 120 9 = 41) = (tokO L B i = 37) := by
        simp only [ieq, e9, k41]
        exact propext (ss 37 (by decide))
      simp only [s41]
      by_cases c37 : tokO L B i = 37
      · rw [if_pos c37]
        have s40 := q2.mp z
        rw [b1 ⟨c37, s40⟩] at he
        have he := he rfl rfl
        simp only [pI, pL, pR, pV, i10, ↓reduceIte, eM_behindOne_78]
        refine sM_settle (k := 1) ht rfl hv (by decide) (by omega) (by omega) hP (fun σ1 hF1 hP1 => ?_)
        have e1 : setl 1 st = ((setl 5 st).1, (setl 5 st).2) := by
          have r40 : rk 40 = 0 := by decide
          rw [setl_two (show (1 : Int) ≤ 5 by decide) st, setl_no (k := 1) (st := (setl 5 st).1) (Or.inr (by rw [s40, r40]; decide)), List.append_nil]
        rw [e1] at hP1
        have hlen5 := setl_len (k := 5) st
        have hS5 := (setl_sv (k := 5) st hS)
        have hT1 := TpM_s hF1 hT
        have hk1 := MTk_s hF1 hk
        obtain ⟨r, hr⟩ : ∃ r, (setl 5 st).1 = 40 :: r := by
          cases hh : (setl 5 st).1 with
          | nil =>
            rw [hh] at s40
            exact absurd s40 (by decide)
          | cons o r =>
            rw [hh] at s40
            have s40 : o = 40 := s40
            exact ⟨r, by rw [s40]⟩
        have hP1 : MPt t l (setl 5 st).1 (cd ++ (setl 5 st).2) σ1 := hP1
        rw [hr] at hP1 hlen5 he hS5
        have he : Eo t L B l Φ σ (tokE L B i) (setl 7 r).1 (cd ++ ((setl 5 st).2 ++ (setl 7 r).2)) := he
        rw [← List.append_assoc] at he
        rw [List.length_cons] at hlen5
        obtain ⟨p1, p2, p3, p4, p5, p6, p7, p8⟩ := hP1
        have hdep : dep (40 :: r) = dep r + 1 := by
          rw [dep_c]
          rfl
        have g16 : (gI σ1 120 16).toInt = ((r.length + 1 : Nat) : Int) := p4
        have g17 : (gI σ1 120 17).toInt = ((dep r + 1 : Nat) : Int) := by
          rw [← hdep]
          exact p6
        have hdr := hS5.2
        rw [hdep] at hdr
        have v16 : (gI σ1 120 16 - 1).toInt = (r.length : Nat) := by rw [tM (by rw [g16, tl1]; omega), g16, tl1]; omega
        have v17 : (gI σ1 120 17 - 1).toInt = (dep r : Nat) := by rw [tM (by rw [g17, tl1]; omega), g17, tl1]; omega
        simp only [pI, pL, pR, pV, i10, ↓reduceIte, eM_behindOne_83]
        have n17 : gI (sI σ1 120 16 (gI σ1 120 16 - 1)) 120 17 = gI σ1 120 17 := gIne2 (by omega)
        rw [n17]
        generalize gI σ1 120 16 - 1 = y16 at *
        generalize gI σ1 120 17 - 1 = y17 at *
        have e : ∀ k, k ≠ 16 → k ≠ 17 → rd (sI (sI σ1 120 16 y16) 120 17 y17) 120 k = rd σ1 120 k := fun k w1 w2 => by rw [rdne2 w2, rdne2 w1]
        have ea : ∀ a k, a ≠ 120 → rd (sI (sI σ1 120 16 y16) 120 17 y17) a k = rd σ1 a k := fun a k w => by rw [rdne w, rdne w]
        have hP2 : MPt t l r (cd ++ (setl 5 st).2) (sI (sI σ1 120 16 y16) 120 17 y17) := ⟨by rw [e _ (by omega) (by omega)]; exact p1, by rw [e _ (by omega) (by omega)]; exact p2, by rw [e _ (by omega) (by omega)]; exact p3, by rw [rdne2 (by omega), rdeq]; exact v16, MStk.of (σ := σ1) r (fun k _ => ea _ _ (by omega)) p5.2, by rw [rdeq]; exact v17, MCode_lt _ 0 (fun k _ _ => ea _ _ (by omega)) p7, by rw [e _ (by omega) (by omega)]; exact p8⟩
        have hl1 : (cd ++ (setl 5 st).2).length = cd.length + (setl 5 st).2.length := List.length_append
        have hFa := (Fr_sl hF1).tr ((flI (t := t) (k := 16) (v := y16) (σ := σ1) (by omega)).tr (flI (k := 17) (v := y17) (by omega)))
        refine sM_nextP (d := d + 1) (fl := rd (sI (sI σ1 120 16 y16) 120 17 y17) 120 18) (hT1.e (e _ (by omega) (by omega)) (fun k _ => ea _ _ (by omega))) (by rw [e _ (by omega) (by omega)]; exact hk1.2.1) hTe hP2 rfl (by omega) (by omega) (fun σ2 a2 b2 => ?_)
        simp only [pI, pL, pR, pV, i10, ↓reduceIte, eM_behindOne_107]
        refine sM_endOne (d := d) ht b2.1 b2.2.1 hTe b2.2.2.2.1 (Sv_ops hS5.1.2) (by omega) (by omega) (fun c σ' x y => ?_) (fun c1 c2 σ' x y => ?_) (fun c1 c2 σ' x y => ?_)
        · simp only [pI, pL, pR, pV, i10, ↓reduceIte, eM_behindOne_111]
          exact he.1 c σ' ((hFa.tr a2).tr x) y
        · simp only [pI, pL, pR, pV, i10, ↓reduceIte, eM_behindOne_111]
          exact he.2.1 c1 c2 σ' 1 ((hFa.tr a2).tr x) y rfl
        · simp only [pI, pL, pR, pV, i10, ↓reduceIte, eM_behindOne_111]
          exact he.2.2 c1 c2 σ' ((hFa.tr a2).tr x) y
      · rw [if_neg c37]
        simp only [pI, pL, pR, pV, i10, ↓reduceIte, eM_behindOne_76]
        exact hm (fun w => c37 w.1)
    · simp only [pI, pL, pR, pV, i10, ↓reduceIte, eM_behindOne_64]
      try simp only [if_true]
      simp only [pI, pL, pR, pV, i10, ↓reduceIte, eM_behindOne_76]
      exact hm (fun w => z (q2.mpr w.2))
  · rw [if_neg c]
    obtain ⟨b1, b2, b3, b4, b5⟩ := bh_op hS hW h41 (o := tokO L B i) (by omega)
    have h0 := h0 b1 b2
    generalize hx : bw l (tokO L B i) (tp (setl 5 st).1) = x at *
    have fin : ∀ (w : Int32) (k : Int), w.toInt = k → k = (if rk x = 4 then 5 else rk x) → bM_behindOne_26 true NOB (wp true (d + 3)) Φ (kM_behindOne (d + 3) Φ) [.ref 120, .int v] [.int w, .ref 120] σ := fun w k hw hkk => by
      obtain ⟨c1, c2⟩ := b5 k hkk
      rw [c1, c2] at h0
      have k1 : 1 ≤ k := by
        rw [hkk]
        split <;> omega
      have hlen2 := setl_len (k := k) st
      have hdl := setl_sv (k := k) st hS
      simp only [pI, pL, pR, pV, i10, ↓reduceIte, eM_behindOne_26]
      refine sM_settle (d := d + 1) ht hw hv k1 (by omega) (by omega) hP (fun σ1 hF1 hP1 => ?_)
      have hT1 := TpM_s hF1 hT
      have hk1 := MTk_s hF1 hk
      generalize (setl k st).1 = s1 at *
      generalize (setl k st).2 = cc at *
      obtain ⟨p1, p2, p3, p4, p5, p6, p7, p8⟩ := hP1
      have g16 : (gI σ1 120 16).toInt = (s1.length : Nat) := p4
      have v16 : (gI σ1 120 16 + 1).toInt = ((s1.length + 1 : Nat) : Int) := by rw [tq1 _ (by omega), g16]; omega
      simp only [pI, pL, pR, pV, i10, ↓reduceIte, eM_behindOne_29]
      rw [show ix (gI σ1 120 16) = s1.length from ix_of g16]
      have n16 : gI (sI σ1 125 s1.length v) 120 16 = gI σ1 120 16 := gIne (by omega)
      rw [n16]
      refine ⟨⟨by omega, by omega⟩, ?_⟩
      generalize gI σ1 120 16 + 1 = y16 at *
      have e : ∀ k, k ≠ 16 → k ≠ 18 → rd (sI (sI (sI σ1 125 s1.length v) 120 16 y16) 120 18 0) 120 k = rd σ1 120 k := fun k w1 w2 => by rw [rdne2 w2, rdne2 w1, rdne (by omega)]
      have r0 : ¬ (rk x = 0 ∨ rk x = 3 ∨ rk x = 7) := by omega
      have hP2 : MPt t l (x :: s1) (cd ++ cc) (sI (sI (sI σ1 125 s1.length v) 120 16 y16) 120 18 0) := by
        refine ⟨by rw [e _ (by omega) (by omega)]; exact p1, by rw [e _ (by omega) (by omega)]; exact p2, by rw [e _ (by omega) (by omega)]; exact p3, by rw [rdne2 (by omega), rdeq]; exact v16, ⟨?_, MStk.of (σ := σ1) s1 (fun k hk => ?_) p5⟩, ?_, MCode_lt _ 0 (fun k _ _ => by rw [rdne (by omega), rdne (by omega), rdne (by omega)]) p7, by rw [e _ (by omega) (by omega)]; exact p8⟩
        · rw [rdne (by omega), rdne (by omega), rdeq]
          exact hv1
        · rw [rdne (by omega), rdne (by omega), rdne2 (by omega)]
        · rw [e _ (by omega) (by omega), dep_c, if_neg r0]
          exact p6
      have hF : Fr (FMl t) σ (sI (sI (sI σ1 125 s1.length v) 120 16 y16) 120 18 0) := (Fr_sl hF1).tr (((flP (by omega)).tr (flI (by omega))).tr (flI (by omega)))
      have hl1 : (cd ++ cc).length = cd.length + cc.length := List.length_append
      refine sM_nextP (d := d + 1) (fl := 0) (hT1.e (e _ (by omega) (by omega)) (fun k _ => by rw [rdne (by omega), rdne (by omega), rdne (by omega)])) (by rw [e _ (by omega) (by omega)]; exact hk1.2.1) hTe hP2 (by rw [rdeq]; rfl) (by rw [List.length_cons]; omega) (by omega) (fun σ2 a2 b2 => ?_)
      simp only [pI, pL, pR, pV, i10, ↓reduceIte, eM_behindOne_58]
      exact h0 σ2 (hF.tr a2) b2
    refine sM_rank (by rw [hv1]; exact b3) (fun w hw => ?_)
    rw [hv1] at hw
    simp only [pI, pL, pR, pV, i10, ↓reduceIte, eM_behindOne_14]
    simp only [ieq, hw, k4]
    by_cases c4 : rk x = 4
    · rw [if_pos c4]
      exact fin 5 5 rfl (by rw [if_pos c4])
    · rw [if_neg c4]
      simp only [pI, pL, pR, pV, i10, ↓reduceIte, eM_behindOne_22]
      refine sM_rank (by rw [hv1]; exact b3) (fun w2 hw2 => ?_)
      rw [hv1] at hw2
      exact fin w2 _ hw2 (by rw [if_neg c4])
