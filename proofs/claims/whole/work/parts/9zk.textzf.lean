/-! TEXTS: the reference reads a clause, a text -/
theorem sM_clause {d : Nat} {Φ : Po} {t L i : Nat} {B : Nat → Int} {T : TT} {σ : Sg} (ht : t < 4) (g : TMI t L B i T σ) (h40 : tokO L B i ≠ 40) (hPI : PInv i T)
    (h0 : (clF L B i T).1.1 = 0 → ∀ σ' : Sg, Fr (FMx t) σ σ' → TMI t L B (clF L B i T).1.2.2 (clF L B i T).2 σ' → Φ (some (.int 0)) σ')
    (hf : (clF L B i T).1.1 ≠ 0 → ∀ (σ' : Sg) (v : Int32), Fr (FMx t) σ σ' → rd σ' 120 8 = ((clF L B i T).1.2.1 : Nat) → v.toInt = (clF L B i T).1.1 → Φ (some (.int v)) σ') : wp true (d + 11) nM_clause [.ref 120] σ Φ := by
  have k0 : (0 : Int32).toInt = 0 := rfl
  have k4 : (4 : Int32).toInt = 4 := rfl
  have k24 : (24 : Int32).toInt = 24 := rfl
  have k59 : (59 : Int32).toInt = 59 := rfl
  obtain ⟨hT, hk, hi, hB, hN⟩ := g
  obtain ⟨m1, m2, m3, m4, m5⟩ := id hB
  have hL := hT.1.1
  have h24 := hPI.1
  have hpl := hPI.2.1
  obtain ⟨e1, e2⟩ := tok_go hT.1 hi h40
  have g12 : (gI σ 120 12).toInt = ((705 * t : Nat) : Int) := m1
  have i12 : ix (gI σ 120 12) = 705 * t := ix_of g12
  have gN : (gI σ 123 (705 * t)).toInt = (T.1 : Nat) := hN
  have c24 : (gI σ 123 (705 * t) = 24) = (T.1 = 24) := by rw [ieq, gN, k24]; exact propext ⟨fun q => by omega, fun q => by omega⟩
  -- behind the body
  have tail : ∀ (T2 : TT) (i2 : Nat) (σ' : Sg) (v1 v2 v3 v4 : Int32), Fr (FMx t) σ σ' → TpM L B σ' → MTk L B i2 σ' → i2 ≤ L → rd σ' 120 12 = ((705 * t : Nat) : Int) → rd σ' 123 (705 * t) = (T.1 : Nat) → T.1 < 24 → T2.1 = T.1 + 1 → T2.2.2.1.length ≤ 300 → (tokO L B i2 = 38 → clF L B i T = ((0, 0, tokE L B i2), T2) ∧ TMb t T2 σ') → (tokO L B i2 ≠ 38 → (clF L B i T).1.1 = 1 ∧ (clF L B i T).1.2.1 = tokP L B i2) → bM_clause_108 true NOB (wp true (d + 10)) Φ (kM_clause (d + 10) Φ) [.ref 120, .int v1, .int v2, .int v3, .int v4] [] σ' := fun T2 i2 σ' v1 v2 v3 v4 a1 a2 a3 a4 a5 a6 a7 a8 a9 b1 b2 => by
    have g12' : (gI σ' 120 12).toInt = ((705 * t : Nat) : Int) := a5
    have i12' : ix (gI σ' 120 12) = 705 * t := ix_of g12'
    have gN' : (gI σ' 123 (705 * t)).toInt = (T.1 : Nat) := a6
    have vN : (gI σ' 123 (705 * t) + 1).toInt = ((T2.1 : Nat) : Int) := by rw [tq1 _ (by omega), gN', a8]; omega
    simp only [pI, pL, pR, pV, i10, ↓reduceIte, eM_clause_108]
    rw [i12']
    generalize gI σ' 123 (705 * t) + 1 = y at *
    have e9 : (gI (sI σ' 123 (705 * t) y) 120 9).toInt = rd σ' 120 9 := by rw [gIne (by omega)]; rfl
    have s38 := (KW_sign a3.2.2.1).2.2 38 (by decide)
    have eO : ordP L B (tokP L B i2) = tokO L B i2 := rfl
    rw [eO] at s38
    have c59 : (gI (sI σ' 123 (705 * t) y) 120 9 = 59) = (tokO L B i2 = 38) := by rw [ieq, e9, k59]; exact propext s38
    refine ⟨⟨by omega, by omega⟩, ⟨by omega, by omega⟩, ?_⟩
    simp only [c59]
    have fy : Fr (FMx t) σ' (sI σ' 123 (705 * t) y) := fxT (by omega)
    have ea : ∀ a k, a ≠ 123 → rd (sI σ' 123 (705 * t) y) a k = rd σ' a k := fun a k q => rdne q
    by_cases c : tokO L B i2 = 38
    · rw [if_pos c]
      obtain ⟨b3, b4⟩ := b1 c
      rw [b3] at h0
      simp only [pI, pL, pR, pV, i10, ↓reduceIte, eM_clause_132]
      refine sM_nextToken (a2.e (ea _ _ (by omega)) (fun k _ => ea _ _ (by omega))) (by rw [ea _ _ (by omega)]; exact a3.2.1) (tokE_L hT.1 a4) (fun σ3 f1 f2 f3 => ?_)
      simp only [pI, pL, pR, pV, i10, ↓reduceIte, eM_clause_136]
      refine h0 rfl σ3 ((a1.tr fy).tr (Fr_tx f1)) ⟨f2, f3, tokE_L hT.1 a4, TMb.of ht b4 (fun k q => by rw [f1.1 _ _ (FMt_no (by omega)), gIne (by omega)]) (fun k q1 q2 => by rw [f1.rd (FMt_no (by omega)), rdne2 (by omega)]) a9 (show T2.1 ≤ 24 by omega), ?_⟩
      rw [f1.rd (FMt_no (by omega)), rdeq]
      exact vN
    · rw [if_neg c]
      obtain ⟨b3, b4⟩ := b2 c
      exact hf (by omega) _ 1 (a1.tr fy) (by rw [ea _ _ (by omega), b4]; exact a3.1) b3.symm
  apply wM_clause
  simp only [pI, pL, pR, pV, i10, ↓reduceIte, eM_clause_0]
  refine sM_sortOf (d := d + 5) hT hi hk (fun v hv => ?_)
  simp only [pI, pL, pR, pV, i10, ↓reduceIte, eM_clause_4]
  simp only [ile, hv, k0]
  have clf : bcF T (tokO L B i) ≠ 0 → clF L B i T = ((bcF T (tokO L B i), tokP L B i, 0), T) := fun q => by
    unfold clF
    rw [if_pos q]
  by_cases o10 : tokO L B i ≤ 10
  · rw [if_pos o10] at hv ⊢
    rw [if_pos (by omega)]
    generalize ho : tokO L B i = o at *
    -- no fault yet
    have go29 : ¬ (o < 5 ∧ (T.2.2.2 o).isSome = true) → bM_clause_29 true NOB (wp true (d + 10)) Φ (kM_clause (d + 10) Φ) [.ref 120, .int v, .retAddr 0, .retAddr 0, .retAddr 0] [] σ := fun q => by
      simp only [pI, pL, pR, pV, i10, ↓reduceIte, eM_clause_29]
      rw [i12]
      simp only [c24]
      refine ⟨⟨by omega, by omega⟩, ?_⟩
      by_cases cN : T.1 = 24
      · rw [if_pos cN]
        have eb : bcF T o = 6 := by
          unfold bcF
          rw [if_neg (by omega), if_neg q, if_pos cN]
        rw [clf (by omega), eb] at hf
        exact hf (show ¬ (6 : Int) = 0 by decide) σ 6 Fr.rf hk.1 rfl
      · rw [if_neg cN]
        have eb : bcF T o = 0 := by
          unfold bcF
          rw [if_neg (by omega), if_neg q, if_neg cN]
        have hn : T.1 < 24 := by omega
        have ecl : clF L B i T = if o < 5 then (if (lawF L B o 302 (tokE L B i) [] [] 0).1 ≠ 0 then (((lawF L B o 302 (tokE L B i) [] [] 0).1, (lawF L B o 302 (tokE L B i) [] [] 0).2.1, 0), T) else ((0, 0, (lawF L B o 302 (tokE L B i) [] [] 0).2.2.1), addL T o (lawF L B o 302 (tokE L B i) [] [] 0).2.2.2)) else (if (deedF L B o (tokE L B i)).1.1 ≠ 0 then ((deedF L B o (tokE L B i)).1, T) else ((deedF L B o (tokE L B i)).1, addD T ((o : Nat), (deedF L B o (tokE L B i)).2))) := by
          unfold clF
          rw [ho, eb, if_neg (fun z => z rfl)]
        -- from the body on
        have body : ∀ σ1 : Sg, Fr (FMx t) σ σ1 → (∀ k, k ≠ 20 → rd σ1 120 k = rd σ 120 k) → (∀ a k, a ≠ 120 → rd σ1 a k = rd σ a k) → gL σ1 120 11 = gL σ 120 11 → gI σ1 120 20 = (if o < 5 then onc (fun j => if j = o then true else (T.2.2.2 j).isSome) else onc (fun j => (T.2.2.2 j).isSome)) → bM_clause_65 true NOB (wp true (d + 10)) Φ (kM_clause (d + 10) Φ) [.ref 120, .int v, .int (gI σ 123 (705 * t)), .retAddr 0, .retAddr 0] [] σ1 := fun σ1 a1 a2 a3 a4 a5 => by
          have f2 : Fr (FMx t) σ1 (sI σ1 120 14 v) := fxJ (by omega)
          have j1 : ∀ k, k ≠ 20 → k ≠ 14 → rd (sI σ1 120 14 v) 120 k = rd σ 120 k := fun k q1 q2 => by rw [rdne2 q2, a2 k q1]
          have j2 : ∀ a k, a ≠ 120 → rd (sI σ1 120 14 v) a k = rd σ a k := fun a k q => by rw [rdne q, a3 a k q]
          have j3 : rd (sI σ1 120 14 v) 120 14 = (o : Nat) := by rw [rdeq]; exact hv
          have j4 : gI (sI σ1 120 14 v) 120 20 = gI σ1 120 20 := gIne2 (by omega)
          simp only [pI, pL, pR, pV, i10, ↓reduceIte, eM_clause_65]
          have hTe := tokE_L hT.1 hi
          refine sM_nextToken (d := d + 8) (hT.e (j1 _ (by omega) (by omega)) (fun k _ => j2 _ _ (by omega))) (by rw [j1 _ (by omega) (by omega)]; exact hk.2.1) hTe (fun σ3 b1 b2 b3 => ?_)
          generalize sI σ1 120 14 v = σ2 at *
          have r12 : ∀ k, k = 12 ∨ k = 13 → rd σ3 120 k = rd σ 120 k := fun k q => by rw [b1.rd (FMt_no (by omega)), j1 _ (by omega) (by omega)]
          have r14 : rd σ3 120 14 = (o : Nat) := by rw [b1.rd (FMt_no (by omega))]; exact j3
          have r20 : gI σ3 120 20 = gI σ1 120 20 := by rw [b1.1 _ _ (FMt_no (by omega))]; exact j4
          have r123 : ∀ k, rd σ3 123 k = rd σ 123 k := fun k => by rw [b1.rd (FMt_no (by omega)), j2 _ _ (by omega)]
          have F3 : Fr (FMx t) σ σ3 := (a1.tr f2).tr (Fr_tx b1)
          generalize hE : tokE L B i = e at *
          have l4 : (4 : Int32).toInt = 4 := rfl
          have p12 : (gI σ3 120 12).toInt = ((705 * t : Nat) : Int) := (r12 12 (by omega)).trans m1
          have q1 : (gI σ3 120 12 + 1).toInt = ((705 * t + 1 : Nat) : Int) := by rw [tq1 _ (by omega), p12]; omega
          have q2 : (4 * gI σ 123 (705 * t)).toInt = ((4 * T.1 : Nat) : Int) := by rw [tX (by rw [gN, l4]; omega), gN, l4]; omega
          have q3 : (gI σ3 120 12 + 1 + 4 * gI σ 123 (705 * t)).toInt = ((705 * t + 1 + 4 * T.1 : Nat) : Int) := by rw [tP (by rw [q1, q2]; omega), q1, q2]; omega
          simp only [pI, pL, pR, pV, i10, ↓reduceIte, eM_clause_74]
          rw [show ix (gI σ3 120 12 + 1 + 4 * gI σ 123 (705 * t)) = 705 * t + 1 + 4 * T.1 from ix_of q3]
          generalize gI σ3 120 12 + 1 + 4 * gI σ 123 (705 * t) = y at *
          refine ⟨⟨by omega, by omega⟩, ?_⟩
          have f4 : Fr (FMx t) σ3 (sI σ3 123 (705 * t + 1 + 4 * T.1) v) := fxT (by omega)
          have s1 : ∀ a k, a ≠ 123 → rd (sI σ3 123 (705 * t + 1 + 4 * T.1) v) a k = rd σ3 a k := fun a k q => rdne q
          have s2 : ∀ k, k ≠ 705 * t + 1 + 4 * T.1 → rd (sI σ3 123 (705 * t + 1 + 4 * T.1) v) 123 k = rd σ 123 k := fun k q => by rw [rdne2 q, r123]
          have s3 : rd (sI σ3 123 (705 * t + 1 + 4 * T.1) v) 123 (705 * t + 1 + 4 * T.1) = (o : Nat) := by rw [rdeq]; exact hv
          have s4 : gL (sI σ3 123 (705 * t + 1 + 4 * T.1) v) 120 11 = gL σ3 120 11 := rfl
          have s5 : gI (sI σ3 123 (705 * t + 1 + 4 * T.1) v) 120 20 = gI σ1 120 20 := by rw [gIne (by omega)]; exact r20
          generalize sI σ3 123 (705 * t + 1 + 4 * T.1) v = σ4 at *
          have F4 : Fr (FMx t) σ σ4 := F3.tr f4
          have T4 : TpM L B σ4 := b2.e (s1 _ _ (by omega)) (fun k _ => s1 _ _ (by omega))
          have K4 : MTk L B e σ4 := b3.e (fun k _ _ => s1 _ _ (by omega)) s4
          have t12 : ∀ k, k = 12 ∨ k = 13 → rd σ4 120 k = rd σ 120 k := fun k q => by rw [s1 _ _ (by omega), r12 k q]
          have C4 : MCode σ4 t 0 T.2.2.1 := MCode_lt _ 0 (fun k q1 q2 => s2 _ (by omega)) m4
          by_cases c5 : o < 5
          · rw [if_pos c5] at a5 ecl
            have h14 : rd σ4 120 14 = (o : Nat) := by rw [s1 _ _ (by omega)]; exact r14
            have law : ∀ x2 : Int32, x2.toInt = (if o = 0 then 1 else 0) → bM_body_188 true NOB (wp true (d + 9)) (pI (fun a b c => bM_clause_98 true NOB (wp true (d + 10)) Φ (kM_clause (d + 10) Φ) a b c) [.ref 120, .int v, .int (gI σ 123 (705 * t)), .int y, .retAddr 0] []) (kM_body (d + 9) (pI (fun a b c => bM_clause_98 true NOB (wp true (d + 10)) Φ (kM_clause (d + 10) Φ) a b c) [.ref 120, .int v, .int (gI σ 123 (705 * t)), .int y, .retAddr 0] [])) [.ref 120, .int v, .int y] [.int x2, .int y, .ref 120] σ4 := fun x2 hx2 => by
              simp only [pI, pL, pR, pV, i10, ↓reduceIte, eM_body_188]
              refine sM_lawClause (d := d) (l := o) (n := T.1) (pr := T.2.2.1) ht hn q3 hx2 T4 K4 hTe (by omega) (by rw [t12 _ (by omega)]; exact m1) (by rw [t12 _ (by omega)]; exact m3) h14 C4 (fun σ' i2 w1 w2 w3 w4 w5 w6 w7 w8 w9 => ?_) (fun z σ' v' w1 w2 w3 => ?_)
              · simp only [pI, pL, pR, pV, i10, ↓reduceIte, eM_body_191]
                simp only [pI, pL, pR, pV, i10, ↓reduceIte, eM_clause_98]
                try simp only [if_true]
                have wN : rd σ' 123 (705 * t) = (T.1 : Nat) := by rw [w7 _ (by omega) (by omega), s2 _ (by omega)]; exact hN
                by_cases c : tokO L B i2 = 38
                · obtain ⟨y1, y2, y3, y4, y5, y6⟩ := w8 c
                  obtain ⟨d1, d2, d3⟩ := lawF_done (F := T.2.2.1.length) hT.1 302 e [] [] 0 hTe (Iv_start (by omega)) y1
                  have d1 := d1.2
                  generalize lawF L B o 302 e [] [] 0 = R at *
                  have hlen : (T.2.2.1 ++ R.2.2.2).length = T.2.2.1.length + R.2.2.2.length := List.length_append
                  refine tail (addL T o R.2.2.2) i2 σ' _ _ _ _ (F4.tr w1) w2 w3 w4 w5 wN hn rfl (show (T.2.2.1 ++ R.2.2.2).length ≤ 300 by omega) (fun _ => ⟨?_, w5, fun k hk2 => ?_, y3, y4, ?_⟩) (fun q => absurd c q)
                  · rw [ecl, if_neg (fun w => w y1), y2]
                  · have hk2 : k < T.1 + 1 := hk2
                    by_cases zk : k = T.1
                    · subst zk
                      have eT : (addL T o R.2.2.2).2.1 T.1 = (((o : Nat) : Int), (T.2.2.1.length : Int), ((T.2.2.1.length + R.2.2.2.length : Nat) : Int), 0) := if_pos rfl
                      rw [eT]
                      refine ⟨?_, y5, fun _ => ?_, fun y7 => ?_⟩
                      · rw [w7 _ (by omega) (by omega)]
                        exact s3
                      · rw [y6, hlen]
                      · have y7 : ((o : Nat) : Int) = 5 ∨ ((o : Nat) : Int) = 7 ∨ ((o : Nat) : Int) = 8 := y7
                        omega
                    · have eT : (addL T o R.2.2.2).2.1 k = T.2.1 k := if_neg zk
                      rw [eT, w7 _ (by omega) (by omega), w7 _ (by omega) (by omega), w7 _ (by omega) (by omega), w7 _ (by omega) (by omega), s2 _ (by omega), s2 _ (by omega), s2 _ (by omega), s2 _ (by omega)]
                      exact m2 k (by omega)
                  · rw [w6, s5, a5]
                    refine onc_cg (fun l _ => ?_)
                    show (if l = o then true else (T.2.2.2 l).isSome) = ((if l = o then some (T.2.2.1.length, R.2.2.2) else T.2.2.2 l) : Option (Nat × List (Int × Int))).isSome
                    by_cases zl : l = o
                    · rw [if_pos zl, if_pos zl]
                      rfl
                    · rw [if_neg zl, if_neg zl]
                · obtain ⟨y1, y2⟩ := w9 c
                  refine tail (addD T (0, 0, 0, 0)) i2 σ' _ _ _ _ (F4.tr w1) w2 w3 w4 w5 wN hn rfl (show T.2.2.1.length ≤ 300 by omega) (fun q => absurd q c) (fun _ => ?_)
                  rw [ecl, if_pos (by omega)]
                  exact ⟨y1, y2⟩
              · rw [if_pos z] at ecl
                rw [ecl] at hf
                have vn : ¬ v'.toInt = 0 := by rw [w3]; exact z
                simp only [pI, pL, pR, pV, i10, ↓reduceIte, eM_body_191]
                simp only [pI, pL, pR, pV, i10, ↓reduceIte, eM_clause_98]
                simp only [ieq, k0]
                rw [if_neg vn]
                exact hf z σ' v' (F4.tr w1) w2 w3
            apply wM_body
            simp only [pI, pL, pR, pV, i10, ↓reduceIte, eM_body_0]
            simp only [hv]
            rw [if_neg (by omega), if_neg (by omega), if_neg (by omega), if_neg (by omega), if_neg (by omega), if_neg (by omega)]
            simp only [pI, pL, pR, pV, i10, ↓reduceIte, eM_body_177]
            simp only [ieq, hv, k0]
            by_cases c0 : o = 0
            · rw [if_pos (by omega)]
              exact law 1 (by rw [if_pos c0]; rfl)
            · rw [if_neg (by omega)]
              simp only [pI, pL, pR, pV, i10, ↓reduceIte, eM_body_187]
              exact law 0 (by rw [if_neg c0]; rfl)
          · rw [if_neg c5] at a5 ecl
            have pre := deed_pre (L := L) (o := o) (i := e) (B := B)
            refine sM_bodyD (d := d + 3) (q := 705 * t + 1 + 4 * T.1) ⟨by omega, o10⟩ hv q3 ⟨Fr.rf, T4, K4, hTe⟩ (by omega) (fun z σ' w1 w2 w3 w4 w5 => ?_) (fun z σ' v' w1 w2 w3 => ?_)
            · obtain ⟨u1, u2, u3, u4⟩ := w1
              simp only [pI, pL, pR, pV, i10, ↓reduceIte, eM_clause_98]
              try simp only [if_true]
              have epre : (deedF L B o e).1 = if tokO L B (preF L B o e).2.2 = 38 then (0, 0, tokE L B (preF L B o e).2.2) else (1, tokP L B (preF L B o e).2.2, 0) := by
                rw [pre]
                exact if_neg (fun w => w z)
              refine tail (addD T ((o : Nat), (deedF L B o e).2)) (preF L B o e).2.2 σ' _ _ _ _ (F4.tr (Fr_dx hn u1)) u2 u3 u4 (by rw [u1.rd (FMd_no (by omega)), t12 _ (by omega)]; exact m1) (by rw [w5 _ (by omega), s2 _ (by omega)]; exact hN) hn rfl (show T.2.2.1.length ≤ 300 by omega) (fun c => ?_) (fun c => ?_)
              · rw [if_pos c] at epre
                refine ⟨?_, ?_, fun k hk2 => ?_, ?_, ?_, ?_⟩
                · rw [ecl, epre]
                  exact if_neg (fun w => w rfl)
                · rw [u1.rd (FMd_no (by omega)), t12 _ (by omega)]
                  exact m1
                · have hk2 : k < T.1 + 1 := hk2
                  by_cases zk : k = T.1
                  · subst zk
                    have eT : (addD T ((o : Nat), (deedF L B o e).2)).2.1 T.1 = (((o : Nat) : Int), (deedF L B o e).2) := if_pos rfl
                    rw [eT]
                    refine ⟨?_, ?_, fun y1 => ?_, fun y1 => ?_⟩
                    · rw [w5 _ (by omega)]
                      exact s3
                    · rw [show 705 * t + 2 + 4 * T.1 = 705 * t + 1 + 4 * T.1 + 1 from by omega]
                      exact w2
                    · rw [show 705 * t + 3 + 4 * T.1 = 705 * t + 1 + 4 * T.1 + 2 from by omega]
                      refine w3 (fun y2 => y1 ?_)
                      show ((o : Nat) : Int) = 10
                      omega
                    · rw [show 705 * t + 4 + 4 * T.1 = 705 * t + 1 + 4 * T.1 + 3 from by omega]
                      refine w4 ?_
                      have y1 : ((o : Nat) : Int) = 5 ∨ ((o : Nat) : Int) = 7 ∨ ((o : Nat) : Int) = 8 := y1
                      omega
                  · have eT : (addD T ((o : Nat), (deedF L B o e).2)).2.1 k = T.2.1 k := if_neg zk
                    rw [eT, w5 _ (by omega), w5 _ (by omega), w5 _ (by omega), w5 _ (by omega), s2 _ (by omega), s2 _ (by omega), s2 _ (by omega), s2 _ (by omega)]
                    exact m2 k (by omega)
                · rw [u1.rd (FMd_no (by omega)), t12 _ (by omega)]
                  exact m3
                · exact MCode_lt _ 0 (fun k q1 q2 => w5 _ (by omega)) C4
                · rw [u1.1 _ _ (FMd_no (by omega)), s5, a5]
                  rfl
              · rw [if_neg c] at epre
                rw [ecl, epre]
                rw [if_pos (show ¬ (1 : Int) = 0 by decide)]
                exact ⟨rfl, rfl⟩
            · have e2 : (deedF L B o e).1 = preF L B o e := by rw [pre, wrdT_f z]
              have vn : ¬ v'.toInt = 0 := by rw [w3]; exact z
              rw [if_pos (by rw [e2]; exact z), e2] at ecl
              rw [ecl] at hf
              simp only [pI, pL, pR, pV, i10, ↓reduceIte, eM_clause_98]
              simp only [ieq, k0]
              rw [if_neg vn]
              exact hf z σ' v' (F4.tr (Fr_dx hn w1)) w2 w3
        simp only [pI, pL, pR, pV, i10, ↓reduceIte, eM_clause_48]
        simp only [ilt, hv, k4]
        by_cases c5 : o < 5
        · rw [if_neg (by omega)]
          refine body _ (fxJ (by omega)) (fun k q => rdne2 q) (fun a k q => rdne q) rfl ?_
          rw [if_pos c5, gIeq, m5]
          exact onc_or hv c5
        · rw [if_pos (by omega)]
          exact body σ Fr.rf (fun _ _ => rfl) (fun _ _ _ => rfl) rfl (by rw [if_neg c5]; exact m5)
    simp only [pI, pL, pR, pV, i10, ↓reduceIte, eM_clause_11]
    simp only [ilt, hv, k4]
    by_cases c5 : o < 5
    · rw [if_neg (by omega), m5]
      refine sM_hasL (f := fun j => (T.2.2.2 j).isSome) hv c5 (fun q => ?_) (fun q => ?_)
      · simp only [pI, pL, pR, pV, i10, ↓reduceIte, eM_clause_24]
        try rw [if_neg (by decide)]
        have eb : bcF T o = 4 := by
          unfold bcF
          rw [if_neg (by omega), if_pos ⟨c5, q⟩]
        rw [clf (by omega), eb] at hf
        exact hf (show ¬ (4 : Int) = 0 by decide) σ 4 Fr.rf hk.1 rfl
      · simp only [pI, pL, pR, pV, i10, ↓reduceIte, eM_clause_24]
        try simp only [if_true]
        exact go29 (fun z => q z.2)
    · rw [if_pos (by omega)]
      exact go29 (fun z => c5 z.1)
  · rw [if_neg o10] at hv ⊢
    rw [if_neg (by omega)]
    have eb : bcF T (tokO L B i) = 1 := by
      unfold bcF
      rw [if_pos (by omega)]
    rw [clf (by omega), eb] at hf
    exact hf (show ¬ (1 : Int) = 0 by decide) σ 1 Fr.rf hk.1 rfl
