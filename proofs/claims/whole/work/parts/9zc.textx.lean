/-! TEXTS: the reference opens a word, ends a ONE -/
abbrev FMl (t : Nat) : Ls := [(120, 7, 20), (123, 705 * t + 97, 705 * t + 700), (125, 0, 160)]
theorem FMl_no {t a k : Nat} (h : (a ≠ 120 ∨ k < 7 ∨ 20 ≤ k) ∧ (a ≠ 123 ∨ k < 705 * t + 97 ∨ 705 * t + 700 ≤ k) ∧ a ≠ 125) : inS (FMl t) a k = false := not_inS (fun e he z => by
  obtain ⟨z1, z2, z3⟩ := z
  rcases List.mem_cons.mp he with rfl | he
  · have z1 : 120 = a := z1
    have z2 : 7 ≤ k := z2
    have z3 : k < 20 := z3
    omega
  rcases List.mem_cons.mp he with rfl | he
  · have z1 : 123 = a := z1
    have z2 : 705 * t + 97 ≤ k := z2
    have z3 : k < 705 * t + 700 := z3
    omega
  rw [List.mem_singleton] at he
  subst he
  have z1 : 125 = a := z1
  omega)
theorem Fr_sl {t : Nat} {σ σ' : Sg} (h : Fr (FMs t) σ σ') : Fr (FMl t) σ σ' := h.cov (fun e he => by
  rcases List.mem_cons.mp he with rfl | he
  · exact ⟨(120, 7, 20), by simp, rfl, by decide, by decide⟩
  rcases List.mem_cons.mp he with rfl | he
  · exact ⟨(120, 7, 20), by simp, rfl, by decide, by decide⟩
  rw [List.mem_singleton] at he
  subst he
  exact ⟨(123, 705 * t + 97, 705 * t + 700), by simp, rfl, Nat.le_refl _, Nat.le_refl _⟩)
theorem Fr_tl {t : Nat} {σ σ' : Sg} (h : Fr FMt σ σ') : Fr (FMl t) σ σ' := h.cov (fun e he => by
  rw [List.mem_singleton] at he
  subst he
  exact ⟨(120, 7, 20), by simp, rfl, by decide, by decide⟩)
theorem flI {t k : Nat} {σ : Sg} {v : Int32} (h : 7 ≤ k ∧ k < 20) : Fr (FMl t) σ (sI σ 120 k v) := Fr.sI (inS_r (lo := 7) (hi := 20) (by simp) h)
theorem flP {t k : Nat} {σ : Sg} {v : Int32} (h : k < 160) : Fr (FMl t) σ (sI σ 125 k v) := Fr.sI (inS_r (lo := 0) (hi := 160) (by simp) (by omega))
theorem TpM.e {L : Nat} {B : Nat → Int} {σ σ' : Sg} (e1 : rd σ' 120 4 = rd σ 120 4) (e2 : ∀ k, k < 300 → rd σ' 124 k = rd σ 124 k) (g : TpM L B σ) : TpM L B σ' := ⟨g.1, by rw [e1]; exact g.2.1, fun i hi => by
  have := g.1.1
  rw [e2 i (by omega)]
  exact g.2.2 i hi⟩
theorem MTk.e {L i : Nat} {B : Nat → Int} {σ σ' : Sg} (e1 : ∀ k, 7 ≤ k → k < 11 → rd σ' 120 k = rd σ 120 k) (e2 : gL σ' 120 11 = gL σ 120 11) (g : MTk L B i σ) : MTk L B i σ' := by
  obtain ⟨g1, g2, g3, g4⟩ := g
  exact ⟨by rw [e1 _ (by omega) (by omega)]; exact g1, by rw [e1 _ (by omega) (by omega)]; exact g2, by rw [e1 _ (by omega) (by omega), e2]; exact g3, by rw [e1 _ (by omega) (by omega)]; exact g4⟩
theorem TpM_s {t L : Nat} {B : Nat → Int} {σ σ' : Sg} (h : Fr (FMs t) σ σ') (g : TpM L B σ) : TpM L B σ' := g.e (h.rd (FMs_no (by omega))) (fun k _ => h.rd (FMs_no (by omega)))
theorem MTk_s {t L i : Nat} {B : Nat → Int} {σ σ' : Sg} (h : Fr (FMs t) σ σ') (g : MTk L B i σ) : MTk L B i σ' := g.e (fun k _ _ => h.rd (FMs_no (by omega))) (h.2.1 _ _ (FMs_no (by omega)))
theorem MPt_t {t l : Nat} {st : List Int} {cd : List (Int × Int)} {σ σ' : Sg} (hF : Fr FMt σ σ') (h : MPt t l st cd σ) (h160 : st.length ≤ 160) (h300 : cd.length ≤ 300) : MPt t l st cd σ' := h.of (fun k hk => hF.rd (FMt_no (by omega))) (fun k _ => hF.rd (FMt_no (by omega))) (fun k _ _ => hF.rd (FMt_no (by omega))) h160 h300
/-- where the reading of a law stands -/
def PS (t L : Nat) (B : Nat → Int) (l i : Nat) (st : List Int) (cd : List (Int × Int)) (fl : Int) (σ : Sg) : Prop := TpM L B σ ∧ MTk L B i σ ∧ i ≤ L ∧ MPt t l st cd σ ∧ rd σ 120 18 = fl
theorem sM_nextP {d : Nat} {Φ : Po} {t L l i : Nat} {B : Nat → Int} {st : List Int} {cd : List (Int × Int)} {fl : Int} {σ : Sg} (hT : TpM L B σ) (h7 : rd σ 120 7 = (i : Nat)) (hi : i ≤ L) (hP : MPt t l st cd σ) (h18 : rd σ 120 18 = fl) (h160 : st.length ≤ 160) (h300 : cd.length ≤ 300) (h : ∀ σ' : Sg, Fr (FMl t) σ σ' → PS t L B l i st cd fl σ' → Φ none σ') : wp true (d + 2) nM_nextToken [.ref 120] σ Φ := sM_nextToken hT h7 hi (fun σ' a b c => h σ' (Fr_tl a) ⟨b, c, hi, MPt_t a hP h160 h300, by rw [a.rd (FMt_no (by omega))]; exact h18⟩)
theorem sM_opened {d : Nat} {Φ : Po} {t L l i : Nat} {B : Nat → Int} {st : List Int} {cd : List (Int × Int)} {σ : Sg} {x1 : Int32} {x : Int} (hx : x1.toInt = x) (hr : rk x = 0 ∨ rk x = 3 ∨ rk x = 7) (g : PS t L B l i st cd 0 σ) (h160 : st.length < 160) (h300 : cd.length ≤ 300) (hf : dep st = 8 → Φ (some (.int 3)) σ) (h0 : dep st ≠ 8 → ∀ σ' : Sg, Fr (FMl t) σ σ' → PS t L B l (tokE L B i) (x :: st) cd 0 σ' → Φ (some (.int 0)) σ') : wp true (d + 3) nM_opened [.ref 120, .int x1] σ Φ := by
  have k8 : (8 : Int32).toInt = 8 := rfl
  obtain ⟨hT, hk, hi, hP, h18⟩ := g
  obtain ⟨p1, p2, p3, p4, p5, p6, p7, p8⟩ := id hP
  have g17 : (gI σ 120 17).toInt = (dep st : Nat) := p6
  have g16 : (gI σ 120 16).toInt = (st.length : Nat) := p4
  have hdl := dep_le st
  apply wM_opened
  simp only [pI, pL, pR, pV, i10, ↓reduceIte, eM_opened_0]
  simp only [ieq, g17, k8]
  by_cases c : dep st = 8
  · rw [if_pos (by omega)]
    exact hf c
  · rw [if_neg (by omega)]
    simp only [pI, pL, pR, pV, i10, ↓reduceIte, eM_opened_11]
    have b16 : gI (sI σ 120 17 (gI σ 120 17 + 1)) 120 16 = gI σ 120 16 := gIne2 (by omega)
    rw [b16, show ix (gI σ 120 16) = st.length from ix_of g16]
    refine ⟨⟨by omega, by omega⟩, ?_⟩
    have c16 : gI (sI (sI σ 120 17 (gI σ 120 17 + 1)) 125 st.length x1) 120 16 = gI σ 120 16 := by rw [gIne (by omega)]; exact b16
    rw [c16]
    have v17 : (gI σ 120 17 + 1).toInt = ((dep st + 1 : Nat) : Int) := by rw [tq1 _ (by omega), g17]; omega
    have v16 : (gI σ 120 16 + 1).toInt = ((st.length + 1 : Nat) : Int) := by rw [tq1 _ (by omega), g16]; omega
    generalize gI σ 120 17 + 1 = y17 at *
    generalize gI σ 120 16 + 1 = y16 at *
    have e : ∀ k, k ≠ 16 → k ≠ 17 → rd (sI (sI (sI σ 120 17 y17) 125 st.length x1) 120 16 y16) 120 k = rd σ 120 k := fun k q1 q2 => by rw [rdne2 q1, rdne (by omega), rdne2 q2]
    have hP2 : MPt t l (x :: st) cd (sI (sI (sI σ 120 17 y17) 125 st.length x1) 120 16 y16) := by
      refine ⟨by rw [e _ (by omega) (by omega)]; exact p1, by rw [e _ (by omega) (by omega)]; exact p2, by rw [e _ (by omega) (by omega)]; exact p3, by rw [rdeq]; exact v16, ⟨?_, MStk.of (σ := σ) st (fun k hk => ?_) p5⟩, ?_, MCode_lt cd 0 (fun k _ _ => by rw [rdne (by omega), rdne (by omega), rdne (by omega)]) p7, by rw [e _ (by omega) (by omega)]; exact p8⟩
      · rw [rdne (by omega), rdeq]; exact hx
      · rw [rdne (by omega), rdne2 (by omega), rdne (by omega)]
      · rw [rdne2 (by omega), rdne (by omega), rdeq, v17, dep_c, if_pos hr]
    have hF : Fr (FMl t) σ (sI (sI (sI σ 120 17 y17) 125 st.length x1) 120 16 y16) := ((flI (by omega)).tr (flP (by omega))).tr (flI (by omega))
    have hT2 : TpM L B (sI (sI (sI σ 120 17 y17) 125 st.length x1) 120 16 y16) := hT.e (e _ (by omega) (by omega)) (fun k _ => by rw [rdne (by omega), rdne (by omega), rdne (by omega)])
    refine sM_nextP hT2 (by rw [e _ (by omega) (by omega)]; exact hk.2.1) (tokE_L hT.1 hi) hP2 ((e 18 (by omega) (by omega)).trans h18) (by rw [List.length_cons]; omega) h300 (fun σ' a b => ?_)
    simp only [pI, pL, pR, pV, i10, ↓reduceIte, eM_opened_45]
    exact h0 c σ' (hF.tr a) b
theorem sM_endOne {d : Nat} {Φ : Po} {t L l i : Nat} {B : Nat → Int} {st : List Int} {cd : List (Int × Int)} {σ : Sg} (ht : t < 4) (hT : TpM L B σ) (hk : MTk L B i σ) (hi : i ≤ L) (hP : MPt t l st cd σ) (hv : ∀ x, x ∈ st → x ∈ opsL) (h300 : cd.length + st.length ≤ 300) (h160 : st.length ≤ 160)
    (hA : tp (setl 7 st).1 ≠ 41 → ∀ σ' : Sg, Fr (FMl t) σ σ' → PS t L B l i (setl 7 st).1 (cd ++ (setl 7 st).2) 1 σ' → Φ (some (.int 0)) σ')
    (hB : tp (setl 7 st).1 = 41 → tokO L B i ≠ 19 → ∀ σ' : Sg, Fr (FMl t) σ σ' → rd σ' 120 8 = tokP L B i → Φ (some (.int 1)) σ')
    (hC : tp (setl 7 st).1 = 41 → tokO L B i = 19 → ∀ σ' : Sg, Fr (FMl t) σ σ' → PS t L B l (tokE L B i) (8 :: (setl 7 st).1.tail) (cd ++ (setl 7 st).2) 0 σ' → Φ (some (.int 0)) σ') : wp true (d + 3) nM_endOne [.ref 120] σ Φ := by
  have k0 : (0 : Int32).toInt = 0 := rfl
  have k41 : (41 : Int32).toInt = 41 := rfl
  have hlen := setl_len (k := 7) st
  apply wM_endOne
  simp only [pI, pL, pR, pV, i10, ↓reduceIte, eM_endOne_0]
  refine sM_settle (k := 7) ht rfl hv (by decide) h300 h160 hP (fun σ1 hF1 hP1 => ?_)
  have hT1 := TpM_s hF1 hT
  have hk1 := MTk_s hF1 hk
  generalize (setl 7 st).2 = c2 at *
  generalize (setl 7 st).1 = s7 at *
  have hF2 : Fr (FMl t) σ1 (sI σ1 120 18 1) := flI (by omega)
  have e : ∀ k, k ≠ 18 → rd (sI σ1 120 18 1) 120 k = rd σ1 120 k := fun k q => rdne2 q
  have e2 : ∀ a k, a ≠ 120 → rd (sI σ1 120 18 1) a k = rd σ1 a k := fun a k q => rdne q
  have eL : gL (sI σ1 120 18 1) 120 11 = gL σ1 120 11 := rfl
  have e18 : rd (sI σ1 120 18 1) 120 18 = 1 := by rw [rdeq]; rfl
  have hl2 : (cd ++ c2).length ≤ 300 := by rw [List.length_append]; omega
  have hT2 : TpM L B (sI σ1 120 18 1) := hT1.e (e _ (by omega)) (fun k _ => e2 _ _ (by omega))
  have hk2 : MTk L B i (sI σ1 120 18 1) := hk1.e (fun k _ _ => e _ (by omega)) eL
  have hP2 : MPt t l s7 (cd ++ c2) (sI σ1 120 18 1) := hP1.of (fun k _ => e _ (by omega)) (fun k _ => e2 _ _ (by omega)) (fun k _ _ => e2 _ _ (by omega)) (by omega) hl2
  have hFa := (Fr_sl hF1).tr hF2
  simp only [pI, pL, pR, pV, i10, ↓reduceIte, eM_endOne_6]
  generalize sI σ1 120 18 1 = τ at *
  obtain ⟨p1, p2, p3, p4, p5, p6, p7, p8⟩ := id hP2
  have g16 : (gI τ 120 16).toInt = (s7.length : Nat) := p4
  simp only [ieq, g16, k0]
  cases s7 with
  | nil =>
    try rw [if_pos rfl]
    simp only [pI, pL, pR, pV, i10, ↓reduceIte, eM_endOne_34]
    exact hA (by decide) τ hFa ⟨hT2, hk2, hi, hP2, e18⟩
  | cons o r =>
    rw [List.length_cons] at g16 hlen
    have a16 : (gI τ 120 16 - 1).toInt = (r.length : Nat) := by rw [tM (by rw [g16, tl1]; omega), g16, tl1]; omega
    have i16 : ix (gI τ 120 16 - 1) = r.length := ix_of a16
    have g125 : (gI τ 125 r.length).toInt = o := p5.1
    rw [if_neg (by rw [List.length_cons]; omega), i16]
    simp only [g125, k41]
    refine ⟨⟨by omega, by omega⟩, ?_⟩
    by_cases c : o = 41
    · rw [if_pos c]
      have c' : tp (o :: r) = 41 := c
      simp only [pI, pL, pR, pV, i10, ↓reduceIte, eM_endOne_36]
      refine sM_w2 ?_
      simp only [pI, pL, pR, pV, i10, ↓reduceIte, eM_endOne_44]
      refine sM_isWord (o := 19) (by decide) wd19 hk2 (fun q => ?_) (fun q => ?_)
      · simp only [pI, pL, pR, pV, i10, ↓reduceIte, eM_endOne_47]
        try rw [if_neg (by decide)]
        simp only [pI, pL, pR, pV, i10, ↓reduceIte, eM_endOne_52]
        refine sM_nextP hT2 hk2.2.1 (tokE_L hT.1 hi) hP2 e18 (by rw [List.length_cons]; omega) hl2 (fun σ3 a b => ?_)
        obtain ⟨b1, b2, b3, b4, b5⟩ := b
        obtain ⟨r1, r2, r3, r4, r5, r6, r7, r8⟩ := id b4
        have h16 : (gI σ3 120 16).toInt = ((r.length + 1 : Nat) : Int) := r4
        have z16 : (gI σ3 120 16 - 1).toInt = (r.length : Nat) := by rw [tM (by rw [h16, tl1]; omega), h16, tl1]; omega
        have y16 : ix (gI σ3 120 16 - 1) = r.length := ix_of z16
        simp only [pI, pL, pR, pV, i10, ↓reduceIte, eM_endOne_56]
        rw [y16]
        refine ⟨⟨by omega, by omega⟩, ?_⟩
        have f : ∀ k, k ≠ 18 → rd (sI (sI σ3 125 r.length 8) 120 18 0) 120 k = rd σ3 120 k := fun k q => by rw [rdne2 q, rdne (by omega)]
        have hdep : dep (8 :: r) = dep (o :: r) := by
          rw [c, dep_c, dep_c]
          rfl
        refine hC c' q _ ((hFa.tr a).tr ((flP (by omega)).tr (flI (by omega)))) ⟨b1.e (f _ (by omega)) (fun k _ => by rw [rdne (by omega), rdne (by omega)]), b2.e (fun k _ _ => f _ (by omega)) rfl, b3, ⟨by rw [f _ (by omega)]; exact r1, by rw [f _ (by omega)]; exact r2, by rw [f _ (by omega)]; exact r3, by rw [f _ (by omega)]; exact r4, ⟨?_, MStk.of (σ := σ3) r (fun k hk => ?_) r5.2⟩, ?_, MCode_lt _ 0 (fun k _ _ => by rw [rdne (by omega), rdne (by omega)]) r7, by rw [f _ (by omega)]; exact r8⟩, by rw [rdeq]; rfl⟩
        · show rd _ 125 r.length = 8
          rw [rdne (by omega), rdeq]
          rfl
        · rw [rdne (by omega), rdne2 (by omega)]
        · rw [f _ (by omega)]
          show _ = ((dep (8 :: r) : Nat) : Int)
          rw [hdep]
          exact r6
      · simp only [pI, pL, pR, pV, i10, ↓reduceIte, eM_endOne_47]
        try simp only [if_true]
        exact hB c' q τ hFa hk2.1
    · rw [if_neg c]
      simp only [pI, pL, pR, pV, i10, ↓reduceIte, eM_endOne_34]
      exact hA c τ hFa ⟨hT2, hk2, hi, hP2, e18⟩
