/-! TEXTS: the class reads a law, whole -/
theorem sR_readLaw {d : Nat} {Φ : Po} {t L : Nat} {B : Nat → Int} {l i : Nat} {T : TT} {x1 : Int32} {σ : Sg} (ht : t < 4) (hl : l < 5) (hx : x1.toInt = (l : Nat)) (h40 : tokO L B i ≠ 40) (g : TI t L B i T σ) (hn : T.1 < 24) (hp : T.2.2.1.length ≤ i)
    (h0 : (lawF L B l 302 (tokE L B i) [] [] 0).1 = 0 → ∀ σ' : Sg, Fr (FTx t) σ σ' → TI t L B (lawF L B l 302 (tokE L B i) [] [] 0).2.2.1 (addL T l (lawF L B l 302 (tokE L B i) [] [] 0).2.2.2) σ' → LwDone l T.2.2.1.length (lawF L B l 302 (tokE L B i) [] [] 0).2.2.1 (lawF L B l 302 (tokE L B i) [] [] 0).2.2.2 → i < (lawF L B l 302 (tokE L B i) [] [] 0).2.2.1 → Φ none σ')
    (hf : (lawF L B l 302 (tokE L B i) [] [] 0).1 ≠ 0 → ∀ σ' : Sg, Fr (FTx t) σ σ' → rd σ' 83 13 = (lawF L B l 302 (tokE L B i) [] [] 0).1 → rd σ' 83 14 = (lawF L B l 302 (tokE L B i) [] [] 0).2.1 → Φ none σ') : wp true (d + 8) nR_readLaw [.ref 83, .int x1] σ Φ := by
  obtain ⟨hT, hk, hiL, g6, g13, gC, g14⟩ := g
  have hTp := hT.1
  obtain ⟨e1, e2⟩ := tok_go hTp hiL h40
  generalize hE : tokE L B i = e at *
  apply wR_readLaw
  simp only [pI, pL, pR, pV, i10, ↓reduceIte, eR_readLaw_0]
  have fa : Fr F83 σ (sI (sI (sI (sI (sI σ 83 7 x1) 83 11 0) 83 12 0) 83 8 1) 83 9 0) := by
    have k : ∀ j, 2 ≤ j ∧ j < 15 → inS F83 83 j = true := fun j hj => inS_r (lo := 2) (hi := 15) (by simp) hj
    exact ((((Fr.sI (k _ (by omega))).tr (Fr.sI (k _ (by omega)))).tr (Fr.sI (k _ (by omega)))).tr (Fr.sI (k _ (by omega)))).tr (Fr.sI (k _ (by omega)))
  have a9 : rd (sI (sI (sI (sI (sI σ 83 7 x1) 83 11 0) 83 12 0) 83 8 1) 83 9 0) 83 9 = 0 := by rw [rdeq]; rfl
  have a8 : rd (sI (sI (sI (sI (sI σ 83 7 x1) 83 11 0) 83 12 0) 83 8 1) 83 9 0) 83 8 = 1 := by rw [rdne2 (by omega), rdeq]; rfl
  have a12 : rd (sI (sI (sI (sI (sI σ 83 7 x1) 83 11 0) 83 12 0) 83 8 1) 83 9 0) 83 12 = 0 := by rw [rdne2 (by omega), rdne2 (by omega), rdeq]; rfl
  have a11 : rd (sI (sI (sI (sI (sI σ 83 7 x1) 83 11 0) 83 12 0) 83 8 1) 83 9 0) 83 11 = 0 := by rw [rdne2 (by omega), rdne2 (by omega), rdne2 (by omega), rdeq]; rfl
  have a7 : gI (sI (sI (sI (sI (sI σ 83 7 x1) 83 11 0) 83 12 0) 83 8 1) 83 9 0) 83 7 = x1 := by rw [gIne2 (by omega), gIne2 (by omega), gIne2 (by omega), gIne2 (by omega), gIeq]
  have aR : ∀ a j, gR (sI (sI (sI (sI (sI σ 83 7 x1) 83 11 0) 83 12 0) 83 8 1) 83 9 0) a j = gR σ a j := fun a j => rfl
  have aj : ∀ j, j < 7 ∨ 13 ≤ j → rd (sI (sI (sI (sI (sI σ 83 7 x1) 83 11 0) 83 12 0) 83 8 1) 83 9 0) 83 j = rd σ 83 j := fun j hj => by rw [rdne2 (by omega), rdne2 (by omega), rdne2 (by omega), rdne2 (by omega), rdne2 (by omega)]
  generalize sI (sI (sI (sI (sI σ 83 7 x1) 83 11 0) 83 12 0) 83 8 1) 83 9 0 = σa at *
  have gCa := TC_83 fa gC
  have ga6 : gR σa 83 6 = 88 + 5 * t := by rw [aR]; exact g6
  rw [ga6, (tx_o ht _).1, a7]
  simp only [cond]
  refine sT_beginLaw ht (by omega) ?_
  have hix : ix x1 = l := ix_of hx
  rw [hix]
  have fb : Fr (FTx t) σa (sI (sI σa (90 + 5 * t) l (gI σa (88 + 5 * t) 1)) (91 + 5 * t) l (gI σa (88 + 5 * t) 1)) := (Fr.sI (inS_r (lo := 0) (hi := 5) (by simp) (by omega))).tr (Fr.sI (inS_r (lo := 0) (hi := 5) (by simp) (by omega)))
  have b1 : ∀ a k, a ≠ 90 + 5 * t → a ≠ 91 + 5 * t → rd (sI (sI σa (90 + 5 * t) l (gI σa (88 + 5 * t) 1)) (91 + 5 * t) l (gI σa (88 + 5 * t) 1)) a k = rd σa a k := fun a k q1 q2 => by rw [rdne q2, rdne q1]
  have b2 : ∀ a k, k ≠ l → rd (sI (sI σa (90 + 5 * t) l (gI σa (88 + 5 * t) 1)) (91 + 5 * t) l (gI σa (88 + 5 * t) 1)) a k = rd σa a k := fun a k q => by
    show (gI _ _ _).toInt = (gI _ _ _).toInt
    rw [gI_sI, if_neg (by omega), gI_sI, if_neg (by omega)]
  have b3 : rd (sI (sI σa (90 + 5 * t) l (gI σa (88 + 5 * t) 1)) (91 + 5 * t) l (gI σa (88 + 5 * t) 1)) (90 + 5 * t) l = T.2.2.1.length := by
    rw [rdne (by omega), rdeq]
    exact gCa.2.2.1
  have bR : ∀ a j, gR (sI (sI σa (90 + 5 * t) l (gI σa (88 + 5 * t) 1)) (91 + 5 * t) l (gI σa (88 + 5 * t) 1)) a j = gR σa a j := fun a j => rfl
  generalize sI (sI σa (90 + 5 * t) l (gI σa (88 + 5 * t) 1)) (91 + 5 * t) l (gI σa (88 + 5 * t) 1) = σb at *
  have hTa := TpC_83 fa hT
  have hTb : TpC L B σb := ⟨hTp, by rw [b1 _ _ (by omega) (by omega)]; exact hTa.2.1, fun j hj => by rw [b1 _ _ (by omega) (by omega)]; exact hTa.2.2 j hj⟩
  have bb : ∀ j, j < 7 ∨ 13 ≤ j → rd σb 83 j = rd σ 83 j := fun j hj => by rw [b1 _ _ (by omega) (by omega), aj j hj]
  simp only [pI, pL, pR, pV, i10, ↓reduceIte, eR_readLaw_36]
  refine sR_advance hTb (by rw [bb 3 (by omega), hk.2.1, hE]) e2 (by rw [bb 5 (by omega)]; exact hk.2.2.2.1) (fun σc hFc hTc hkc => ?_)
  have no : ∀ a j, a ≠ 83 ∨ 6 ≤ j → inS FAv a j = false := fun a j q => not_inS (fun f he z => by
    rw [List.mem_singleton] at he
    subst he
    have z1 : 83 = a := z.1
    have z3 : j < 6 := z.2.2
    omega)
  have cc : ∀ a j, a ≠ 83 ∨ 6 ≤ j → rd σc a j = rd σb a j := fun a j q => hFc.rd (no a j q)
  have cR : gR σc 83 6 = 88 + 5 * t := by rw [hFc.2.2.1 _ _ (no _ _ (by omega)), bR, ga6]
  have c7 : rd σc 83 7 = l := by
    rw [cc _ _ (by omega), b1 _ _ (by omega) (by omega)]
    show (gI σa 83 7).toInt = _
    rw [a7]
    exact hx
  have c13 : rd σc 83 13 = 0 := by rw [cc _ _ (by omega), bb _ (by omega)]; exact g13
  have Fσc : Fr (FTx t) σ σc := ((Fr_83 fa).tr fb).tr (Fr_83 (Fr_av hFc))
  simp only [pI, pL, pR, pV, i10, ↓reduceIte, eR_readLaw_40]
  -- the end, both ways
  have fin : ∀ (σ' : Sg) (y2 : Int32), Fr (FLw t) σc σ' → gR σ' 83 6 = 88 + 5 * t → rd σ' 83 7 = l → (∀ σe : Sg, Fr (FTx t) σ σe → (∀ j, rd σe 83 j = rd σ' 83 j) → (∀ j, rd σe 82 j = rd σ' 82 j) → (∀ j, gR σe 83 j = gR σ' 83 j) → (∀ (pr2 : List (Int × Int)) (lw2 : Nat → Option (Nat × List (Int × Int))) (x : Int × Int × Int × Int), x.1 = (l : Nat) → TC t (T.1, T.2.1, pr2, lw2) (sI σ' (91 + 5 * t) l (gI σ' (88 + 5 * t) 1)) → TC t (addD (T.1, T.2.1, pr2, lw2) x) σe) → Φ none σe) → bR_readLaw_98 true NOB (wp true (d + 7)) Φ (kR_readLaw (d + 7) Φ) [.ref 83, .int x1, .int y2] [] σ' := fun σ' y2 q1 q2 q3 q4 => by
    have q3' : (gI σ' 83 7).toInt = l := q3
    simp only [pI, pL, pR, pV, i10, ↓reduceIte, eR_readLaw_98]
    rw [q2, (tx_o ht _).1]
    simp only [cond]
    refine sT_endLaw ht (by omega) ?_
    rw [show ix (gI σ' 83 7) = l from ix_of q3']
    have f1 : Fr (FTx t) σ' (sI σ' (91 + 5 * t) l (gI σ' (88 + 5 * t) 1)) := Fr.sI (inS_r (lo := 0) (hi := 5) (by simp) (by omega))
    have s7 : gI (sI σ' (91 + 5 * t) l (gI σ' (88 + 5 * t) 1)) 83 7 = gI σ' 83 7 := gIne (by omega)
    have s6 : gR (sI σ' (91 + 5 * t) l (gI σ' (88 + 5 * t) 1)) 83 6 = 88 + 5 * t := q2
    have s83 : ∀ a j, a < 88 → rd (sI σ' (91 + 5 * t) l (gI σ' (88 + 5 * t) 1)) a j = rd σ' a j := fun a j q => rdne (by omega)
    have sR : ∀ j, gR (sI σ' (91 + 5 * t) l (gI σ' (88 + 5 * t) 1)) 83 j = gR σ' 83 j := fun j => rfl
    have s5 : rd (sI σ' (91 + 5 * t) l (gI σ' (88 + 5 * t) 1)) (88 + 5 * t) 5 = (T.1 : Nat) := by
      rw [rdne (by omega), q1.rd (FLw_no (by omega)), cc _ _ (by omega), b1 _ _ (by omega) (by omega)]
      exact gCa.1
    generalize hs2 : sI σ' (91 + 5 * t) l (gI σ' (88 + 5 * t) 1) = σ2 at *
    simp only [pI, pL, pR, pV, i10, ↓reduceIte, eR_readLaw_109]
    rw [s6, (tx_o ht _).1, s7]
    simp only [cond]
    refine sT_addClause ht (by omega) (fun q => by omega) (fun n hnn hn24 v hv => ?_)
    have hnT : n = T.1 := by omega
    subst hnT
    simp only [pI, pL, pR, pV, i10, ↓reduceIte, eR_readLaw_123]
    refine q4 _ ((Fσc.tr (Fr_lw q1)).tr (f1.tr (Fr_ad hn24))) (fun j => by rw [rdne (by omega), rdne (by omega), rdne (by omega), rdne (by omega), rdne (by omega), s83 _ _ (by omega)]) (fun j => by rw [rdne (by omega), rdne (by omega), rdne (by omega), rdne (by omega), rdne (by omega), s83 _ _ (by omega)]) (fun j => sR j) (fun pr2 lw2 x y1 y2 => TC_addD ht y2 (by rw [q3', y1]) (fun z => by omega) hv)
  refine lR_law (F := T.2.2.1.length) (pr := T.2.2.1) (σ0 := σc) ht hl rfl 302 e [] [] 0 σc 0 (by have := hTp.1; omega) e2 (show (0 : Int) ≤ e by omega) (by decide) Fr.rf ⟨hTc, hkc, ?_, c7, c13⟩ rfl ?_ ?_ ?_ rfl (fun z σ' y2 w => ?_) (fun z σ' y2 w1 w2 w3 w4 => ?_) c7
  · rw [List.append_nil]
    refine ⟨cR, ?_, trivial, ?_, ?_, ?_⟩
    · rw [cc _ _ (by omega), b1 _ _ (by omega) (by omega)]
      exact a11
    · rw [cc _ _ (by omega), b1 _ _ (by omega) (by omega)]
      exact a12
    · rw [cc _ _ (by omega), b1 _ _ (by omega) (by omega), Nat.zero_add]
      exact gCa.2.2.1
    · exact CodeAt_lt _ _ (fun k _ _ => by rw [cc _ _ (by omega), b1 _ _ (by omega) (by omega)]) gCa.2.2.2.1
  · refine ⟨trivial, by decide, Or.inl rfl, ?_, ?_⟩
    · show T.2.2.1.length + 0 + 0 ≤ e
      omega
    · exact ⟨rfl, rfl⟩
  · rw [cc _ _ (by omega), b1 _ _ (by omega) (by omega), a8]
    rfl
  · rw [cc _ _ (by omega), b1 _ _ (by omega) (by omega), a9]
  · obtain ⟨⟨w1, w2, w3, w4, -⟩, w5⟩ := w
    refine fin σ' y2 w1 (w4.trans cR) w5 (fun σe v1 v2 v3 v4 v5 => hf z σe v1 (by rw [v2]; exact w2) (by rw [v2]; exact w3))
  · obtain ⟨u1, u2, u3, u4, u5, u6, u7, u8, u9⟩ := w1
    generalize lawF L B l 302 e [] [] 0 = RR at *
    refine fin σ' y2 u1 u4 u5 (fun σe v1 v2 v3 v4 v5 => h0 z σe v1 ⟨⟨hTp, by rw [v2]; exact u2.2.1, fun j hj => by rw [v3]; exact u2.2.2 j hj⟩, ?_, w3, by rw [v4]; exact u4, by rw [v2]; exact u6, ?_, by rw [v2, u9, cc _ _ (by omega), bb _ (by omega)]; exact g14⟩ w2 (by omega))
    · unfold CTk at *
      rw [v2, v2, v2, v4]
      exact u3
    · refine v5 (T.2.2.1 ++ RR.2.2.2) (fun j => if j = l then some (T.2.2.1.length, RR.2.2.2) else T.2.2.2 j) ((l : Nat), (T.2.2.1.length : Int), ((T.2.2.1.length + RR.2.2.2.length : Nat) : Int), 0) rfl ?_
      have key : ∀ a k, (a ≠ 88 + 5 * t ∨ k ≠ 1) → a ≠ 89 + 5 * t → 88 + 5 * t ≤ a → a ≠ 90 + 5 * t ∨ k ≠ l → a ≠ 91 + 5 * t ∨ k ≠ l → rd (sI σ' (91 + 5 * t) l (gI σ' (88 + 5 * t) 1)) a k = rd σa a k := fun a k m1 m2 m3 m4 m5 => by
        have n1 : rd (sI σ' (91 + 5 * t) l (gI σ' (88 + 5 * t) 1)) a k = rd σ' a k := by
          show (gI _ _ _).toInt = (gI _ _ _).toInt
          rw [gI_sI, if_neg (by omega)]
        rw [n1, u1.rd (FLw_no (by omega)), cc _ _ (by omega)]
        by_cases z1 : k = l
        · exact b1 _ _ (by omega) (by omega)
        · exact b2 _ _ z1
      obtain ⟨p1, p2, p3, p4, p5⟩ := gCa
      refine ⟨?_, fun k hk => ?_, ?_, ?_, fun j hj => ⟨fun y => ?_, fun f ops y => ?_⟩⟩
      · rw [key _ _ (by omega) (by omega) (by omega) (by omega) (by omega)]
        exact p1
      · rw [key _ _ (by omega) (by omega) (by omega) (by omega) (by omega), key _ _ (by omega) (by omega) (by omega) (by omega) (by omega), key _ _ (by omega) (by omega) (by omega) (by omega) (by omega), key _ _ (by omega) (by omega) (by omega) (by omega) (by omega)]
        exact p2 k hk
      · rw [rdne (by omega)]
        exact u7
      · exact CodeAt_lt _ _ (fun k _ _ => rdne (by omega)) u8
      · have y : (if j = l then some (T.2.2.1.length, RR.2.2.2) else T.2.2.2 j) = none := y
        by_cases c : j = l
        · rw [if_pos c] at y
          cases y
        · rw [if_neg c] at y
          rw [key _ _ (by omega) (by omega) (by omega) (by omega) (by omega)]
          exact (p5 j hj).1 y
      · have y : (if j = l then some (T.2.2.1.length, RR.2.2.2) else T.2.2.2 j) = some (f, ops) := y
        by_cases c : j = l
        · rw [if_pos c] at y
          have y := Option.some.inj y
          have y1 : T.2.2.1.length = f := congrArg Prod.fst y
          have y2 : RR.2.2.2 = ops := congrArg Prod.snd y
          subst y1 y2 c
          constructor
          · rw [rdne (by omega), u1.rd (FLw_no (by omega)), cc _ _ (by omega)]
            exact b3
          · rw [rdeq]
            show rd σ' (88 + 5 * t) 1 = _
            rw [u7, List.length_append]
        · rw [if_neg c] at y
          rw [key _ _ (by omega) (by omega) (by omega) (by omega) (by omega), key _ _ (by omega) (by omega) (by omega) (by omega) (by omega)]
          exact (p5 j hj).2 f ops y
