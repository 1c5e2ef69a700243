/-! TEXTS: the reference's words asked for -/
def W2 (a b : Int32) : Int64 := ((Int32.toInt64 a) <<< ((8 : Int32).toInt64 &&& 63)) ||| (Int32.toInt64 b)
def W3 (a b c : Int32) : Int64 := ((W2 a b) <<< ((8 : Int32).toInt64 &&& 63)) ||| (Int32.toInt64 c)
def W4 (a b c d : Int32) : Int64 := ((W3 a b c) <<< ((8 : Int32).toInt64 &&& 63)) ||| (Int32.toInt64 d)
def W5 (a b c d e : Int32) : Int64 := ((W4 a b c d) <<< ((8 : Int32).toInt64 &&& 63)) ||| (Int32.toInt64 e)
def W6 (a b c d e f : Int32) : Int64 := ((W5 a b c d e) <<< ((8 : Int32).toInt64 &&& 63)) ||| (Int32.toInt64 f)
theorem sM_w2 {d : Nat} {Φ : Po} {σ : Sg} {a b : Int32} (h : Φ (some (.long (W2 a b))) σ) : wp true (d + 1) nM_w2 [.int a, .int b] σ Φ := by
  apply wM_w2
  simp only [pI, pL, pR, pV, i10, ↓reduceIte, eM_w2_0]
  exact h
theorem sM_w3 {d : Nat} {Φ : Po} {σ : Sg} {a b c : Int32} (h : Φ (some (.long (W3 a b c))) σ) : wp true (d + 2) nM_w3 [.int a, .int b, .int c] σ Φ := by
  apply wM_w3
  simp only [pI, pL, pR, pV, i10, ↓reduceIte, eM_w3_0]
  apply sM_w2
  simp only [pI, pL, pR, pV, i10, ↓reduceIte, eM_w3_5]
  exact h
theorem sM_w4 {d : Nat} {Φ : Po} {σ : Sg} {a b c e : Int32} (h : Φ (some (.long (W4 a b c e))) σ) : wp true (d + 3) nM_w4 [.int a, .int b, .int c, .int e] σ Φ := by
  apply wM_w4
  simp only [pI, pL, pR, pV, i10, ↓reduceIte, eM_w4_0]
  apply sM_w3
  simp only [pI, pL, pR, pV, i10, ↓reduceIte, eM_w4_6]
  exact h
theorem sM_w5 {d : Nat} {Φ : Po} {σ : Sg} {a b c e f : Int32} (h : Φ (some (.long (W5 a b c e f))) σ) : wp true (d + 4) nM_w5 [.int a, .int b, .int c, .int e, .int f] σ Φ := by
  apply wM_w5
  simp only [pI, pL, pR, pV, i10, ↓reduceIte, eM_w5_0]
  apply sM_w4
  simp only [pI, pL, pR, pV, i10, ↓reduceIte, eM_w5_7]
  exact h
theorem sM_w6 {d : Nat} {Φ : Po} {σ : Sg} {a b c e f g : Int32} (h : Φ (some (.long (W6 a b c e f g))) σ) : wp true (d + 5) nM_w6 [.int a, .int b, .int c, .int e, .int f, .int g] σ Φ := by
  apply wM_w6
  simp only [pI, pL, pR, pV, i10, ↓reduceIte, eM_w6_0]
  apply sM_w5
  simp only [pI, pL, pR, pV, i10, ↓reduceIte, eM_w6_9]
  exact h
theorem W2v {a b : Int32} (ha : 0 ≤ a.toInt ∧ a.toInt < 256) (hb : 0 ≤ b.toInt ∧ b.toInt < 256) : (W2 a b).toInt = a.toInt * 256 + b.toInt := by
  unfold W2
  rw [shl8 (by rw [Int32.toInt_toInt64]; omega) hb, Int32.toInt_toInt64]
theorem W3v {a b c : Int32} (ha : 0 ≤ a.toInt ∧ a.toInt < 256) (hb : 0 ≤ b.toInt ∧ b.toInt < 256) (hc : 0 ≤ c.toInt ∧ c.toInt < 256) : (W3 a b c).toInt = (a.toInt * 256 + b.toInt) * 256 + c.toInt := by
  unfold W3
  rw [shl8 (by rw [W2v ha hb]; omega) hc, W2v ha hb]
theorem W4v {a b c d : Int32} (ha : 0 ≤ a.toInt ∧ a.toInt < 256) (hb : 0 ≤ b.toInt ∧ b.toInt < 256) (hc : 0 ≤ c.toInt ∧ c.toInt < 256) (hd : 0 ≤ d.toInt ∧ d.toInt < 256) : (W4 a b c d).toInt = ((a.toInt * 256 + b.toInt) * 256 + c.toInt) * 256 + d.toInt := by
  unfold W4
  rw [shl8 (by rw [W3v ha hb hc]; omega) hd, W3v ha hb hc]
theorem sM_isWord {d : Nat} {Φ : Po} {L : Nat} {B : Nat → Int} {σ : Sg} {i o : Nat} {y : Int64} (ho : o ∈ wL ∧ o ≠ 6 ∧ o ≠ 11) (hy : y.toInt = pkW (spl o)) (hk : MTk L B i σ) (h1 : tokO L B i = o → Φ (some (.int 1)) σ) (h0 : tokO L B i ≠ o → Φ (some (.int 0)) σ) : wp true (d + 1) nM_isWord [.ref 120, .long y] σ Φ := by
  have k2 : (2 : Int32).toInt = 2 := rfl
  have key := (KW_word hk.2.2.1 ho.1).2 ho.2.1 ho.2.2
  have e9 : (gI σ 120 9).toInt = rd σ 120 9 := rfl
  have eO : ordP L B (tokP L B i) = tokO L B i := rfl
  rw [eO] at key
  apply wM_isWord
  simp only [pI, pL, pR, pV, i10, ↓reduceIte, eM_isWord_0]
  have cy : (gL σ 120 11 = y) = ((gL σ 120 11).toInt = pkW (spl o)) := by
    rw [← hy]
    exact propext Int64.toInt_inj.symm
  simp only [lg_cmp_eq, cy]
  simp only [ieq, e9, k2]
  by_cases c1 : rd σ 120 9 = 2
  · rw [if_pos c1]
    by_cases c2 : (gL σ 120 11).toInt = pkW (spl o)
    · rw [if_pos c2]
      simp only [pI, pL, pR, pV, i10, ↓reduceIte, eM_isWord_22]
      simp only [cond, zB_1]
      exact h1 (key.mp ⟨c1, c2⟩)
    · rw [if_neg c2]
      simp only [pI, pL, pR, pV, i10, ↓reduceIte, eM_isWord_21, eM_isWord_22]
      simp only [cond, zB_0]
      exact h0 (fun q => c2 (key.mpr q).2)
  · rw [if_neg c1]
    simp only [pI, pL, pR, pV, i10, ↓reduceIte, eM_isWord_21, eM_isWord_22]
    simp only [cond, zB_0]
    exact h0 (fun q => c1 (key.mpr q).1)
theorem tokE_L {L i : Nat} {B : Nat → Int} (hT : Tp L B) (hi : i ≤ L) : tokE L B i ≤ L := (tokE_b hT hi).2.1
theorem sM_isLong {d : Nat} {Φ : Po} {L : Nat} {B : Nat → Int} {σ : Sg} {i o : Nat} {y z : Int64} {c0 c1 c2 c3 c4 c5 c6 : Int} (g : TpM L B σ) (hi : i ≤ L) (ho : o ∈ wL) (hs : spl o = [c6, c5, c4, c3, c2, c1, c0]) (hb : (0 ≤ c0 ∧ c0 < 256) ∧ (0 ≤ c1 ∧ c1 < 256) ∧ (0 ≤ c2 ∧ c2 < 256) ∧ (0 ≤ c3 ∧ c3 < 256) ∧ (0 ≤ c4 ∧ c4 < 256) ∧ (0 ≤ c5 ∧ c5 < 256) ∧ (0 ≤ c6 ∧ c6 < 256)) (hy : y.toInt = ((c0 * 256 + c1) * 256 + c2) * 256 + c3) (hz : z.toInt = (c4 * 256 + c5) * 256 + c6) (hk : MTk L B i σ) (h1 : tokO L B i = o → Φ (some (.int 1)) σ) (h0 : tokO L B i ≠ o → Φ (some (.int 0)) σ) : wp true (d + 4) nM_isLong [.ref 120, .long y, .long z] σ Φ := by
  have k2 : (2 : Int32).toInt = 2 := rfl
  have k7 : (7 : Int32).toInt = 7 := rfl
  have hT := g.1
  have hL := hT.1
  have key := (KW_word hk.2.2.1 ho).1
  have e9 : (gI σ 120 9).toInt = rd σ 120 9 := rfl
  have eO : ordP L B (tokP L B i) = tokO L B i := rfl
  rw [eO] at key
  have e8 : (gI σ 120 8).toInt = tokP L B i := hk.1
  have e7 : (gI σ 120 7).toInt = tokE L B i := hk.2.1
  have eE : endF L B (tokP L B i) = tokE L B i := rfl
  rw [eE] at key
  have bE := tokE_L hT hi
  have bP := (tokE_b hT hi).1
  generalize tokP L B i = p at *
  generalize tokE L B i = e at *
  have em : (gI σ 120 7 - gI σ 120 8).toInt = (e : Int) - p := by rw [tM (by rw [e7, e8]; omega), e7, e8]
  apply wM_isLong
  simp only [pI, pL, pR, pV, i10, ↓reduceIte, eM_isLong_0]
  simp only [ieq, e9, k2, k7, em]
  by_cases q1 : rd σ 120 9 = 2
  · rw [if_pos q1]
    by_cases q2 : (e : Int) - p = 7
    · rw [if_pos q2]
      have q3 : e - p = 7 := by omega
      rw [q3, hs] at key
      have ey : ∀ (j : Nat) (x : Int32), j < 7 → x.toInt = (j : Nat) → (gI σ 120 8 + x).toInt = ((p + j : Nat) : Int) := fun j x hj hx => by rw [tP (by rw [e8, hx]; omega), e8, hx]; omega
      have eb : ∀ j, j < 7 → 0 ≤ B (p + j) ∧ B (p + j) ≤ 255 := fun j hj => hT.2.1 _ (by omega)
      have b0 := eb 0 (by omega)
      have b1 := eb 1 (by omega)
      have b2 := eb 2 (by omega)
      have b3 := eb 3 (by omega)
      have b4 := eb 4 (by omega)
      have b5 := eb 5 (by omega)
      have b6 := eb 6 (by omega)
      have kk : (mk (fun j => B (p + j)) 7 = [c6, c5, c4, c3, c2, c1, c0]) = (B (p + 6) = c6 ∧ B (p + 5) = c5 ∧ B (p + 4) = c4 ∧ B (p + 3) = c3 ∧ B (p + 2) = c2 ∧ B (p + 1) = c1 ∧ B (p + 0) = c0) := by
        show ([B (p + 6), B (p + 5), B (p + 4), B (p + 3), B (p + 2), B (p + 1), B (p + 0)] = [c6, c5, c4, c3, c2, c1, c0]) = _
        simp only [List.cons.injEq, and_true]
      rw [kk] at key
      simp only [pI, pL, pR, pV, i10, ↓reduceIte, eM_isLong_24]
      refine sM_byteAt (i := p + 0) g (by rw [e8]; rfl) (fun v0 w0 => ?_)
      simp only [pI, pL, pR, pV, i10, ↓reduceIte, eM_isLong_32]
      refine sM_byteAt (i := p + 1) g (ey 1 1 (by omega) rfl) (fun v1 w1 => ?_)
      simp only [pI, pL, pR, pV, i10, ↓reduceIte, eM_isLong_42]
      refine sM_byteAt (i := p + 2) g (ey 2 2 (by omega) rfl) (fun v2 w2 => ?_)
      simp only [pI, pL, pR, pV, i10, ↓reduceIte, eM_isLong_52]
      refine sM_byteAt (i := p + 3) g (ey 3 3 (by omega) rfl) (fun v3 w3 => ?_)
      simp only [pI, pL, pR, pV, i10, ↓reduceIte, eM_isLong_62]
      refine sM_w4 ?_
      simp only [pI, pL, pR, pV, i10, ↓reduceIte, eM_isLong_65]
      have n0 : (W4 v0 v1 v2 v3).toInt = ((B (p + 0) * 256 + B (p + 1)) * 256 + B (p + 2)) * 256 + B (p + 3) := by rw [W4v (by omega) (by omega) (by omega) (by omega), w0, w1, w2, w3]
      have m0 : (W4 v0 v1 v2 v3 = y) = (B (p + 0) = c0 ∧ B (p + 1) = c1 ∧ B (p + 2) = c2 ∧ B (p + 3) = c3) := by
        rw [← Int64.toInt_inj, n0, hy]
        exact propext ⟨fun q => by omega, fun q => by rw [q.1, q.2.1, q.2.2.1, q.2.2.2]⟩
      simp only [lg_cmp_eq, m0]
      by_cases q4 : B (p + 0) = c0 ∧ B (p + 1) = c1 ∧ B (p + 2) = c2 ∧ B (p + 3) = c3
      · rw [if_pos q4]
        refine sM_byteAt (i := p + 4) g (ey 4 4 (by omega) rfl) (fun v4 w4 => ?_)
        simp only [pI, pL, pR, pV, i10, ↓reduceIte, eM_isLong_80]
        refine sM_byteAt (i := p + 5) g (ey 5 5 (by omega) rfl) (fun v5 w5 => ?_)
        simp only [pI, pL, pR, pV, i10, ↓reduceIte, eM_isLong_90]
        refine sM_byteAt (i := p + 6) g (ey 6 6 (by omega) rfl) (fun v6 w6 => ?_)
        simp only [pI, pL, pR, pV, i10, ↓reduceIte, eM_isLong_101]
        refine sM_w3 ?_
        simp only [pI, pL, pR, pV, i10, ↓reduceIte, eM_isLong_104]
        have n1 : (W3 v4 v5 v6).toInt = (B (p + 4) * 256 + B (p + 5)) * 256 + B (p + 6) := by rw [W3v (by omega) (by omega) (by omega), w4, w5, w6]
        have m1 : (W3 v4 v5 v6 = z) = (B (p + 4) = c4 ∧ B (p + 5) = c5 ∧ B (p + 6) = c6) := by
          rw [← Int64.toInt_inj, n1, hz]
          exact propext ⟨fun q => by omega, fun q => by rw [q.1, q.2.1, q.2.2]⟩
        simp only [lg_cmp_eq, m1]
        by_cases q5 : B (p + 4) = c4 ∧ B (p + 5) = c5 ∧ B (p + 6) = c6
        · rw [if_pos q5]
          simp only [pI, pL, pR, pV, i10, ↓reduceIte, eM_isLong_114]
          simp only [cond, zB_1]
          exact h1 (key.mp ⟨q1, q5.2.2, q5.2.1, q5.1, q4.2.2.2, q4.2.2.1, q4.2.1, q4.1⟩)
        · rw [if_neg q5]
          simp only [pI, pL, pR, pV, i10, ↓reduceIte, eM_isLong_113, eM_isLong_114]
          simp only [cond, zB_0]
          exact h0 (fun q => by
            have r := (key.mpr q).2
            exact q5 ⟨r.2.2.1, r.2.1, r.1⟩)
      · rw [if_neg q4]
        simp only [pI, pL, pR, pV, i10, ↓reduceIte, eM_isLong_113, eM_isLong_114]
        simp only [cond, zB_0]
        exact h0 (fun q => by
          have r := (key.mpr q).2
          exact q4 ⟨r.2.2.2.2.2.2, r.2.2.2.2.2.1, r.2.2.2.2.1, r.2.2.2.1⟩)
    · rw [if_neg q2]
      simp only [pI, pL, pR, pV, i10, ↓reduceIte, eM_isLong_22]
      refine h0 (fun q => ?_)
      have r := congrArg List.length (key.mpr q).2
      rw [mk_len, hs] at r
      have r : e - p = 7 := r
      omega
  · rw [if_neg q1]
    simp only [pI, pL, pR, pV, i10, ↓reduceIte, eM_isLong_22]
    exact h0 (fun q => q1 (key.mpr q).1)
theorem wds : (W5 99 111 109 101 115).toInt = pkW (spl 0) ∧ (W5 98 108 111 119 115).toInt = pkW (spl 1) ∧ (W5 116 97 107 101 115).toInt = pkW (spl 2) ∧ (W5 99 97 116 99 104).toInt = pkW (spl 3) ∧ (W4 100 117 101 115).toInt = pkW (spl 4) ∧ (W4 119 105 110 100).toInt = pkW (spl 5) ∧ (W3 119 97 121).toInt = pkW (spl 7) ∧ (W3 112 97 121).toInt = pkW (spl 8) ∧ (W5 109 101 114 103 101).toInt = pkW (spl 9) ∧ (W3 100 97 121).toInt = pkW (spl 10) ∧ (W4 111 119 101 100).toInt = pkW (spl 12) ∧ (W3 100 117 101).toInt = pkW (spl 13) ∧ (W6 119 101 105 103 104 116).toInt = pkW (spl 14) ∧ (W5 102 111 114 99 101).toInt = pkW (spl 15) ∧ (W4 114 111 111 102).toInt = pkW (spl 16) ∧ (W5 112 117 114 115 101).toInt = pkW (spl 17) ∧ (W2 111 102).toInt = pkW (spl 18) ∧ (W2 116 111).toInt = pkW (spl 19) ∧ (W2 111 114).toInt = pkW (spl 20) ∧ (W3 97 110 100).toInt = pkW (spl 21) ∧ (W3 110 111 116).toInt = pkW (spl 22) ∧ (W4 100 101 98 116).toInt = pkW (spl 33) ∧ (W5 114 111 117 110 100).toInt = pkW (spl 34) := by decide +kernel
theorem wd0 : (W5 99 111 109 101 115).toInt = pkW (spl 0) := wds.1
theorem wd1 : (W5 98 108 111 119 115).toInt = pkW (spl 1) := wds.2.1
theorem wd2 : (W5 116 97 107 101 115).toInt = pkW (spl 2) := wds.2.2.1
theorem wd3 : (W5 99 97 116 99 104).toInt = pkW (spl 3) := wds.2.2.2.1
theorem wd4 : (W4 100 117 101 115).toInt = pkW (spl 4) := wds.2.2.2.2.1
theorem wd5 : (W4 119 105 110 100).toInt = pkW (spl 5) := wds.2.2.2.2.2.1
theorem wd7 : (W3 119 97 121).toInt = pkW (spl 7) := wds.2.2.2.2.2.2.1
theorem wd8 : (W3 112 97 121).toInt = pkW (spl 8) := wds.2.2.2.2.2.2.2.1
theorem wd9 : (W5 109 101 114 103 101).toInt = pkW (spl 9) := wds.2.2.2.2.2.2.2.2.1
theorem wd10 : (W3 100 97 121).toInt = pkW (spl 10) := wds.2.2.2.2.2.2.2.2.2.1
theorem wd12 : (W4 111 119 101 100).toInt = pkW (spl 12) := wds.2.2.2.2.2.2.2.2.2.2.1
theorem wd13 : (W3 100 117 101).toInt = pkW (spl 13) := wds.2.2.2.2.2.2.2.2.2.2.2.1
theorem wd14 : (W6 119 101 105 103 104 116).toInt = pkW (spl 14) := wds.2.2.2.2.2.2.2.2.2.2.2.2.1
theorem wd15 : (W5 102 111 114 99 101).toInt = pkW (spl 15) := wds.2.2.2.2.2.2.2.2.2.2.2.2.2.1
theorem wd16 : (W4 114 111 111 102).toInt = pkW (spl 16) := wds.2.2.2.2.2.2.2.2.2.2.2.2.2.2.1
theorem wd17 : (W5 112 117 114 115 101).toInt = pkW (spl 17) := wds.2.2.2.2.2.2.2.2.2.2.2.2.2.2.2.1
theorem wd18 : (W2 111 102).toInt = pkW (spl 18) := wds.2.2.2.2.2.2.2.2.2.2.2.2.2.2.2.2.1
theorem wd19 : (W2 116 111).toInt = pkW (spl 19) := wds.2.2.2.2.2.2.2.2.2.2.2.2.2.2.2.2.2.1
theorem wd20 : (W2 111 114).toInt = pkW (spl 20) := wds.2.2.2.2.2.2.2.2.2.2.2.2.2.2.2.2.2.2.1
theorem wd21 : (W3 97 110 100).toInt = pkW (spl 21) := wds.2.2.2.2.2.2.2.2.2.2.2.2.2.2.2.2.2.2.2.1
theorem wd22 : (W3 110 111 116).toInt = pkW (spl 22) := wds.2.2.2.2.2.2.2.2.2.2.2.2.2.2.2.2.2.2.2.2.1
theorem wd33 : (W4 100 101 98 116).toInt = pkW (spl 33) := wds.2.2.2.2.2.2.2.2.2.2.2.2.2.2.2.2.2.2.2.2.2.1
theorem wd34 : (W5 114 111 117 110 100).toInt = pkW (spl 34) := wds.2.2.2.2.2.2.2.2.2.2.2.2.2.2.2.2.2.2.2.2.2.2
theorem ws6 : spl 6 = [101, 103, 97, 108, 108, 105, 118] := by decide +kernel
theorem wa6 : (W4 118 105 108 108).toInt = ((118 * 256 + 105) * 256 + 108) * 256 + 108 := by decide +kernel
theorem wb6 : (W3 97 103 101).toInt = (97 * 256 + 103) * 256 + 101 := by decide +kernel
theorem ws11 : spl 11 = [114, 101, 116, 114, 97, 117, 113] := by decide +kernel
theorem wa11 : (W4 113 117 97 114).toInt = ((113 * 256 + 117) * 256 + 97) * 256 + 114 := by decide +kernel
theorem wb11 : (W3 116 101 114).toInt = (116 * 256 + 101) * 256 + 114 := by decide +kernel
theorem sM_sortOf {d : Nat} {Φ : Po} {L : Nat} {B : Nat → Int} {σ : Sg} {i : Nat} (g : TpM L B σ) (hi : i ≤ L) (hk : MTk L B i σ) (h : ∀ v : Int32, v.toInt = (if tokO L B i ≤ 10 then ((tokO L B i : Nat) : Int) else -1) → Φ (some (.int v)) σ) : wp true (d + 5) nM_sortOf [.ref 120] σ Φ := by
  apply wM_sortOf
  simp only [pI, pL, pR, pV, i10, ↓reduceIte, eM_sortOf_0]
  refine sM_w5 ?_
  simp only [pI, pL, pR, pV, i10, ↓reduceIte, eM_sortOf_14]
  refine sM_isWord (o := 0) (by decide) wd0 hk (fun q => ?_) (fun q0 => ?_)
  · simp only [pI, pL, pR, pV, i10, ↓reduceIte, eM_sortOf_17]
    try rw [if_neg (by decide)]
    exact h _ (by rw [q]; rfl)
  simp only [pI, pL, pR, pV, i10, ↓reduceIte, eM_sortOf_17]
  try simp only [if_true]
  simp only [pI, pL, pR, pV, i10, ↓reduceIte, eM_sortOf_22]
  refine sM_w5 ?_
  simp only [pI, pL, pR, pV, i10, ↓reduceIte, eM_sortOf_36]
  refine sM_isWord (o := 1) (by decide) wd1 hk (fun q => ?_) (fun q1 => ?_)
  · simp only [pI, pL, pR, pV, i10, ↓reduceIte, eM_sortOf_39]
    try rw [if_neg (by decide)]
    exact h _ (by rw [q]; rfl)
  simp only [pI, pL, pR, pV, i10, ↓reduceIte, eM_sortOf_39]
  try simp only [if_true]
  simp only [pI, pL, pR, pV, i10, ↓reduceIte, eM_sortOf_44]
  refine sM_w5 ?_
  simp only [pI, pL, pR, pV, i10, ↓reduceIte, eM_sortOf_58]
  refine sM_isWord (o := 2) (by decide) wd2 hk (fun q => ?_) (fun q2 => ?_)
  · simp only [pI, pL, pR, pV, i10, ↓reduceIte, eM_sortOf_61]
    try rw [if_neg (by decide)]
    exact h _ (by rw [q]; rfl)
  simp only [pI, pL, pR, pV, i10, ↓reduceIte, eM_sortOf_61]
  try simp only [if_true]
  simp only [pI, pL, pR, pV, i10, ↓reduceIte, eM_sortOf_66]
  refine sM_w5 ?_
  simp only [pI, pL, pR, pV, i10, ↓reduceIte, eM_sortOf_80]
  refine sM_isWord (o := 3) (by decide) wd3 hk (fun q => ?_) (fun q3 => ?_)
  · simp only [pI, pL, pR, pV, i10, ↓reduceIte, eM_sortOf_83]
    try rw [if_neg (by decide)]
    exact h _ (by rw [q]; rfl)
  simp only [pI, pL, pR, pV, i10, ↓reduceIte, eM_sortOf_83]
  try simp only [if_true]
  simp only [pI, pL, pR, pV, i10, ↓reduceIte, eM_sortOf_88]
  refine sM_w4 ?_
  simp only [pI, pL, pR, pV, i10, ↓reduceIte, eM_sortOf_100]
  refine sM_isWord (o := 4) (by decide) wd4 hk (fun q => ?_) (fun q4 => ?_)
  · simp only [pI, pL, pR, pV, i10, ↓reduceIte, eM_sortOf_103]
    try rw [if_neg (by decide)]
    exact h _ (by rw [q]; rfl)
  simp only [pI, pL, pR, pV, i10, ↓reduceIte, eM_sortOf_103]
  try simp only [if_true]
  simp only [pI, pL, pR, pV, i10, ↓reduceIte, eM_sortOf_108]
  refine sM_w4 ?_
  simp only [pI, pL, pR, pV, i10, ↓reduceIte, eM_sortOf_120]
  refine sM_isWord (o := 5) (by decide) wd5 hk (fun q => ?_) (fun q5 => ?_)
  · simp only [pI, pL, pR, pV, i10, ↓reduceIte, eM_sortOf_123]
    try rw [if_neg (by decide)]
    exact h _ (by rw [q]; rfl)
  simp only [pI, pL, pR, pV, i10, ↓reduceIte, eM_sortOf_123]
  try simp only [if_true]
  simp only [pI, pL, pR, pV, i10, ↓reduceIte, eM_sortOf_128]
  refine sM_w4 ?_
  simp only [pI, pL, pR, pV, i10, ↓reduceIte, eM_sortOf_140]
  refine sM_w3 ?_
  simp only [pI, pL, pR, pV, i10, ↓reduceIte, eM_sortOf_149]
  refine sM_isLong (o := 6) g hi (by decide) ws6 (by decide) wa6 wb6 hk (fun q => ?_) (fun q6 => ?_)
  · simp only [pI, pL, pR, pV, i10, ↓reduceIte, eM_sortOf_152]
    try rw [if_neg (by decide)]
    exact h _ (by rw [q]; rfl)
  simp only [pI, pL, pR, pV, i10, ↓reduceIte, eM_sortOf_152]
  try simp only [if_true]
  simp only [pI, pL, pR, pV, i10, ↓reduceIte, eM_sortOf_158]
  refine sM_w3 ?_
  simp only [pI, pL, pR, pV, i10, ↓reduceIte, eM_sortOf_168]
  refine sM_isWord (o := 7) (by decide) wd7 hk (fun q => ?_) (fun q7 => ?_)
  · simp only [pI, pL, pR, pV, i10, ↓reduceIte, eM_sortOf_171]
    try rw [if_neg (by decide)]
    exact h _ (by rw [q]; rfl)
  simp only [pI, pL, pR, pV, i10, ↓reduceIte, eM_sortOf_171]
  try simp only [if_true]
  simp only [pI, pL, pR, pV, i10, ↓reduceIte, eM_sortOf_177]
  refine sM_w3 ?_
  simp only [pI, pL, pR, pV, i10, ↓reduceIte, eM_sortOf_187]
  refine sM_isWord (o := 8) (by decide) wd8 hk (fun q => ?_) (fun q8 => ?_)
  · simp only [pI, pL, pR, pV, i10, ↓reduceIte, eM_sortOf_190]
    try rw [if_neg (by decide)]
    exact h _ (by rw [q]; rfl)
  simp only [pI, pL, pR, pV, i10, ↓reduceIte, eM_sortOf_190]
  try simp only [if_true]
  simp only [pI, pL, pR, pV, i10, ↓reduceIte, eM_sortOf_196]
  refine sM_w5 ?_
  simp only [pI, pL, pR, pV, i10, ↓reduceIte, eM_sortOf_210]
  refine sM_isWord (o := 9) (by decide) wd9 hk (fun q => ?_) (fun q9 => ?_)
  · simp only [pI, pL, pR, pV, i10, ↓reduceIte, eM_sortOf_213]
    try rw [if_neg (by decide)]
    simp only [pI, pL, pR, pV, i10, ↓reduceIte, eM_sortOf_243]
    exact h _ (by rw [q]; rfl)
  simp only [pI, pL, pR, pV, i10, ↓reduceIte, eM_sortOf_213]
  try simp only [if_true]
  simp only [pI, pL, pR, pV, i10, ↓reduceIte, eM_sortOf_221]
  refine sM_w3 ?_
  simp only [pI, pL, pR, pV, i10, ↓reduceIte, eM_sortOf_231]
  refine sM_isWord (o := 10) (by decide) wd10 hk (fun q => ?_) (fun q10 => ?_)
  · simp only [pI, pL, pR, pV, i10, ↓reduceIte, eM_sortOf_234]
    try rw [if_neg (by decide)]
    simp only [pI, pL, pR, pV, i10, ↓reduceIte, eM_sortOf_243]
    exact h _ (by rw [q]; rfl)
  simp only [pI, pL, pR, pV, i10, ↓reduceIte, eM_sortOf_234]
  try simp only [if_true]
  simp only [pI, pL, pR, pV, i10, ↓reduceIte, eM_sortOf_242, eM_sortOf_243]
  exact h _ (by rw [if_neg (by omega)]; rfl)
theorem sM_nameOf {d : Nat} {Φ : Po} {L : Nat} {B : Nat → Int} {σ : Sg} {i : Nat} (g : TpM L B σ) (hi : i ≤ L) (hk : MTk L B i σ) (h : ∀ v : Int32, v.toInt = (if 10 ≤ tokO L B i ∧ tokO L B i ≤ 17 then ((tokO L B i : Nat) : Int) - 10 else -1) → Φ (some (.int v)) σ) : wp true (d + 6) nM_nameOf [.ref 120] σ Φ := by
  have k2 : (2 : Int32).toInt = 2 := rfl
  have e9 : (gI σ 120 9).toInt = rd σ 120 9 := rfl
  have eO : ordP L B (tokP L B i) = tokO L B i := rfl
  apply wM_nameOf
  simp only [pI, pL, pR, pV, i10, ↓reduceIte, eM_nameOf_0]
  simp only [ieq, e9, k2]
  by_cases c : rd σ 120 9 = 2
  · rw [if_pos c]
    have key : ∀ (o : Nat) (y : Int64), o ∈ wL ∧ o ≠ 6 ∧ o ≠ 11 → y.toInt = pkW (spl o) → (gL σ 120 11 = y) = (tokO L B i = o) := fun o y ho hy => by
      have k := (KW_word hk.2.2.1 ho.1).2 ho.2.1 ho.2.2
      rw [eO] at k
      rw [← Int64.toInt_inj, hy]
      exact propext ⟨fun q => k.mp ⟨c, q⟩, fun q => (k.mpr q).2⟩
    simp only [pI, pL, pR, pV, i10, ↓reduceIte, eM_nameOf_10]
    refine sM_w3 ?_
    simp only [pI, pL, pR, pV, i10, ↓reduceIte, eM_nameOf_23]
    simp only [lg_cmp_eq, key 10 _ (by decide) wd10]
    by_cases c10 : tokO L B i = 10
    · rw [if_pos c10]
      exact h _ (by rw [c10]; rfl)
    rw [if_neg c10]
    simp only [pI, pL, pR, pV, i10, ↓reduceIte, eM_nameOf_29]
    refine sM_w4 ?_
    simp only [pI, pL, pR, pV, i10, ↓reduceIte, eM_nameOf_41]
    refine sM_w3 ?_
    simp only [pI, pL, pR, pV, i10, ↓reduceIte, eM_nameOf_50]
    refine sM_isLong (o := 11) g hi (by decide) ws11 (by decide) wa11 wb11 hk (fun q => ?_) (fun c11 => ?_)
    · simp only [pI, pL, pR, pV, i10, ↓reduceIte, eM_nameOf_53]
      try rw [if_neg (by decide)]
      exact h _ (by rw [q]; rfl)
    simp only [pI, pL, pR, pV, i10, ↓reduceIte, eM_nameOf_53]
    try simp only [if_true]
    simp only [pI, pL, pR, pV, i10, ↓reduceIte, eM_nameOf_58]
    refine sM_w4 ?_
    simp only [pI, pL, pR, pV, i10, ↓reduceIte, eM_nameOf_73]
    simp only [lg_cmp_eq, key 12 _ (by decide) wd12]
    by_cases c12 : tokO L B i = 12
    · rw [if_pos c12]
      exact h _ (by rw [c12]; rfl)
    rw [if_neg c12]
    simp only [pI, pL, pR, pV, i10, ↓reduceIte, eM_nameOf_79]
    refine sM_w3 ?_
    simp only [pI, pL, pR, pV, i10, ↓reduceIte, eM_nameOf_92]
    simp only [lg_cmp_eq, key 13 _ (by decide) wd13]
    by_cases c13 : tokO L B i = 13
    · rw [if_pos c13]
      exact h _ (by rw [c13]; rfl)
    rw [if_neg c13]
    simp only [pI, pL, pR, pV, i10, ↓reduceIte, eM_nameOf_98]
    refine sM_w6 ?_
    simp only [pI, pL, pR, pV, i10, ↓reduceIte, eM_nameOf_117]
    simp only [lg_cmp_eq, key 14 _ (by decide) wd14]
    by_cases c14 : tokO L B i = 14
    · rw [if_pos c14]
      exact h _ (by rw [c14]; rfl)
    rw [if_neg c14]
    simp only [pI, pL, pR, pV, i10, ↓reduceIte, eM_nameOf_123]
    refine sM_w5 ?_
    simp only [pI, pL, pR, pV, i10, ↓reduceIte, eM_nameOf_140]
    simp only [lg_cmp_eq, key 15 _ (by decide) wd15]
    by_cases c15 : tokO L B i = 15
    · rw [if_pos c15]
      exact h _ (by rw [c15]; rfl)
    rw [if_neg c15]
    simp only [pI, pL, pR, pV, i10, ↓reduceIte, eM_nameOf_146]
    refine sM_w4 ?_
    simp only [pI, pL, pR, pV, i10, ↓reduceIte, eM_nameOf_161]
    simp only [lg_cmp_eq, key 16 _ (by decide) wd16]
    by_cases c16 : tokO L B i = 16
    · rw [if_pos c16]
      simp only [pI, pL, pR, pV, i10, ↓reduceIte, eM_nameOf_197]
      exact h _ (by rw [c16]; rfl)
    rw [if_neg c16]
    simp only [pI, pL, pR, pV, i10, ↓reduceIte, eM_nameOf_170]
    refine sM_w5 ?_
    simp only [pI, pL, pR, pV, i10, ↓reduceIte, eM_nameOf_187]
    simp only [lg_cmp_eq, key 17 _ (by decide) wd17]
    by_cases c17 : tokO L B i = 17
    · rw [if_pos c17]
      simp only [pI, pL, pR, pV, i10, ↓reduceIte, eM_nameOf_197]
      exact h _ (by rw [c17]; rfl)
    rw [if_neg c17]
    simp only [pI, pL, pR, pV, i10, ↓reduceIte, eM_nameOf_196, eM_nameOf_197]
    exact h _ (by rw [if_neg (by omega)]; rfl)
  · rw [if_neg c]
    refine h _ ?_
    have n : ∀ o, o ∈ wL → tokO L B i ≠ o := fun o ho q => c (((KW_word hk.2.2.1 ho).1).mpr q).1
    have a := n 10 (by decide)
    have b := n 11 (by decide)
    have e := n 12 (by decide)
    have f := n 13 (by decide)
    have a4 := n 14 (by decide)
    have a5 := n 15 (by decide)
    have a6 := n 16 (by decide)
    have a7 := n 17 (by decide)
    rw [if_neg (by omega)]
    rfl
