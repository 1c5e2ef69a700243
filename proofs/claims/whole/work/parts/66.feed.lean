/-! THE TAPE IS FED -/
abbrev bt (x k : Int32) : Int32 := (x >>> (k &&& 31)) &&& 255
theorem b255 (y : Int32) : 0 ≤ (y &&& 255).toInt ∧ (y &&& 255).toInt ≤ 255 := by
  have h : (y &&& 255).toBitVec.toNat ≤ 255 := by
    rw [Int32.toBitVec_and, BitVec.toNat_and]
    exact Nat.and_le_right
  have e : (y &&& 255).toInt = ((y &&& 255).toBitVec.toNat : Int) := by
    show (y &&& 255).toBitVec.toInt = _
    exact BitVec.toInt_eq_toNat_of_lt (by omega)
  omega
theorem down8 {k l y : Int32} (h : k + l = y) (hl : l.toInt = -8) (hk : 0 ≤ k.toInt ∧ k.toInt ≤ 24) : y.toInt = k.toInt - 8 := by
  rw [← h, tP (by rw [hl]; omega), hl]
  omega
def Fed (a c : Nat) (σ σ' : Sg) (L : List Int32) : Prop := Fr [(a, 0, 300), (c, 4, 5)] σ σ' ∧ rd σ' c 4 = rd σ c 4 + L.length ∧ (∀ k : Nat, k < 300 → rd σ' a k = if rd σ c 4 ≤ k ∧ (k : Int) < rd σ c 4 + L.length then (L.getD (k - (rd σ c 4).toNat) 0).toInt else rd σ a k)
theorem Fed.nil {a c : Nat} {σ : Sg} : Fed a c σ σ [] := ⟨Fr.rf, by simp, fun k _ => by rw [if_neg (by simp <;> omega)]⟩
theorem Fed.snoc {a c : Nat} {σ σ' : Sg} {L : List Int32} {v w : Int32} {i : Nat} (hac : a ≠ c) (h0 : 0 ≤ rd σ c 4) (hl : rd σ c 4 + L.length < 300) (hi : (i : Int) = rd σ c 4 + L.length) (hw : w.toInt = rd σ c 4 + L.length + 1) (h : Fed a c σ σ' L) : Fed a c σ (sI (sI σ' a i v) c 4 w) (L ++ [v]) := by
  obtain ⟨h1, h2, h3⟩ := h
  have ll : (L ++ [v]).length = L.length + 1 := by simp
  refine ⟨(h1.tr (Fr.sI (inS_r (lo := 0) (hi := 300) (by simp) (by omega)))).tr (Fr.sI (inS_r (lo := 4) (hi := 5) (by simp) (by omega))), ?_, fun k hk => ?_⟩
  · rw [rdeq, hw, ll]; omega
  · rw [rdne hac, ll]
    by_cases z : k = i
    · rw [z, rdeq, if_pos (by omega)]
      have : i - (rd σ c 4).toNat = L.length := by omega
      rw [this]
      simp
    · rw [rdne2 z, h3 k hk]
      by_cases y : rd σ c 4 ≤ k ∧ (k : Int) < rd σ c 4 + L.length
      · rw [if_pos y, if_pos (by omega)]
        have : k - (rd σ c 4).toNat < L.length := by omega
        simp [List.getElem?_append_left this]
      · rw [if_neg y, if_neg (by omega)]
theorem sX_feedFour {d : Nat} {Φ : Po} {σ0 σ : Sg} {L : List Int32} {x : Int32} (h0 : 0 ≤ rd σ0 0 4) (hl : rd σ0 0 4 + L.length + 4 ≤ 300) (hF : Fed 82 0 σ0 σ L) (h : ∀ σ' : Sg, Fed 82 0 σ0 σ' (L ++ [bt x 24] ++ [bt x 16] ++ [bt x 8] ++ [bt x 0]) → Φ none σ') : wp true (d + 1) nX_feedFour [.ref 0, .int x] σ Φ := by
  have step : ∀ (M : List Int32) (τ : Sg) (k : Int32), ¬ k < 0 → (0 ≤ k.toInt ∧ k.toInt ≤ 24) → rd σ0 0 4 + M.length < 300 → Fed 82 0 σ0 τ M → (∀ (y : Int32) (τ' : Sg), y.toInt = k.toInt - 8 → Fed 82 0 σ0 τ' (M ++ [bt x k]) → bX_feedFour_3 true NOB (wp true d) Φ (kX_feedFour d Φ) [.ref 0, .int x, .int y] [] τ') → bX_feedFour_3 true NOB (wp true d) Φ (kX_feedFour d Φ) [.ref 0, .int x, .int k] [] τ := fun M τ k hk hr hM hT next => by
    have e4 : (gI τ 0 4).toInt = rd σ0 0 4 + M.length := hT.2.1
    have g : gI (sI τ 82 (ix (gI τ 0 4)) (bt x k)) 0 4 = gI τ 0 4 := gIne (by omega)
    simp only [pI, pL, pR, pV, i10, ↓reduceIte, eX_feedFour_3]
    rw [if_neg hk]
    refine ⟨⟨by omega, by omega⟩, ?_⟩
    have g' : gI (sI τ 82 (ix (gI τ 0 4)) (x >>> (k &&& 31) &&& 255)) 0 4 = gI τ 0 4 := g
    rw [g']
    apply hX_feedFour_3
    generalize hz : k + (_ : Int32) = y
    refine next y _ (down8 hz (by decide) hr) ?_
    exact hT.snoc (by omega) h0 hM (by rw [ix_to (by omega)]; omega) (by rw [t1 (by omega)]; omega)
  apply wX_feedFour
  simp only [pI, pL, pR, pV, i10, ↓reduceIte, eX_feedFour_0]
  refine step _ _ _ (by decide) (by decide) (by omega) hF (fun y s1 hy f1 => ?_)
  obtain rfl : y = 16 := eqv (by rw [hy]; rfl)
  refine step _ _ _ (by decide) (by decide) (by simp; omega) f1 (fun y s2 hy f2 => ?_)
  obtain rfl : y = 8 := eqv (by rw [hy]; rfl)
  refine step _ _ _ (by decide) (by decide) (by simp; omega) f2 (fun y s3 hy f3 => ?_)
  obtain rfl : y = 0 := eqv (by rw [hy]; rfl)
  refine step _ _ _ (by decide) (by decide) (by simp; omega) f3 (fun y s4 hy f4 => ?_)
  have hy : y.toInt = -8 := hy
  simp only [pI, pL, pR, pV, i10, ↓reduceIte, eX_feedFour_3]
  simp only [ilt, hy]
  rw [if_pos (by decide)]
  simp only [pI, pL, pR, pV, i10, ↓reduceIte, eX_feedFour_39]
  exact h s4 f4
theorem sM_four {d : Nat} {Φ : Po} {σ0 σ : Sg} {L : List Int32} {x : Int32} (h0 : 0 ≤ rd σ0 120 4) (hl : rd σ0 120 4 + L.length + 4 ≤ 300) (hF : Fed 124 120 σ0 σ L) (h : ∀ σ' : Sg, Fed 124 120 σ0 σ' (L ++ [bt x 24] ++ [bt x 16] ++ [bt x 8] ++ [bt x 0]) → Φ none σ') : wp true (d + 1) nM_four [.ref 120, .int x] σ Φ := by
  have step : ∀ (M : List Int32) (τ : Sg) (k : Int32), ¬ k < 0 → (0 ≤ k.toInt ∧ k.toInt ≤ 24) → rd σ0 120 4 + M.length < 300 → Fed 124 120 σ0 τ M → (∀ (y : Int32) (τ' : Sg), y.toInt = k.toInt - 8 → Fed 124 120 σ0 τ' (M ++ [bt x k]) → bM_four_3 true NOB (wp true d) Φ (kM_four d Φ) [.ref 120, .int x, .int y] [] τ') → bM_four_3 true NOB (wp true d) Φ (kM_four d Φ) [.ref 120, .int x, .int k] [] τ := fun M τ k hk hr hM hT next => by
    have e4 : (gI τ 120 4).toInt = rd σ0 120 4 + M.length := hT.2.1
    have g : gI (sI τ 124 (ix (gI τ 120 4)) (bt x k)) 120 4 = gI τ 120 4 := gIne (by omega)
    simp only [pI, pL, pR, pV, i10, ↓reduceIte, eM_four_3]
    rw [if_neg hk]
    refine ⟨⟨by omega, by omega⟩, ?_⟩
    have g' : gI (sI τ 124 (ix (gI τ 120 4)) (x >>> (k &&& 31) &&& 255)) 120 4 = gI τ 120 4 := g
    rw [g']
    apply hM_four_3
    generalize hz : k + (_ : Int32) = y
    refine next y _ (down8 hz (by decide) hr) ?_
    exact hT.snoc (by omega) h0 hM (by rw [ix_to (by omega)]; omega) (by rw [t1 (by omega)]; omega)
  apply wM_four
  simp only [pI, pL, pR, pV, i10, ↓reduceIte, eM_four_0]
  refine step _ _ _ (by decide) (by decide) (by omega) hF (fun y s1 hy f1 => ?_)
  obtain rfl : y = 16 := eqv (by rw [hy]; rfl)
  refine step _ _ _ (by decide) (by decide) (by simp; omega) f1 (fun y s2 hy f2 => ?_)
  obtain rfl : y = 8 := eqv (by rw [hy]; rfl)
  refine step _ _ _ (by decide) (by decide) (by simp; omega) f2 (fun y s3 hy f3 => ?_)
  obtain rfl : y = 0 := eqv (by rw [hy]; rfl)
  refine step _ _ _ (by decide) (by decide) (by simp; omega) f3 (fun y s4 hy f4 => ?_)
  have hy : y.toInt = -8 := hy
  simp only [pI, pL, pR, pV, i10, ↓reduceIte, eM_four_3]
  simp only [ilt, hy]
  rw [if_pos (by decide)]
  simp only [pI, pL, pR, pV, i10, ↓reduceIte, eM_four_39]
  exact h s4 f4
def F4 (L : List Int32) (x : Int32) : List Int32 := L ++ [bt x 24] ++ [bt x 16] ++ [bt x 8] ++ [bt x 0]
theorem F4_len {L : List Int32} {x : Int32} : (F4 L x).length = L.length + 4 := by simp [F4]
theorem F4_ok {L : List Int32} {x : Int32} (h : ∀ y, y ∈ L → 0 ≤ y.toInt ∧ y.toInt ≤ 255) : ∀ y, y ∈ F4 L x → 0 ≤ y.toInt ∧ y.toInt ≤ 255 := by
  intro y hy
  simp only [F4, List.mem_append, List.mem_singleton] at hy
  rcases hy with (((hy | hy) | hy) | hy) | hy
  · exact h y hy
  all_goals (rw [hy]; exact b255 _)
theorem p_feed (x1 x2 x3 x4 x5 : Int32) : PairI Rel nX_feed nM_feed [.int x1, .int x2, .int x3, .int x4, .int x5] := by
  intro σ hR Φ h
  obtain ⟨lws, hR⟩ := hR
  obtain ⟨gA, gI', gT, f1, f2, f3, f4, f5, f6, f7⟩ := hR
  have hR : R lws σ := ⟨gA, gI', gT, f1, f2, f3, f4, f5, f6, f7⟩
  have e4 : (gI σ 0 4).toInt = rd σ 120 4 := f1
  have l20 : (20 : Int32).toInt = 20 := rfl
  have l300 : (300 : Int32).toInt = 300 := rfl
  have s4 : (gI σ 0 4 + 20).toInt = rd σ 120 4 + 20 := by rw [tP (by rw [e4, l20]; omega), e4, l20]
  have t4 : (gI σ 120 4 + 20).toInt = rd σ 120 4 + 20 := by
    have e : (gI σ 120 4).toInt = rd σ 120 4 := rfl
    rw [tP (by rw [e, l20]; omega), e, l20]
  apply wX_feed
  simp only [pI, pL, pR, pV, i10, ↓reduceIte, eX_feed_0]
  simp only [ile, s4, l300]
  split
  next z =>
    simp only [pI, pL, pR, pV, i10, ↓reduceIte, eX_feed_15]
    have n0 : 0 ≤ rd σ 0 4 := by omega
    refine sX_feedFour (L := []) n0 (by simp; omega) Fed.nil (fun s1 k1 => ?_)
    simp only [pI, pL, pR, pV, i10, ↓reduceIte, eX_feed_20]
    refine sX_feedFour (L := F4 [] x1) n0 (by simp [F4_len]; omega) k1 (fun s2 k2 => ?_)
    simp only [pI, pL, pR, pV, i10, ↓reduceIte, eX_feed_25]
    refine sX_feedFour (L := F4 (F4 [] x1) x2) n0 (by simp [F4_len]; omega) k2 (fun s3 k3 => ?_)
    simp only [pI, pL, pR, pV, i10, ↓reduceIte, eX_feed_30]
    refine sX_feedFour (L := F4 (F4 (F4 [] x1) x2) x3) n0 (by simp [F4_len]; omega) k3 (fun s4 k4 => ?_)
    simp only [pI, pL, pR, pV, i10, ↓reduceIte, eX_feed_36]
    refine sX_feedFour (L := F4 (F4 (F4 (F4 [] x1) x2) x3) x4) n0 (by simp [F4_len]; omega) k4 (fun s5 k5 => ?_)
    simp only [pI, pL, pR, pV, i10, ↓reduceIte, eX_feed_42]
    have k5 : Fed 82 0 σ s5 (F4 (F4 (F4 (F4 (F4 [] x1) x2) x3) x4) x5) := k5
    have hok : ∀ y, y ∈ F4 (F4 (F4 (F4 (F4 [] x1) x2) x3) x4) x5 → 0 ≤ y.toInt ∧ y.toInt ≤ 255 := F4_ok (F4_ok (F4_ok (F4_ok (F4_ok (by simp)))))
    have hlen : (F4 (F4 (F4 (F4 (F4 [] x1) x2) x3) x4) x5).length = 20 := by simp [F4_len]
    have m0 : ∀ a k, a ≠ 82 → a ≠ 0 → rd s5 a k = rd σ a k := fun a k h1 h2 => k5.1.rd (not_inS (fun e he q => by
      simp only [List.mem_cons, List.not_mem_nil, or_false] at he
      rcases he with rfl | rfl
      · exact h1 q.1.symm
      · exact h2 q.1.symm))
    refine h _ s5 (k5.1.sm (by decide)) (fun Ψ hΨ => ?_)
    apply wM_feed
    simp only [pI, pL, pR, pV, i10, ↓reduceIte, eM_feed_0]
    have t4' : (gI s5 120 4 + 20).toInt = rd σ 120 4 + 20 := by
      have e : (gI s5 120 4).toInt = rd σ 120 4 := m0 120 4 (by omega) (by omega)
      rw [tP (by rw [e, l20]; omega), e, l20]
    simp only [ile, t4', l300]
    rw [if_pos z]
    have p0 : rd s5 120 4 = rd σ 120 4 := m0 120 4 (by omega) (by omega)
    have n1 : 0 ≤ rd s5 120 4 := by omega
    simp only [pI, pL, pR, pV, i10, ↓reduceIte, eM_feed_15]
    refine sM_four (L := []) n1 (by simp; omega) Fed.nil (fun r1 j1 => ?_)
    simp only [pI, pL, pR, pV, i10, ↓reduceIte, eM_feed_20]
    refine sM_four (L := F4 [] x1) n1 (by simp [F4_len]; omega) j1 (fun r2 j2 => ?_)
    simp only [pI, pL, pR, pV, i10, ↓reduceIte, eM_feed_25]
    refine sM_four (L := F4 (F4 [] x1) x2) n1 (by simp [F4_len]; omega) j2 (fun r3 j3 => ?_)
    simp only [pI, pL, pR, pV, i10, ↓reduceIte, eM_feed_30]
    refine sM_four (L := F4 (F4 (F4 [] x1) x2) x3) n1 (by simp [F4_len]; omega) j3 (fun r4 j4 => ?_)
    simp only [pI, pL, pR, pV, i10, ↓reduceIte, eM_feed_36]
    refine sM_four (L := F4 (F4 (F4 (F4 [] x1) x2) x3) x4) n1 (by simp [F4_len]; omega) j4 (fun r5 j5 => ?_)
    simp only [pI, pL, pR, pV, i10, ↓reduceIte, eM_feed_42]
    have j5 : Fed 124 120 s5 r5 (F4 (F4 (F4 (F4 (F4 [] x1) x2) x3) x4) x5) := j5
    generalize F4 (F4 (F4 (F4 (F4 [] x1) x2) x3) x4) x5 = L at *
    have q0 : ∀ a k, a ≠ 124 → (a ≠ 120 ∨ k ≠ 4) → rd r5 a k = rd s5 a k := fun a k h1 h2 => j5.1.rd (not_inS (fun e he q => by
      simp only [List.mem_cons, List.not_mem_nil, or_false] at he
      rcases he with rfl | rfl
      · exact h1 q.1.symm
      · obtain ⟨q1, q2, q3⟩ := q
        have q2 : 4 ≤ k := q2
        have q3 : k < 5 := q3
        rcases h2 with h2 | h2
        · exact h2 q1.symm
        · exact h2 (by omega)))
    have T0 : rd s5 0 4 = rd σ 120 4 + 20 := by rw [k5.2.1, hlen, f1]; rfl
    have T1 : rd r5 120 4 = rd σ 120 4 + 20 := by rw [j5.2.1, hlen, p0]; rfl
    have ev : gI r5 120 4 = gI s5 0 4 := eqv (by show rd r5 120 4 = rd s5 0 4; rw [T0, T1])
    rw [ev]
    have eq : ∀ S : Ls, dsj S [(82, 0, 300), (0, 4, 5)] = true → dsj S [(124, 0, 300), (120, 4, 5)] = true → Eqc S σ r5 := fun S d1 d2 => (k5.1.eqc d1).tr (j5.1.eqc d2)
    refine hΨ r5 (j5.1.sm (by decide)) ⟨lws, RA.of (eq _ (by decide +kernel) (by decide +kernel)) gA, RA.of (eq _ (by decide +kernel) (by decide +kernel)) gI', RT.of (eq _ (by decide +kernel) (by decide +kernel)) gT, ?_, ?_, fun k hk hkT => ?_, ?_, ?_, ?_, ?_⟩
    · rw [q0 0 4 (by omega) (by omega), T0, T1]
    · omega
    · rw [T1] at hkT
      have a82 : rd r5 82 k = rd s5 82 k := q0 82 k (by omega) (by omega)
      have a124 : rd s5 124 k = rd σ 124 k := m0 124 k (by omega) (by omega)
      rw [a82, k5.2.2 k hk, j5.2.2 k hk, hlen, p0, f1]
      by_cases y : rd σ 120 4 ≤ k ∧ (k : Int) < rd σ 120 4 + (20 : Nat)
      · rw [if_pos y, if_pos y]
        refine ⟨rfl, ?_⟩
        have hi : k - (rd σ 120 4).toNat < L.length := by omega
        have eg : L.getD (k - (rd σ 120 4).toNat) 0 = L[k - (rd σ 120 4).toNat] := by simp [hi]
        rw [eg]
        exact hok _ (List.getElem_mem hi)
      · rw [if_neg y, if_neg y, a124]
        exact f3 k hk (by omega)
    · rw [q0 83 13 (by omega) (by omega), q0 120 5 (by omega) (by omega), m0 83 13 (by omega) (by omega), m0 120 5 (by omega) (by omega)]; exact f4
    · rw [q0 83 14 (by omega) (by omega), q0 120 6 (by omega) (by omega), m0 83 14 (by omega) (by omega), m0 120 6 (by omega) (by omega)]; exact f5
    · rw [q0 120 24 (by omega) (by omega), m0 120 24 (by omega) (by omega)]; exact f6
    · rw [q0 122 2 (by omega) (by omega), q0 121 2 (by omega) (by omega), m0 122 2 (by omega) (by omega), m0 121 2 (by omega) (by omega)]; exact f7
  next z =>
    refine h _ σ ⟨fun _ => rfl, rfl⟩ (fun Ψ hΨ => ?_)
    apply wM_feed
    simp only [pI, pL, pR, pV, i10, ↓reduceIte, eM_feed_0]
    simp only [ile, t4, l300]
    rw [if_neg z]
    exact hΨ σ ⟨fun _ => rfl, rfl⟩ ⟨lws, hR⟩
