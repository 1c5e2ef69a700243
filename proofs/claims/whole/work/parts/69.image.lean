/-! IMAGE AND BACK -/
theorem ks_copy {σ σ' : Sg} {a a' j : Nat} (hj : j < 30) (hm : ∀ k, k < 4016 → rd σ' a' k = rd σ a k) : ks σ' a' j = ks σ a j := by
  have g0 := hm (146 + 47 * j) (by omega)
  have g1 := hm (147 + 47 * j) (by omega)
  funext k
  unfold ks
  rw [g0, g1]
  by_cases a1 : k < 6
  · simp only [if_pos a1]
    rw [hm (153 + 47 * j + 5 * k) (by omega)]
  simp only [if_neg a1]
  by_cases a2 : k < 12
  · simp only [if_pos a2]
    rw [hm (154 + 47 * j + 5 * (k - 6)) (by omega)]
  simp only [if_neg a2]
  by_cases a3 : k < 18
  · simp only [if_pos a3]
    rw [hm (151 + 47 * j + 5 * (k - 12)) (by omega), hm (18 + 8 * (k - 12)) (by omega)]
  simp only [if_neg a3]
  by_cases a4 : k < 24
  · simp only [if_pos a4]
    rw [hm (152 + 47 * j + 5 * (k - 18)) (by omega), hm (19 + 8 * (k - 18)) (by omega)]
  simp only [if_neg a4]
  by_cases a5 : k < 30
  · simp only [if_pos a5]
    rw [hm (155 + 47 * j + 5 * (k - 24)) (by omega)]
  simp only [if_neg a5]
  by_cases a6 : k < 36
  · simp only [if_pos a6]
    rw [hm (181 + 47 * j + 2 * (k - 30)) (by omega), hm (63 + 4 * (k - 30)) (by omega)]
  simp only [if_neg a6]
  by_cases a7 : k < 42
  · simp only [if_pos a7]
    rw [hm (182 + 47 * j + 2 * (k - 36)) (by omega)]
  simp only [if_neg a7]
  by_cases a8 : k < 44
  · simp only [if_pos a8]
    rw [hm (148 + 47 * j + (k - 42)) (by omega)]
  · simp only [if_neg a8]
theorem Bk_copy {σ σ' : Sg} {a a' r r' : Nat} {W : Int} (hr : ∀ k, k < 75 → rd σ' r' k = rd σ r k) (hm : ∀ k, k < 4016 → rd σ' a' k = rd σ a k) (h : Bk r a σ W) : Bk r' a' σ' W := by
  intro p hp hq
  obtain ⟨w, f, t, b1, b2, b3, e1, e2, e3⟩ := h p hp hq
  have m1' : p % 30 < 30 := Nat.mod_lt _ (by decide)
  have m2' : p % 1230 < 1230 := Nat.mod_lt _ (by decide)
  exact ⟨w, f, t, b1, b2, b3, by rw [hr _ (by omega)]; exact e1, by rw [hm _ (by omega)]; exact e2, by rw [hm _ (by omega)]; exact e3⟩
theorem rc_copy {σ σ' : Sg} {r r' : Nat} (hr : ∀ k, k < 75 → rd σ' r' k = rd σ r k) : rc σ' r' = rc σ r := by
  funext k
  unfold rc
  by_cases q : k < 44
  · rw [if_pos q, if_pos q, hr k (by omega)]
  · rw [if_neg q, if_neg q]
theorem E0_copy {σ σ' : Sg} {a a' : Nat} (hm : ∀ k, k < 4016 → rd σ' a' k = rd σ a k) : E0 σ' a' = E0 σ a := by
  unfold E0
  have e2 : (fun w => if w < 6 then rd σ' a' (12 + 8 * w) else 0) = fun w => if w < 6 then rd σ a (12 + 8 * w) else 0 := by
    funext w
    by_cases q : w < 6
    · rw [if_pos q, if_pos q, hm _ (by omega)]
    · rw [if_neg q, if_neg q]
  have e3 : (fun w => if w < 6 then rd σ' a' (60 + 4 * w) else 0) = fun w => if w < 6 then rd σ a (60 + 4 * w) else 0 := by
    funext w
    by_cases q : w < 6
    · rw [if_pos q, if_pos q, hm _ (by omega)]
    · rw [if_neg q, if_neg q]
  rw [hm 0 (by omega), hm 1 (by omega), e2, e3]
theorem COk_copy {σ σ' : Sg} {a a' : Nat} {c : Co} (hm : ∀ k, k < 4016 → rd σ' a' k = rd σ a k) (h : COk σ a c) : COk σ' a' c := by
  unfold COk at *
  rw [E0_copy hm, hm 0 (by omega)]
  exact h
theorem RA_copy {D : Int} {bs bt a a' : Nat} {σ σ' : Sg} (hc : ∀ x k, (1 ≤ x ∧ x ≤ 40) → inS fW x k = true → rd σ' (x + bt) k = rd σ (x + bs) k) (hm : ∀ k, k < 4016 → rd σ' a' k = rd σ a k) (g : RA D bs a σ) : RA D bt a' σ' := by
  obtain ⟨g1, g2, g3, g4, g5, g6, g7, g8, g9⟩ := g
  have c1 : ∀ k, inS fW 1 k = true → rd σ' (1 + bt) k = rd σ (1 + bs) k := fun k q => hc 1 k (by omega) q
  have c2 : ∀ k, k < 75 → rd σ' (2 + bt) k = rd σ (2 + bs) k := fun k q => hc 2 k (by omega) (fW_row (by decide) k q)
  have cr : ∀ r, r < 30 → ∀ k, k < 75 → rd σ' (4 + bt + r) k = rd σ (4 + bs + r) k := fun r hr k q => by
    have := hc (4 + r) k (by omega) (fW_row (List.mem_append_left _ (List.mem_map.mpr ⟨r, List.mem_range.mpr hr, rfl⟩)) k q)
    rw [show 4 + bt + r = 4 + r + bt from by omega, show 4 + bs + r = 4 + r + bs from by omega]
    exact this
  have emc : mc σ' a' = mc σ a := by
    funext k
    unfold mc
    by_cases q : k < 44
    · rw [if_pos q, if_pos q, hm _ (by have := mix_lt q; omega)]
    · rw [if_neg q, if_neg q]
  refine ⟨?_, ?_, ?_, ?_, ?_, ?_, ?_, ?_, ?_⟩
  · obtain ⟨p1, p2, p3, p4, p5, p6⟩ := g1
    refine ⟨?_, ?_, fun w hw => ?_, fun v hv => ?_, ?_, ?_⟩
    · rw [c1 4 (by decide), hm 0 (by omega)]; exact p1
    · rw [c1 6 (by decide), hm 1 (by omega)]; exact p2
    · rw [hc 34 w (by omega) (fW_row (by decide) w hw), hm _ (by omega)]; exact p3 w hw
    · rw [hc 35 v (by omega) (fW_row (by decide) v hv), hm _ (by omega)]; exact p4 v hv
    · rw [hm 0 (by omega)]; exact p5
    · rw [hm 1 (by omega)]; exact p6
  · intro i hi
    rw [hc 36 i (by omega) (fW_row (by decide) i hi), hm _ (by omega)]
    exact g2 i hi
  · obtain ⟨p1, p2, p3, p4⟩ := g3
    refine ⟨?_, ?_, ?_, ?_⟩
    · rw [c1 9 (by decide), hm 2 (by omega)]; exact p1
    · rw [c1 10 (by decide), hm 3 (by omega)]; exact p2
    · rw [hm 2 (by omega)]; exact p3
    · rw [hm 2 (by omega), hm 3 (by omega)]; exact p4
  · obtain ⟨p1, p2, p3, p4⟩ := g4
    refine ⟨?_, ?_, fun k hk => ?_, fun k hk => ?_⟩
    · rw [c1 11 (by decide), hm 5 (by omega)]; exact p1
    · rw [hm 5 (by omega)]; exact p2
    · rw [hc 37 k (by omega) (fW_row (by decide) k hk), hc 38 k (by omega) (fW_row (by decide) k hk), hm (120 + 2 * k) (by omega), hm (121 + 2 * k) (by omega)]
      exact p3 k hk
    · rw [hm 5 (by omega)] at hk
      rw [hm (120 + 2 * k) (by omega), hm (121 + 2 * k) (by omega), hm 1 (by omega)]
      exact p4 k hk
  · obtain ⟨p1, p2, p3, p4⟩ := g5
    refine ⟨?_, ?_, fun k hk => ?_, fun k hk => ?_⟩
    · rw [c1 14 (by decide), hm 6 (by omega)]; exact p1
    · rw [hm 6 (by omega)]; exact p2
    · rw [hc 39 k (by omega) (fW_row (by decide) k hk), hm (136 + k) (by omega)]
      exact p3 k hk
    · rw [hm 6 (by omega)] at hk
      rw [hm (136 + k) (by omega)]
      exact p4 k hk
  · obtain ⟨p1, p2, p3, p4⟩ := g6
    refine ⟨?_, ?_, fun k hk => ?_, fun k hk => ?_⟩
    · rw [c1 16 (by decide), hm 7 (by omega)]; exact p1
    · rw [hm 7 (by omega)]; exact p2
    · rw [hc 40 k (by omega) (fW_row (by decide) k hk), hm (141 + k) (by omega)]
      exact p3 k hk
    · rw [hm 7 (by omega)] at hk
      rw [hm (141 + k) (by omega)]
      exact p4 k hk
  · obtain ⟨p1, p2, p3, p4⟩ := g7
    refine ⟨?_, ?_, fun w hw hn k hk h0 => ?_, fun w hw hn k hk h0 => ?_⟩
    · rw [rc_copy c2, emc]; exact p1
    · rw [emc]; exact COk_copy hm p2
    · rw [hm 0 (by omega)] at hn
      rw [hm _ (by omega)]; exact p3 w hw hn k hk h0
    · rw [hm 1 (by omega)] at hn
      rw [hm _ (by omega)]; exact p4 w hw hn k hk h0
  · obtain ⟨p1, p2, p3⟩ := g8
    refine ⟨?_, ?_, ?_⟩
    · rw [c2 44 (by omega), hm 10 (by omega)]; exact p1
    · rw [hm 10 (by omega), hm 8 (by omega)]; exact p2
    · rw [hm 10 (by omega)]; exact Bk_copy c2 hm p3
  · obtain ⟨s1, s2, s3, s4⟩ := g9
    refine ⟨?_, ?_, ?_, fun j hj => ?_⟩
    · rw [c1 3 (by decide), hm 4 (by omega)]; exact s1
    · rw [hm 4 (by omega)]; exact s2
    · rw [c1 2 (by decide)]; exact s3
    · rw [hm 4 (by omega)] at hj
      obtain ⟨⟨u1, u2, u3, u4, u5, u6, u7⟩, u8, u9, u10⟩ := s4 j hj
      have hj30 : j < 30 := by omega
      rw [c1 2 (by decide), hm 4 (by omega), hm 10 (by omega), hm (150 + 47 * j) (by omega)]
      obtain ⟨r, r30, hr⟩ : ∃ r, r < 30 ∧ ((rd σ (1 + bs) 2 + 30 - rd σ a 4 + j) % 30).toNat = r := ⟨_, by omega, rfl⟩
      unfold rwK at u1 u2 u6 ⊢
      rw [hr] at u1 u2 u6 ⊢
      have rr := cr r r30
      have hks := ks_copy hj30 hm
      refine ⟨⟨?_, ?_, ?_, ?_, ?_, ?_, ?_⟩, u8, u9, fun i hi => by rw [hm (150 + 47 * i) (by omega)]; exact u10 i hi⟩
      · rw [rc_copy rr, hks]; exact u1
      · rw [rr 44 (by omega), hm (150 + 47 * j) (by omega)]; exact u2
      · rw [hm (150 + 47 * j) (by omega), hm (148 + 47 * j) (by omega)]; exact u3
      · rw [hm (146 + 47 * j) (by omega), hm 0 (by omega)]; exact u4
      · rw [hm (147 + 47 * j) (by omega), hm 1 (by omega)]; exact u5
      · rw [hm (150 + 47 * j) (by omega)]; exact Bk_copy rr hm u6
      · rw [hks]; exact COk_copy hm u7
theorem fWt_no120 {b x k : Nat} (hb : b = 0 ∨ b = 40) (hx : 81 ≤ x) : inS (fWt b) x k = false := not_inS (fun e he q => by
  obtain ⟨f, hf, rfl⟩ := List.mem_map.mp he
  have := fW_r f hf
  have q1 : f.1 + b = x := q.1
  omega)
theorem p_image : PairI Rel nX_image nM_image [] := by
  intro σ hR Φ h
  obtain ⟨lws, hR⟩ := hR
  have gA := hR.1
  apply wX_image
  simp only [pI, pL, pR, pV, i10, ↓reduceIte, eX_image_0]
  refine sW_copyFrom (bs := 0) (bt := 40) (Or.inl ⟨rfl, rfl⟩) (fun σ1 hC => ?_)
  simp only [pI, pL, pR, pV, i10, ↓reduceIte, eX_image_11]
  refine ⟨⟨by decide, by decide⟩, ?_⟩
  refine h _ σ1 (hC.1.sm (by decide +kernel)) (fun Ψ hΨ => ?_)
  apply wM_image
  simp only [pI, pL, pR, pV, i10, ↓reduceIte, eM_image_0]
  refine sM_copy rfl rfl rfl (by decide) (fun σ2 hF hP => ?_)
  simp only [pI, pL, pR, pV, i10, ↓reduceIte, eM_image_11]
  have eq : ∀ S : Ls, dsj S (fWt 40) = true → dsj S [(122, 0, 4016)] = true → Eqc S σ σ2 := fun S d1 d2 => (hC.1.eqc d1).tr (hF.eqc d2)
  have n121 : ∀ k, rd σ2 121 k = rd σ 121 k := fun k => (hF.rd (not_inS (fun e he q => by
    rw [List.mem_singleton] at he
    subst he
    exact absurd q.1 (by decide)))).trans (hC.1.rd (fWt_no120 (Or.inr rfl) (by omega)))
  have hm : ∀ k, k < 4016 → rd σ2 122 k = rd σ 121 k := fun k hk => by
    have e : rd σ2 122 k = rd σ1 121 k := congrArg Int32.toInt (hP k hk)
    rw [e]
    exact hC.1.rd (fWt_no120 (Or.inr rfl) (by omega))
  have cl : ∀ x k, x < 120 → rd σ2 x k = rd σ1 x k := fun x k hx => hF.rd (not_inS (fun e he q => by
    rw [List.mem_singleton] at he
    subst he
    have : 122 = x := q.1
    omega))
  have ev : gI σ2 121 (ix 8) = gI σ1 2 (ix 42) := eqv (by
    show rd σ2 121 8 = rd σ1 2 42
    have e1 : rd σ1 2 42 = rd σ 2 42 := hC.1.rd (fWt_no (bs := 0) (Or.inl ⟨rfl, rfl⟩) (x := 2) (by omega))
    have e2 : rc σ 2 42 = mc σ 121 42 := by rw [hR.rc]
    rw [n121, e1]
    exact e2.symm)
  rw [ev]
  refine ⟨⟨by decide, by decide⟩, hΨ σ2 (hF.sm (by decide)) ⟨lws, RA.of (eq _ (by decide +kernel) (by decide +kernel)) gA, RA_copy (bs := 0) (a := 121) (σ := σ) (fun x k hx hk => ?_) hm gA, RT.of (eq _ (by decide +kernel) (by decide +kernel)) hR.2.2.1, ?_⟩⟩
  · rw [cl _ _ (by omega)]
    exact congrArg Int32.toInt (hC.2 x k hx hk)
  · obtain ⟨f1, f2, f3, f4, f5, f6, f7⟩ := hR.2.2.2
    have e := eq [(0, 4, 5), (120, 4, 7), (82, 0, 300), (124, 0, 300), (83, 13, 15), (120, 24, 25)] (by decide +kernel) (by decide +kernel)
    have e4 : rd σ2 120 4 = rd σ 120 4 := e.at (lo := 4) (hi := 7) (by simp) (by omega)
    refine ⟨?_, ?_, fun k hk hkT => ?_, ?_, ?_, ?_, ?_⟩
    · rw [e.at (a := 0) (lo := 4) (hi := 5) (by simp) (by omega), e4]; exact f1
    · rw [e4]; exact f2
    · rw [e4] at hkT
      rw [e.at (a := 82) (lo := 0) (hi := 300) (by simp) (by omega), e.at (a := 124) (lo := 0) (hi := 300) (by simp) (by omega)]
      exact f3 k hk hkT
    · rw [e.at (a := 83) (lo := 13) (hi := 15) (by simp) (by omega), e.at (a := 120) (lo := 4) (hi := 7) (by simp) (by omega)]; exact f4
    · rw [e.at (a := 83) (lo := 13) (hi := 15) (by simp) (by omega), e.at (a := 120) (lo := 4) (hi := 7) (by simp) (by omega)]; exact f5
    · rw [e.at (a := 120) (lo := 24) (hi := 25) (by simp) (by omega)]; exact f6
    · rw [hm 2 (by omega), n121]; exact Int.le_refl _
theorem p_back : PairI Rel nX_back nM_back [] := by
  intro σ hR Φ h
  obtain ⟨lws, hR⟩ := hR
  have gI' := hR.2.1
  have f7 := hR.2.2.2.2.2.2.2.2.2
  apply wX_back
  simp only [pI, pL, pR, pV, i10, ↓reduceIte, eX_back_0]
  refine sW_copyFrom (bs := 40) (bt := 0) (Or.inr ⟨rfl, rfl⟩) (fun σ1 hC => ?_)
  simp only [pI, pL, pR, pV, i10, ↓reduceIte, eX_back_11]
  refine ⟨⟨by decide, by decide⟩, ?_⟩
  refine h _ σ1 (hC.1.sm (by decide +kernel)) (fun Ψ hΨ => ?_)
  apply wM_back
  simp only [pI, pL, pR, pV, i10, ↓reduceIte, eM_back_0]
  refine sM_copy rfl rfl rfl (by decide) (fun σ2 hF hP => ?_)
  simp only [pI, pL, pR, pV, i10, ↓reduceIte, eM_back_11]
  have eq : ∀ S : Ls, dsj S (fWt 0) = true → dsj S [(121, 0, 4016)] = true → Eqc S σ σ2 := fun S d1 d2 => (hC.1.eqc d1).tr (hF.eqc d2)
  have n122 : ∀ k, rd σ2 122 k = rd σ 122 k := fun k => (hF.rd (not_inS (fun e he q => by
    rw [List.mem_singleton] at he
    subst he
    exact absurd q.1 (by decide)))).trans (hC.1.rd (fWt_no120 (Or.inl rfl) (by omega)))
  have hm : ∀ k, k < 4016 → rd σ2 121 k = rd σ 122 k := fun k hk => by
    have e : rd σ2 121 k = rd σ1 122 k := congrArg Int32.toInt (hP k hk)
    rw [e]
    exact hC.1.rd (fWt_no120 (Or.inl rfl) (by omega))
  have cl : ∀ x k, x < 120 → rd σ2 x k = rd σ1 x k := fun x k hx => hF.rd (not_inS (fun e he q => by
    rw [List.mem_singleton] at he
    subst he
    have : 121 = x := q.1
    omega))
  have ev : gI σ2 121 (ix 8) = gI σ1 2 (ix 42) := eqv (by
    show rd σ2 121 8 = rd σ1 2 42
    have e1 : rd σ1 (2 + 0) 42 = rd σ (2 + 40) 42 := congrArg Int32.toInt (hC.2 2 42 (by omega) (fW_row (n := 75) (by decide) 42 (by omega)))
    have e2 : rc σ (2 + 40) = mc σ 122 := gI'.2.2.2.2.2.2.1.1
    have e3 : rc σ (2 + 40) 42 = mc σ 122 42 := by rw [e2]
    rw [hm 8 (by omega)]
    exact (e1.trans e3).symm)
  rw [ev]
  refine ⟨⟨by decide, by decide⟩, hΨ σ2 (hF.sm (by decide)) ⟨lws, RA_copy (bs := 40) (a := 122) (σ := σ) (fun x k hx hk => ?_) hm gI', RA.of (eq _ (by decide +kernel) (by decide +kernel)) gI', ⟨fun t ht hn => ?_, hR.2.2.1.2⟩, ?_⟩⟩
  · rw [cl _ _ (by omega)]
    exact congrArg Int32.toInt (hC.2 x k hx hk)
  · rw [hm 2 (by omega)] at hn
    have e := eq ((List.range 20).map (fun i => (88 + i, 0, 1000)) ++ [(123, 0, 2820)]) (by decide +kernel) (by decide +kernel)
    refine Tx1.of ht (fun x k h1 h2 hk => e.at (lo := 0) (hi := 1000) (List.mem_append_left _ (List.mem_map.mpr ⟨x - 88, List.mem_range.mpr (by omega), by rw [show 88 + (x - 88) = x from by omega]⟩)) (by omega)) (fun k hk => e.at (lo := 0) (hi := 2820) (List.mem_append_right _ (by simp)) (by omega)) (hR.2.2.1.1 t ht (by omega))
  · obtain ⟨f1, f2, f3, f4, f5, f6, f7⟩ := hR.2.2.2
    have e := eq [(0, 4, 5), (120, 4, 7), (82, 0, 300), (124, 0, 300), (83, 13, 15), (120, 24, 25)] (by decide +kernel) (by decide +kernel)
    have e4 : rd σ2 120 4 = rd σ 120 4 := e.at (lo := 4) (hi := 7) (by simp) (by omega)
    refine ⟨?_, ?_, fun k hk hkT => ?_, ?_, ?_, ?_, ?_⟩
    · rw [e.at (a := 0) (lo := 4) (hi := 5) (by simp) (by omega), e4]; exact f1
    · rw [e4]; exact f2
    · rw [e4] at hkT
      rw [e.at (a := 82) (lo := 0) (hi := 300) (by simp) (by omega), e.at (a := 124) (lo := 0) (hi := 300) (by simp) (by omega)]
      exact f3 k hk hkT
    · rw [e.at (a := 83) (lo := 13) (hi := 15) (by simp) (by omega), e.at (a := 120) (lo := 4) (hi := 7) (by simp) (by omega)]; exact f4
    · rw [e.at (a := 83) (lo := 13) (hi := 15) (by simp) (by omega), e.at (a := 120) (lo := 4) (hi := 7) (by simp) (by omega)]; exact f5
    · rw [e.at (a := 120) (lo := 24) (hi := 25) (by simp) (by omega)]; exact f6
    · rw [hm 2 (by omega), n122]; exact Int.le_refl _
