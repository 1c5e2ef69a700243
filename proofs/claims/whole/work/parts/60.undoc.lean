/-! A STEP TAKEN BACK KEEPS THE RELATION -/
theorem ks_hi {σ : Sg} {j k : Nat} (h : ¬ k < 44) : ks σ 121 j k = 0 := by
  unfold ks
  rw [if_neg (by omega), if_neg (by omega), if_neg (by omega), if_neg (by omega), if_neg (by omega), if_neg (by omega), if_neg (by omega), if_neg h]
/-- a slot's core where nothing is told: as what is there -/
theorem ks_zr {σ : Sg} {j : Nat} (hz : Zr σ 121) (h0 : rd σ 121 (146 + 47 * j) ≤ rd σ 121 0) (h1 : rd σ 121 (147 + 47 * j) ≤ rd σ 121 1) (b0 : 0 ≤ rd σ 121 0) (b1 : 0 ≤ rd σ 121 1) {k : Nat} (hk : k < 44) (q : ¬ Dn (rd σ 121 0).toNat (rd σ 121 1).toNat k) : ks σ 121 j k = mc σ 121 k := by
  obtain ⟨z1, z2⟩ := hz
  have W : ∀ w : Nat, w < 6 → (rd σ 121 0).toNat ≤ w → ks σ 121 j w = mc σ 121 w ∧ ks σ 121 j (6 + w) = mc σ 121 (6 + w) ∧ ks σ 121 j (12 + w) = mc σ 121 (12 + w) ∧ ks σ 121 j (18 + w) = mc σ 121 (18 + w) ∧ ks σ 121 j (24 + w) = mc σ 121 (24 + w) := fun w hw hn => by
    obtain ⟨t1', t2', t3', t4', t5'⟩ := (ks_tab (σ := σ) (j := j)).2.1 w hw (by omega)
    obtain ⟨m1', m2', m3', m4', m5', -, -⟩ := mc_tab (σ := σ) (a := 121) w hw
    have zz := z1 w hw (by omega)
    have y1 := zz 1 (by omega) (by omega)
    have y2 := zz 2 (by omega) (by omega)
    have y3 := zz 3 (by omega) (by omega)
    have y4 := zz 4 (by omega) (by omega)
    have y5 := zz 5 (by omega) (by omega)
    have y6 := zz 6 (by omega) (by omega)
    have y7 := zz 7 (by omega) (by omega)
    rw [show 12 + 8 * w + 1 = 13 + 8 * w from by omega] at y1
    rw [show 12 + 8 * w + 2 = 14 + 8 * w from by omega] at y2
    rw [show 12 + 8 * w + 3 = 15 + 8 * w from by omega] at y3
    rw [show 12 + 8 * w + 4 = 16 + 8 * w from by omega] at y4
    rw [show 12 + 8 * w + 5 = 17 + 8 * w from by omega] at y5
    rw [show 12 + 8 * w + 6 = 18 + 8 * w from by omega] at y6
    rw [show 12 + 8 * w + 7 = 19 + 8 * w from by omega] at y7
    exact ⟨by rw [t3', m1', y3], by rw [t4', m2', y4], by rw [t1', m3', y6, y1], by rw [t2', m4', y7, y2], by rw [t5', m5', y5]⟩
  have V : ∀ v : Nat, v < 6 → (rd σ 121 1).toNat ≤ v → ks σ 121 j (30 + v) = mc σ 121 (30 + v) ∧ ks σ 121 j (36 + v) = mc σ 121 (36 + v) := fun v hv hn => by
    obtain ⟨t1', t2'⟩ := ((ks_tab (σ := σ) (j := j)).2.2.1 v hv).2 (by omega)
    obtain ⟨-, -, -, -, -, m6', m7'⟩ := mc_tab (σ := σ) (a := 121) v hv
    have zz := z2 v hv (by omega)
    have y1 := zz 1 (by omega) (by omega)
    have y2 := zz 2 (by omega) (by omega)
    have y3 := zz 3 (by omega) (by omega)
    rw [show 60 + 4 * v + 1 = 61 + 4 * v from by omega] at y1
    rw [show 60 + 4 * v + 2 = 62 + 4 * v from by omega] at y2
    rw [show 60 + 4 * v + 3 = 63 + 4 * v from by omega] at y3
    exact ⟨by rw [t1', m6', y3, y1], by rw [t2', m7', y2]⟩
  unfold Dn at q
  by_cases a1 : k < 6
  · exact (W k a1 (by omega)).1
  by_cases a2 : k < 12
  · obtain ⟨w, rfl⟩ : ∃ w, k = 6 + w := ⟨k - 6, by omega⟩
    exact (W w (by omega) (by omega)).2.1
  by_cases a3 : k < 18
  · obtain ⟨w, rfl⟩ : ∃ w, k = 12 + w := ⟨k - 12, by omega⟩
    exact (W w (by omega) (by omega)).2.2.1
  by_cases a4 : k < 24
  · obtain ⟨w, rfl⟩ : ∃ w, k = 18 + w := ⟨k - 18, by omega⟩
    exact (W w (by omega) (by omega)).2.2.2.1
  by_cases a5 : k < 30
  · obtain ⟨w, rfl⟩ : ∃ w, k = 24 + w := ⟨k - 24, by omega⟩
    exact (W w (by omega) (by omega)).2.2.2.2
  by_cases a6 : k < 36
  · obtain ⟨w, rfl⟩ : ∃ w, k = 30 + w := ⟨k - 30, by omega⟩
    exact (V w (by omega) (by omega)).1
  · obtain ⟨w, rfl⟩ : ∃ w, k = 36 + w := ⟨k - 36, by omega⟩
    exact (V w (by omega) (by omega)).2
theorem R_undo {lws : Lws} {σ σ1 σ2 : Sg} (g : R lws σ) (hp : 0 < rd σ 121 4) (k1 : BackC σ σ1) (k2 : BackM σ1 σ2) : R lws σ2 := by
  obtain ⟨c1, c2, c3, c4⟩ := k1
  obtain ⟨m1, m2, m3, m4, m5⟩ := k2
  have eq : ∀ S : Ls, dsj S FBc = true → dsj S FU = true → Eqc S σ σ2 := fun S d1 d2 => (c1.eqc d1).tr (m1.eqc d2)
  obtain ⟨⟨g1, g2, g3, g4, g5, g6, g7, g8, g9⟩, gI', gT, gF⟩ := g
  have q1 := eq (fG1 0 121) (by decide +kernel) (by decide +kernel)
  have a1 : ∀ k, rd σ1 121 k = rd σ 121 k := fun k => c1.rd (not_inS (fun e he z => by
    have : ∀ e, e ∈ FBc → e.1 ≤ 2 := by decide
    have := this e he
    omega))
  have a2 : ∀ k, inS FU 121 k = false → rd σ2 121 k = rd σ 121 k := fun k hk => (m1.rd hk).trans (a1 k)
  have cls : ∀ a k, a < 120 → rd σ2 a k = rd σ1 a k := fun a k ha => m1.rd (not_inS (fun e he z => by
    have : ∀ e, e ∈ FU → e.1 = 121 := by decide
    have := this e he
    omega))
  have far : ∀ a k, 3 ≤ a → a < 120 → rd σ2 a k = rd σ a k := fun a k h3 ha => (cls a k ha).trans (c1.rd (not_inS (fun e he z => by
    have : ∀ e, e ∈ FBc → e.1 ≤ 2 := by decide
    have := this e he
    omega)))
  obtain ⟨s1, s2, s3, s4⟩ := g9
  have s1 : rd σ 1 3 = rd σ 121 4 := s1
  have s3 : 0 ≤ rd σ 1 2 ∧ rd σ 1 2 < 30 := s3
  have s4 : ∀ j : Nat, (j : Int) < rd σ 121 4 → StR (rwK 0 (rd σ 1 2) (rd σ 121 4) j) 121 j σ ∧ rd σ 121 (150 + 47 * j) ≤ rd σ 121 10 ∧ rd σ 121 10 + 0 ≤ rd σ 121 (150 + 47 * j) + 40 * (rd σ 121 4 - j) ∧ (∀ i : Nat, i < j → rd σ 121 (150 + 47 * i) ≤ rd σ 121 (150 + 47 * j) ∧ rd σ 121 (150 + 47 * j) ≤ rd σ 121 (150 + 47 * i) + 40 * ((j : Int) - i)) := s4
  have aks : ∀ j, ks σ1 121 j = ks σ 121 j := fun j => ks_of (fun k _ => a1 _) (fun w _ => ⟨a1 _, a1 _, a1 _⟩)
  rw [a1] at m2
  rw [a1, a1] at m3
  rw [a1, a1, a1] at m4
  rw [a1, a1] at m5
  have emc1 : mc σ1 121 = mc σ 121 := by unfold mc; funext k; split <;> first | rw [a1] | rfl
  rw [emc1] at m5
  obtain ⟨b0, b1⟩ := g1.2.2.2.2
  generalize hj : (rd σ 121 4 - 1).toNat = j at *
  have hjj : rd σ 121 4 = j + 1 := by omega
  rw [aks] at m4
  obtain ⟨⟨t1', t2', t3', t4', t5', t6', t7'⟩, t8, t9, t10⟩ := s4 j (by omega)
  have hrow : rwK 0 (rd σ 1 2) (rd σ 121 4) j = 4 + ((rd σ 1 2 + 29) % 30).toNat := by
    unfold rwK
    rw [hjj]
    omega
  rw [hrow] at t1' t2' t6'
  generalize hr : ((rd σ 1 2 + 29) % 30).toNat = r at *
  have r30 : r < 30 := by omega
  have row : ∀ k, k < 75 → rd σ2 2 k = rd σ (4 + r) k := fun k hk => (cls 2 k (by omega)).trans (c4 k hk)
  have emc : mc σ2 121 = ks σ 121 j := by
    funext k
    by_cases hk : k < 44
    · by_cases q : Dn (rd σ 121 0).toNat (rd σ 121 1).toNat k
      · exact m4 k hk q
      · rw [m5 k hk q]
        exact (ks_zr g7.2.2 t4'.2 t5'.2 b0.1 b1.1 hk q).symm
    · rw [ks_hi hk]
      exact if_neg hk
  have e10 : rd σ2 121 10 = rd σ 121 (150 + 47 * j) := m3
  have told : ∀ w : Nat, w < 6 → rd σ2 121 (18 + 8 * w) = rd σ 121 (18 + 8 * w) ∧ rd σ2 121 (19 + 8 * w) = rd σ 121 (19 + 8 * w) ∧ rd σ2 121 (63 + 4 * w) = rd σ 121 (63 + 4 * w) := fun w hw => by
    have := FU_told w hw
    exact ⟨a2 _ this.2.1, a2 _ this.2.2.1, a2 _ this.2.2.2.2⟩
  have hi : ∀ k, 84 ≤ k → rd σ2 121 k = rd σ 121 k := fun k hk => a2 k (FU_hi hk)
  have lo : ∀ k, k < 8 → k ≠ 4 → rd σ2 121 k = rd σ 121 k := fun k hk h4 => a2 k (FU_low k hk h4)
  have zr2 : Zr σ2 121 := by
    obtain ⟨z1, z2⟩ := g7.2.2
    refine ⟨fun w hw hn k hk h0 => ?_, fun w hw hn k hk h0 => ?_⟩
    · rw [lo 0 (by omega) (by omega)] at hn
      have zz := z1 w hw hn
      obtain ⟨n1, n2, n3, n4, n5, -, -⟩ := mc_tab (σ := σ2) (a := 121) w hw
      obtain ⟨o1, o2, o3, o4, o5, -, -⟩ := mc_tab (σ := σ) (a := 121) w hw
      have nd : ∀ c, c < 44 → (c = w ∨ c = 6 + w ∨ c = 12 + w ∨ c = 18 + w ∨ c = 24 + w) → mc σ2 121 c = mc σ 121 c := fun c hc q => m5 c hc (by unfold Dn; omega)
      have kk : k = 1 ∨ k = 2 ∨ k = 3 ∨ k = 4 ∨ k = 5 ∨ k = 6 ∨ k = 7 := by omega
      have zk := zz k hk h0
      rcases kk with rfl | rfl | rfl | rfl | rfl | rfl | rfl
      · rw [show 12 + 8 * w + 1 = 13 + 8 * w from by omega] at *
        rw [← n3, nd _ (by omega) (by omega), o3]; exact zk
      · rw [show 12 + 8 * w + 2 = 14 + 8 * w from by omega] at *
        rw [← n4, nd _ (by omega) (by omega), o4]; exact zk
      · rw [show 12 + 8 * w + 3 = 15 + 8 * w from by omega] at *
        rw [← n1, nd _ (by omega) (by omega), o1]; exact zk
      · rw [show 12 + 8 * w + 4 = 16 + 8 * w from by omega] at *
        rw [← n2, nd _ (by omega) (by omega), o2]; exact zk
      · rw [show 12 + 8 * w + 5 = 17 + 8 * w from by omega] at *
        rw [← n5, nd _ (by omega) (by omega), o5]; exact zk
      · rw [show 12 + 8 * w + 6 = 18 + 8 * w from by omega] at *
        rw [(told w hw).1]; exact zk
      · rw [show 12 + 8 * w + 7 = 19 + 8 * w from by omega] at *
        rw [(told w hw).2.1]; exact zk
    · rw [lo 1 (by omega) (by omega)] at hn
      have zz := z2 w hw hn
      obtain ⟨-, -, -, -, -, n6, n7⟩ := mc_tab (σ := σ2) (a := 121) w hw
      obtain ⟨-, -, -, -, -, o6, o7⟩ := mc_tab (σ := σ) (a := 121) w hw
      have nd : ∀ c, c < 44 → (c = 30 + w ∨ c = 36 + w) → mc σ2 121 c = mc σ 121 c := fun c hc q => m5 c hc (by unfold Dn; omega)
      have kk : k = 1 ∨ k = 2 ∨ k = 3 := by omega
      have zk := zz k hk h0
      rcases kk with rfl | rfl | rfl
      · rw [show 60 + 4 * w + 1 = 61 + 4 * w from by omega] at *
        rw [← n6, nd _ (by omega) (by omega), o6]; exact zk
      · rw [show 60 + 4 * w + 2 = 62 + 4 * w from by omega] at *
        rw [← n7, nd _ (by omega) (by omega), o7]; exact zk
      · rw [show 60 + 4 * w + 3 = 63 + 4 * w from by omega] at *
        rw [(told w hw).2.2]; exact zk
  have bk2 : ∀ (x y : Nat) (W : Int), (∀ k, 44 ≤ k → k < 75 → rd σ2 y k = rd σ x k) → Bk x 121 σ W → Bk y 121 σ2 W := by
    intro x y W hxy hb p h1 h2
    obtain ⟨w, f, t, u1, u2, u3, e1, e2, e3⟩ := hb p h1 h2
    have m1' : p % 30 < 30 := Nat.mod_lt _ (by decide)
    have m2' : p % 1230 < 1230 := Nat.mod_lt _ (by decide)
    exact ⟨w, f, t, u1, u2, u3, by rw [hxy _ (by omega) (by omega)]; exact e1, by rw [hi _ (by omega)]; exact e2, by rw [hi _ (by omega)]; exact e3⟩
  refine ⟨⟨G1.of q1 g1, G2.of (eq _ (by decide +kernel) (by decide +kernel)) g2, G3.of (eq _ (by decide +kernel) (by decide +kernel)) g3, G4.of (eq _ (by decide +kernel) (by decide +kernel)) g4, G5.of (eq _ (by decide +kernel) (by decide +kernel)) g5, G6.of (eq _ (by decide +kernel) (by decide +kernel)) g6, ⟨?_, ?_, zr2⟩, ⟨?_, ?_, ?_⟩, ?_⟩, RA.of (eq _ (by decide +kernel) (by decide +kernel)) gI', RT.of (eq _ (by decide +kernel) (by decide +kernel)) gT, RF.of (eq _ (by decide +kernel) (by decide +kernel)) gF⟩
  · rw [emc, ← t1']
    funext k
    show rc σ2 2 k = rc σ (4 + r) k
    unfold rc
    by_cases q : k < 44
    · rw [if_pos q, if_pos q, row k (by omega)]
    · rw [if_neg q, if_neg q]
  · rw [emc]
    exact COk_of q1 t7'
  · show rd σ2 2 44 = _
    rw [row 44 (by omega), e10]; exact t2'
  · have : rd σ2 121 8 = mc σ2 121 42 := rfl
    rw [e10, this, emc, ks_k (by omega), t3']
    congr 1
    omega
  · rw [e10]
    exact bk2 (4 + r) 2 _ (fun k _ h2 => row k h2) t6'
  · have f4 : rd σ2 121 4 = j := by rw [m2, hjj]; omega
    have n2 : rd σ2 1 2 = (rd σ 1 2 + 29) % 30 := (cls 1 2 (by omega)).trans c2
    have n3 : rd σ2 1 3 = rd σ 1 3 - 1 := (cls 1 3 (by omega)).trans c3
    show rd σ2 1 3 = rd σ2 121 4 ∧ (0 ≤ rd σ2 121 4 ∧ rd σ2 121 4 ≤ 30) ∧ (0 ≤ rd σ2 1 2 ∧ rd σ2 1 2 < 30) ∧ (∀ i : Nat, (i : Int) < rd σ2 121 4 → StR (rwK 0 (rd σ2 1 2) (rd σ2 121 4) i) 121 i σ2 ∧ rd σ2 121 (150 + 47 * i) ≤ rd σ2 121 10 ∧ rd σ2 121 10 + 0 ≤ rd σ2 121 (150 + 47 * i) + 40 * (rd σ2 121 4 - i) ∧ (∀ l : Nat, l < i → rd σ2 121 (150 + 47 * l) ≤ rd σ2 121 (150 + 47 * i) ∧ rd σ2 121 (150 + 47 * i) ≤ rd σ2 121 (150 + 47 * l) + 40 * ((i : Int) - l)))
    refine ⟨by omega, by omega, by omega, fun i hi' => ?_⟩
    rw [f4] at hi'
    have hij : i < j := by omega
    obtain ⟨⟨u1, u2, u3, u4, u5, u6, u7⟩, u8, u9, u10⟩ := s4 i (by omega)
    have hrw : rwK 0 (rd σ2 1 2) (rd σ2 121 4) i = rwK 0 (rd σ 1 2) (rd σ 121 4) i := by
      unfold rwK
      rw [n2, f4, hjj]
      omega
    have hb : 4 ≤ rwK 0 (rd σ 1 2) (rd σ 121 4) i ∧ rwK 0 (rd σ 1 2) (rd σ 121 4) i < 34 := by
      unfold rwK
      omega
    rw [hrw]
    generalize rwK 0 (rd σ 1 2) (rd σ 121 4) i = x at *
    have hx : ∀ k, rd σ2 x k = rd σ x k := fun k => far x k (by omega) (by omega)
    have hks : ks σ2 121 i = ks σ 121 i := ks_of (fun k hk => hi _ (by omega)) told
    have j1 := t10 i hij
    refine ⟨⟨?_, ?_, ?_, ?_, ?_, ?_, ?_⟩, ?_, ?_, fun l hl => ?_⟩
    · rw [hks, ← u1]
      funext k
      unfold rc
      by_cases q : k < 44
      · rw [if_pos q, if_pos q, hx k]
      · rw [if_neg q, if_neg q]
    · rw [hx, hi _ (by omega)]; exact u2
    · rw [hi _ (by omega), hi _ (by omega)]; exact u3
    · rw [hi _ (by omega), lo 0 (by omega) (by omega)]; exact u4
    · rw [hi _ (by omega), lo 1 (by omega) (by omega)]; exact u5
    · rw [hi _ (by omega)]
      exact bk2 x x _ (fun k _ _ => hx k) u6
    · rw [hks]
      exact COk_of q1 u7
    · rw [e10, hi _ (by omega)]; exact j1.1
    · rw [e10, f4, hi _ (by omega)]; have := j1.2; omega
    · rw [hi _ (by omega), hi _ (by omega)]; exact u10 l hl
theorem p_undo : PairI Rel nX_undo nM_undo [] := by
  intro σ hR Φ h
  obtain ⟨lws, hR⟩ := hR
  have g9 := hR.1.2.2.2.2.2.2.2.2
  have s1 : rd σ 1 3 = rd σ 121 4 := g9.1
  have g1 := hR.1.1.2.2.2.2
  apply wX_undo
  simp only [pI, pL, pR, pV, i10, ↓reduceIte, eX_undo_0]
  refine sW_takeBack g9.2.2.1 (by rw [s1]; exact g9.2.1) (fun z => ?_) (fun z σ1 hC => ?_)
  · simp only [pI, pL, pR, pV, i10, ↓reduceIte, eX_undo_7]
    try rw [if_pos rfl]
    simp only [pI, pL, pR, pV, i10, ↓reduceIte, eX_undo_20, eX_undo_21]
    refine h _ σ ⟨fun _ => rfl, rfl⟩ (fun Ψ hΨ => ?_)
    have fin := hΨ σ ⟨fun _ => rfl, rfl⟩ ⟨lws, hR⟩
    refine sM_undo g9.2.1 g1.1 g1.2 (fun _ => fin) (fun y => ?_)
    omega
  · simp only [pI, pL, pR, pV, i10, ↓reduceIte, eX_undo_7]
    try rw [if_neg (by decide)]
    simp only [pI, pL, pR, pV, i10, ↓reduceIte, eX_undo_21]
    refine h _ σ1 (hC.1.sm (by decide)) (fun Ψ hΨ => ?_)
    have a1 : ∀ k, rd σ1 121 k = rd σ 121 k := fun k => hC.1.rd (not_inS (fun e he z => by
      have : ∀ e, e ∈ FBc → e.1 ≤ 2 := by decide
      have := this e he
      omega))
    refine sM_undo (by rw [a1]; exact g9.2.1) (by rw [a1]; exact g1.1) (by rw [a1]; exact g1.2) (fun y => ?_) (fun _ σ2 hM => ?_)
    · rw [a1] at y
      omega
    · have er : gI σ2 121 4 = gI σ1 1 3 := eqv (by
        have q1 : rd σ2 121 4 = rd σ1 121 4 - 1 := hM.2.1
        have q2 : rd σ1 1 3 = rd σ 1 3 - 1 := hC.2.2.1
        show rd σ2 121 4 = rd σ1 1 3
        rw [q1, q2, a1, s1])
      rw [er]
      exact hΨ σ2 (hM.1.sm (by decide)) ⟨lws, R_undo hR (by omega) hC hM⟩
