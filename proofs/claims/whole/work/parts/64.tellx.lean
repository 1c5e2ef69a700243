/-! A VILLAGE IS TOLD: the relation -/
theorem COk_vil {σ σ2 : Sg} {c : Co} {n : Nat} {x1 x2 : Int} (hn : rd σ 121 1 = n) (h6 : n < 6) (c1 : 0 ≤ x1 ∧ x1 ≤ 9) (c2 : 0 ≤ x2 ∧ x2 ≤ 9999) (hn2 : rd σ2 121 1 = n + 1) (hv : rd σ2 121 0 = rd σ 121 0) (hq : ∀ w, w < 6 → w ≠ n → rd σ2 121 (60 + 4 * w) = rd σ 121 (60 + 4 * w)) (hqn : rd σ2 121 (60 + 4 * n) = x1) (hr : ∀ v, v < 6 → rd σ2 121 (12 + 8 * v) = rd σ 121 (12 + 8 * v)) (g : COk σ 121 c) : COk σ2 121 (setV c n x2) := by
  obtain ⟨⟨o1, o2, o3, o4, o5, o6⟩, t, w⟩ := g
  have n1 : eV (E0 σ 121) = n := by show (rd σ 121 1).toNat = n; omega
  have n2 : eV (E0 σ2 121) = n + 1 := by show (rd σ2 121 1).toNat = n + 1; omega
  have v2 : eN (E0 σ2 121) = eN (E0 σ 121) := by show (rd σ2 121 0).toNat = (rd σ 121 0).toNat; rw [hv]
  rw [n1] at o2 o6
  have t : ∀ v, v < n → 0 ≤ c (36 + v) ∧ c (36 + v) ≤ 99 * c 42 := fun v hv' => t v (by rw [n1]; exact hv')
  refine ⟨⟨by rw [v2]; exact o1, by omega, ?_, ?_, fun i hi => ?_, fun v hv' => ?_⟩, fun v hv' => ?_, ?_⟩
  · rw [setV_ne (by omega)]; exact o3
  · rw [setV_ne (by omega)]; exact o4
  · rw [v2] at hi
    have q2 : eQ (E0 σ2 121) i = rd σ2 121 (12 + 8 * i) := if_pos (by omega)
    have q1 : eQ (E0 σ 121) i = rd σ 121 (12 + 8 * i) := if_pos (by omega)
    rw [q2, hr i (by omega), ← q1, setV_ne (by omega), setV_ne (by omega), setV_ne (by omega), setV_ne (by omega), setV_ne (by omega)]
    exact o5 i hi
  · rw [n2] at hv'
    have q2 : eR (E0 σ2 121) v = rd σ2 121 (60 + 4 * v) := if_pos (by omega)
    have q1 : eR (E0 σ 121) v = rd σ 121 (60 + 4 * v) := if_pos (by omega)
    rw [q2]
    by_cases z : v = n
    · subst z
      rw [hqn, setV_p]
      exact ⟨c1, c2⟩
    · rw [hq v (by omega) z, ← q1, setV_ne (by omega)]
      exact o6 v (by omega)
  · rw [n2] at hv'
    rw [setV_ne (k := 42) (by omega)]
    by_cases z : v = n
    · subst z
      rw [setV_t]
      omega
    · rw [setV_ne (by omega)]
      exact t v (by omega)
  · have i6 : (rd σ 121 0).toNat ≤ 6 := by
      rw [v2] at *
      exact o1
    unfold WsOk at *
    rw [hv, wsum_cg (c := c) _ (fun i hi => ⟨setV_ne (by omega), setV_ne (by omega)⟩)]
    exact w
theorem ks_vil {σ σ2 : Sg} {j n : Nat} {x2 : Int} (h6 : n < 6) (hi : ∀ k, 84 ≤ k → rd σ2 121 k = rd σ 121 k) (hc : rd σ 121 (147 + 47 * j) ≤ n) (ht : ∀ w, w < 6 → rd σ2 121 (18 + 8 * w) = rd σ 121 (18 + 8 * w) ∧ rd σ2 121 (19 + 8 * w) = rd σ 121 (19 + 8 * w)) (hv : ∀ v, v < 6 → v ≠ n → rd σ2 121 (63 + 4 * v) = rd σ 121 (63 + 4 * v)) (t1' : rd σ2 121 (63 + 4 * n) = x2) : ks σ2 121 j = setV (ks σ 121 j) n x2 := by
  have s0 : rd σ2 121 (146 + 47 * j) = rd σ 121 (146 + 47 * j) := hi _ (by omega)
  have s1 : rd σ2 121 (147 + 47 * j) = rd σ 121 (147 + 47 * j) := hi _ (by omega)
  obtain ⟨A1, A2, A3, A4, A5⟩ := ks_tab (σ := σ) (j := j)
  obtain ⟨B1, B2, B3, B4, B5⟩ := ks_tab (σ := σ2) (j := j)
  have W : ∀ w : Nat, w < 6 → ks σ2 121 j (12 + w) = ks σ 121 j (12 + w) ∧ ks σ2 121 j (18 + w) = ks σ 121 j (18 + w) ∧ ks σ2 121 j w = ks σ 121 j w ∧ ks σ2 121 j (6 + w) = ks σ 121 j (6 + w) ∧ ks σ2 121 j (24 + w) = ks σ 121 j (24 + w) := fun w hw => by
    by_cases q : (w : Int) < rd σ 121 (146 + 47 * j)
    · obtain ⟨a1, a2, a3, a4, a5⟩ := A1 w hw q
      obtain ⟨b1, b2, b3, b4, b5⟩ := B1 w hw (by rw [s0]; exact q)
      rw [hi _ (by omega)] at b1 b2 b3 b4 b5
      exact ⟨b1.trans a1.symm, b2.trans a2.symm, b3.trans a3.symm, b4.trans a4.symm, b5.trans a5.symm⟩
    · obtain ⟨a1, a2, a3, a4, a5⟩ := A2 w hw q
      obtain ⟨b1, b2, b3, b4, b5⟩ := B2 w hw (by rw [s0]; exact q)
      rw [(ht w hw).1] at b1
      rw [(ht w hw).2] at b2
      exact ⟨b1.trans a1.symm, b2.trans a2.symm, b3.trans a3.symm, b4.trans a4.symm, b5.trans a5.symm⟩
  have V : ∀ v : Nat, v < 6 → v ≠ n → ks σ2 121 j (30 + v) = ks σ 121 j (30 + v) ∧ ks σ2 121 j (36 + v) = ks σ 121 j (36 + v) := fun v hv' hne => by
    by_cases q : (v : Int) < rd σ 121 (147 + 47 * j)
    · obtain ⟨a1, a2⟩ := (A3 v hv').1 q
      obtain ⟨b1, b2⟩ := (B3 v hv').1 (by rw [s1]; exact q)
      rw [hi _ (by omega)] at b1 b2
      exact ⟨b1.trans a1.symm, b2.trans a2.symm⟩
    · obtain ⟨a1, a2⟩ := (A3 v hv').2 q
      obtain ⟨b1, b2⟩ := (B3 v hv').2 (by rw [s1]; exact q)
      rw [hv v hv' hne] at b1
      exact ⟨b1.trans a1.symm, b2.trans a2.symm⟩
  obtain ⟨n1, n2⟩ := (B3 n h6).2 (by rw [s1]; omega)
  rw [t1'] at n1
  funext k
  by_cases hk : k < 44
  · by_cases z1 : k = 30 + n
    · rw [z1, n1, setV_p]
    by_cases z2 : k = 36 + n
    · rw [z2, n2, setV_t]
    rw [setV_ne ⟨z1, z2⟩]
    by_cases a1 : k < 6
    · exact (W k a1).2.2.1
    by_cases a2 : k < 12
    · obtain ⟨w, rfl⟩ : ∃ w, k = 6 + w := ⟨k - 6, by omega⟩
      exact (W w (by omega)).2.2.2.1
    by_cases a3 : k < 18
    · obtain ⟨w, rfl⟩ : ∃ w, k = 12 + w := ⟨k - 12, by omega⟩
      exact (W w (by omega)).1
    by_cases a4 : k < 24
    · obtain ⟨w, rfl⟩ : ∃ w, k = 18 + w := ⟨k - 18, by omega⟩
      exact (W w (by omega)).2.1
    by_cases a5 : k < 30
    · obtain ⟨w, rfl⟩ : ∃ w, k = 24 + w := ⟨k - 24, by omega⟩
      exact (W w (by omega)).2.2.2.2
    by_cases a6 : k < 36
    · obtain ⟨w, rfl⟩ : ∃ w, k = 30 + w := ⟨k - 30, by omega⟩
      exact (V w (by omega) (by omega)).1
    by_cases a7 : k < 42
    · obtain ⟨w, rfl⟩ : ∃ w, k = 36 + w := ⟨k - 36, by omega⟩
      exact (V w (by omega) (by omega)).2
    · have : k = 42 ∨ k = 43 := by omega
      rcases this with rfl | rfl
      · rw [B4, A4, hi _ (by omega)]
      · rw [B5, A5, hi _ (by omega)]
  · rw [ks_hi hk, setV_ne (by omega), ks_hi hk]
theorem FVc_hi : ∀ e, e ∈ FVc → e.1 < 40 ∧ (e.1 ≠ 1 → e.2.2 ≤ 44) ∧ (e.1 = 1 → e.2.1 = 6 ∧ e.2.2 = 7) := by decide +kernel
theorem R_vil {D : Int} {lws : Lws} {σ σ1 σ2 : Sg} {n : Nat} {x1 x2 : Int} (g : RD D lws σ) (hN : rd σ 121 1 = n) (h6 : n < 6) (d1 : 0 ≤ x1 ∧ x1 ≤ 9) (d2 : 0 ≤ x2 ∧ x2 ≤ 9999) (k1 : TlvC σ σ1 n x1 x2) (k2 : TlvM σ1 σ2 n x1 x2) : RD D lws σ2 := by
  obtain ⟨c1, c2, c3, c4, c5, c6⟩ := k1
  obtain ⟨m1, m2, m3, m4, m6, m7⟩ := k2
  have eq : ∀ S : Ls, dsj S FVc = true → dsj S FVm = true → Eqc S σ σ2 := fun S e1 e2 => (c1.eqc e1).tr (m1.eqc e2)
  obtain ⟨⟨g1, g2, g3, g4, g5, g6, g7, g8, g9⟩, gI', gT, gF⟩ := g
  have a1 : ∀ k, rd σ1 121 k = rd σ 121 k := fun k => c1 _ _ (not_inS (fun e he z => by have := (FVc_hi e he).1; omega))
  have cls : ∀ a k, a < 120 → rd σ2 a k = rd σ1 a k := fun a k ha => m1 _ _ (not_inS (fun e he z => by
    have : ∀ e, e ∈ FVm → e.1 = 121 := by decide
    have := this e he
    omega))
  have page : ∀ x k, x ≠ 1 → x < 120 → 44 ≤ k → rd σ2 x k = rd σ x k := fun x k hx h120 hk => (cls _ _ h120).trans (c1 _ _ (not_inS (fun e he z => by have := (FVc_hi e he).2.1 (by omega); omega)))
  have one : ∀ k, k ≠ 6 → rd σ2 1 k = rd σ 1 k := fun k hk => (cls _ _ (by omega)).trans (c1 _ _ (not_inS (fun e he z => by have := (FVc_hi e he).2.2 (by omega); omega)))
  have crc : ∀ x, x < 120 → rc σ2 x = rc σ1 x := fun x hx => by unfold rc; funext k; split <;> first | rw [cls x k hx] | rfl
  have emc1 : mc σ1 121 = mc σ 121 := by unfold mc; funext k; split <;> first | rw [a1] | rfl
  have a2 : ∀ k, k ≠ 1 → (k < 60 ∨ 84 ≤ k) → rd σ2 121 k = rd σ 121 k := fun k h1 h2 => (m1 _ _ (not_inS (fun e he z => by
    have : ∀ e, e ∈ FVm → (e.2.1 = 1 ∧ e.2.2 = 2) ∨ (e.2.1 = 60 ∧ e.2.2 = 84) := by decide
    have := this e he
    omega))).trans (a1 k)
  have hi : ∀ k, 84 ≤ k → rd σ2 121 k = rd σ 121 k := fun k hk => a2 k (by omega) (by omega)
  have m6 : ∀ w k, w < 6 → w ≠ n → k < 4 → rd σ2 121 (60 + 4 * w + k) = rd σ 121 (60 + 4 * w + k) := fun w k b1 b2 b3 => (m6 w k b1 b2 b3).trans (a1 _)
  have tw : ∀ w, w < 6 → rd σ2 121 (18 + 8 * w) = rd σ 121 (18 + 8 * w) ∧ rd σ2 121 (19 + 8 * w) = rd σ 121 (19 + 8 * w) := fun w hw => ⟨a2 _ (by omega) (by omega), a2 _ (by omega) (by omega)⟩
  have tv : ∀ v, v < 6 → v ≠ n → rd σ2 121 (63 + 4 * v) = rd σ 121 (63 + 4 * v) := fun v hv hne => by
    have e1 := m6 v 3 hv hne (by omega)
    rw [show 60 + 4 * v + 3 = 63 + 4 * v from by omega] at e1
    exact e1
  rw [emc1] at m7
  have hn2 : rd σ2 121 1 = n + 1 := m2
  have e0 : rd σ2 121 0 = rd σ 121 0 := a2 0 (by omega) (by omega)
  have cok : ∀ c, COk σ 121 c → COk σ2 121 (setV c n x2) := fun c hc => COk_vil hN h6 d1 d2 hn2 e0 (fun w hw hne => m6 w 0 hw hne (by omega)) m3 (fun v hv => a2 _ (by omega) (by omega)) hc
  have bk2 : ∀ (x : Nat) (W : Int), x ≠ 1 → x < 120 → Bk x 121 σ W → Bk x 121 σ2 W := fun x W h1 h2 hb => Bk.of (fun k k1 _ => page x k h1 h2 k1) (fun k k1 _ => hi k (by omega)) hb
  have e8 : rd σ2 121 8 = rd σ 121 8 := a2 8 (by omega) (by omega)
  have e10 : rd σ2 121 10 = rd σ 121 10 := a2 10 (by omega) (by omega)
  obtain ⟨p1, p2, p3, p4, p5, p6⟩ := g1
  obtain ⟨r1, r2, r3, r4⟩ := g4
  refine ⟨⟨⟨?_, ?_, fun w hw => ?_, fun v hv => ?_, ?_, ?_⟩, G2.of (eq _ (by decide +kernel) (by decide +kernel)) g2, G3.of (eq _ (by decide +kernel) (by decide +kernel)) g3, ⟨?_, ?_, fun k hk => ?_, fun k hk => ?_⟩, G5.of (eq _ (by decide +kernel) (by decide +kernel)) g5, G6.of (eq _ (by decide +kernel) (by decide +kernel)) g6, ⟨?_, ?_, fun w hw hn k hk h0 => ?_, fun v hv hn k hk h0 => ?_⟩, ⟨?_, ?_, ?_⟩, ?_⟩, RA.of (eq _ (by decide +kernel) (by decide +kernel)) gI', RT.of (eq _ (by decide +kernel) (by decide +kernel)) gT, RF.of (eq _ (by decide +kernel) (by decide +kernel)) gF⟩
  · show rd σ2 1 4 = _
    rw [one _ (by omega), e0]; exact p1
  · show rd σ2 1 6 = _
    rw [cls _ _ (by omega), c2, hn2]
  · show rd σ2 34 w = _
    have e : rd σ2 34 w = rd σ 34 w := eq [(34, 0, 6)] (by decide +kernel) (by decide +kernel) 34 w (inS_r (lo := 0) (hi := 6) (by simp) (by omega))
    rw [e, a2 _ (by omega) (by omega)]
    exact p3 w hw
  · show rd σ2 35 v = _
    rw [cls _ _ (by omega)]
    by_cases z : v = n
    · rw [z, c3, m3]
    · have := m6 v 0 hv z (by omega)
      rw [c4 v z]
      exact (p4 v hv).trans this.symm
  · rw [e0]; exact p5
  · omega
  · show rd σ2 1 11 = _
    rw [one _ (by omega), a2 5 (by omega) (by omega)]; exact r1
  · rw [a2 5 (by omega) (by omega)]; exact r2
  · have x1 : rd σ2 37 k = rd σ 37 k := eq [(37, 0, 8)] (by decide +kernel) (by decide +kernel) 37 k (inS_r (lo := 0) (hi := 8) (by simp) (by omega))
    have x2 : rd σ2 38 k = rd σ 38 k := eq [(38, 0, 8)] (by decide +kernel) (by decide +kernel) 38 k (inS_r (lo := 0) (hi := 8) (by simp) (by omega))
    show rd σ2 37 k = _ ∧ rd σ2 38 k = _
    rw [x1, x2, hi _ (by omega), hi _ (by omega)]
    exact r3 k hk
  · rw [a2 5 (by omega) (by omega)] at hk
    rw [hi (120 + 2 * k) (by omega), hi (121 + 2 * k) (by omega), hn2]
    have := r4 k hk
    omega
  · show rc σ2 2 = _
    rw [crc 2 (by omega), c5, m7]
    have : rc σ 2 = mc σ 121 := g7.1
    rw [this]
  · rw [m7]
    exact cok _ g7.2.1
  · rw [e0] at hn
    rw [a2 _ (by omega) (by omega)]
    exact g7.2.2.1 w hw hn k hk h0
  · rw [hn2] at hn
    rw [m6 v k hv (by omega) hk]
    exact g7.2.2.2 v hv (by omega) k hk h0
  · show rd σ2 2 44 = _
    rw [page 2 44 (by omega) (by omega) (by omega), e10]; exact g8.1
  · rw [e10, e8]; exact g8.2.1
  · rw [e10]; exact bk2 2 _ (by omega) (by omega) g8.2.2
  · obtain ⟨s1, s2, s3, s4⟩ := g9
    have e4 : rd σ2 121 4 = rd σ 121 4 := a2 4 (by omega) (by omega)
    have en : rd σ2 (1 + 0) 2 = rd σ (1 + 0) 2 := one 2 (by omega)
    have e3 : rd σ2 (1 + 0) 3 = rd σ (1 + 0) 3 := one 3 (by omega)
    refine ⟨by rw [e3, e4]; exact s1, by rw [e4]; exact s2, by rw [en]; exact s3, fun j hj => ?_⟩
    rw [e4] at hj
    obtain ⟨⟨u1, u2, u3, u4, u5, u6, u7⟩, u8, u9, u10⟩ := s4 j hj
    rw [en, e4, e10, hi (150 + 47 * j) (by omega)]
    have hb : ∃ r, r < 30 ∧ rwK 0 (rd σ (1 + 0) 2) (rd σ 121 4) j = 4 + r := by
      refine ⟨((rd σ (1 + 0) 2 + 30 - rd σ 121 4 + j) % 30).toNat, by omega, ?_⟩
      unfold rwK
      omega
    obtain ⟨r, r30, hr⟩ := hb
    rw [hr] at u1 u2 u6 ⊢
    have hks := ks_vil (σ := σ) (σ2 := σ2) (j := j) h6 hi (by omega) tw tv m4
    refine ⟨⟨?_, ?_, ?_, ?_, ?_, ?_, ?_⟩, u8, u9, fun i hij => by rw [hi (150 + 47 * i) (by omega)]; exact u10 i hij⟩
    · rw [crc _ (by omega), c6 r r30, hks, u1]
    · rw [page _ 44 (by omega) (by omega) (by omega), hi _ (by omega)]; exact u2
    · rw [hi _ (by omega), hi _ (by omega)]; exact u3
    · rw [hi _ (by omega), e0]; exact u4
    · rw [hi _ (by omega), hn2]; omega
    · rw [hi _ (by omega)]
      exact bk2 _ _ (by omega) (by omega) u6
    · rw [hks]
      exact cok _ u7
theorem p_village (x1 x2 : Int32) : PairI Rel nX_village nM_village [.int x1, .int x2] := by
  intro σ hR Φ h
  obtain ⟨lws, hR⟩ := hR
  have g1 := hR.1.1
  have s0 : rd σ 1 6 = rd σ 121 1 := g1.2.1
  have b0 := g1.2.2.2.2.2
  apply wX_village
  simp only [pI, pL, pR, pV, i10, ↓reduceIte, eX_village_0]
  refine sW_tellVillage (by rw [s0]; exact b0) (fun q => ?_) (fun q σ1 v hv hF hC => ?_)
  · simp only [pI, pL, pR, pV, i10, ↓reduceIte, eX_village_9]
    refine h _ σ ⟨fun _ => rfl, rfl⟩ (fun Ψ hΨ => ?_)
    rw [s0] at q
    exact sM_village b0 (fun _ => hΨ σ ⟨fun _ => rfl, rfl⟩ ⟨lws, hR⟩) (fun y => absurd y q)
  · simp only [pI, pL, pR, pV, i10, ↓reduceIte, eX_village_9]
    rw [s0] at q hv hC
    have a1 : ∀ k, rd σ1 121 k = rd σ 121 k := fun k => hC.1 _ _ (not_inS (fun e he z => by have := (FVc_hi e he).1; omega))
    refine h _ σ1 (hF.sm (by decide +kernel)) (fun Ψ hΨ => ?_)
    refine sM_village (by rw [a1]; exact b0) (fun y => absurd (by rw [a1]; exact q) y) (fun _ σ2 v2 hv2 hF2 hM => ?_)
    rw [a1] at hv2 hM
    have ev : v2 = v := eqv (by rw [hv2, hv])
    rw [ev]
    exact hΨ σ2 (hF2.sm (by decide)) ⟨lws, R_vil hR (n := (rd σ 121 1).toNat) (by omega) (by have := q.1; omega) q.2.1 q.2.2 hC hM⟩
