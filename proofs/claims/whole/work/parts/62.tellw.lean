/-! A WIND IS TOLD: the relation -/
theorem setW_ne {c : Co} {n k : Nat} {a b : Int} (h : k ≠ 12 + n ∧ k ≠ 18 + n ∧ k ≠ n ∧ k ≠ 6 + n ∧ k ≠ 24 + n) : setW c n a b k = c k := by
  unfold setW
  rw [if_neg (by omega), if_neg (by omega), if_neg (by omega)]
theorem setW_w {c : Co} {n : Nat} {a b : Int} : setW c n a b (12 + n) = a := if_pos rfl
theorem setW_d {c : Co} {n : Nat} {a b : Int} : setW c n a b (18 + n) = b := by
  unfold setW
  rw [if_neg (by omega)]
  try rw [if_pos rfl]
theorem setW_z {c : Co} {n k : Nat} {a b : Int} (hn : n < 6) (h : k = n ∨ k = 6 + n ∨ k = 24 + n) : setW c n a b k = 0 := by
  unfold setW
  rw [if_neg (by omega), if_neg (by omega), if_pos h]
theorem COk_wind {σ σ2 : Sg} {c : Co} {n : Nat} {x1 x2 x3 : Int} (hn : rd σ 121 0 = n) (h6 : n < 6) (c1 : 0 ≤ x1 ∧ x1 ≤ 3) (c2 : 1 ≤ x2 ∧ x2 ≤ 9) (c3 : 0 ≤ x3 ∧ x3 ≤ 99) (hn2 : rd σ2 121 0 = n + 1) (hv : rd σ2 121 1 = rd σ 121 1) (hq : ∀ w, w < 6 → w ≠ n → rd σ2 121 (12 + 8 * w) = rd σ 121 (12 + 8 * w)) (hqn : rd σ2 121 (12 + 8 * n) = x1) (hr : ∀ v, v < 6 → rd σ2 121 (60 + 4 * v) = rd σ 121 (60 + 4 * v)) (g : COk σ 121 c) : COk σ2 121 (setW c n x2 x3) := by
  obtain ⟨⟨o1, o2, o3, o4, o5, o6⟩, t, w⟩ := g
  have n1 : eN (E0 σ 121) = n := by show (rd σ 121 0).toNat = n; omega
  have n2 : eN (E0 σ2 121) = n + 1 := by show (rd σ2 121 0).toNat = n + 1; omega
  have v2 : eV (E0 σ2 121) = eV (E0 σ 121) := by show (rd σ2 121 1).toNat = (rd σ 121 1).toNat; rw [hv]
  rw [n1] at o1 o5
  refine ⟨⟨by omega, by rw [v2]; exact o2, ?_, ?_, fun i hi => ?_, fun v hv' => ?_⟩, fun v hv' => ?_, ?_⟩
  · rw [setW_ne (by omega)]; exact o3
  · rw [setW_ne (by omega)]; exact o4
  · rw [n2] at hi
    have q2 : eQ (E0 σ2 121) i = rd σ2 121 (12 + 8 * i) := if_pos (by omega)
    have q1 : eQ (E0 σ 121) i = rd σ 121 (12 + 8 * i) := if_pos (by omega)
    rw [q2]
    by_cases z : i = n
    · subst z
      rw [hqn, setW_w, setW_d, setW_z h6 (Or.inl rfl), setW_z h6 (Or.inr (Or.inl rfl)), setW_z h6 (Or.inr (Or.inr rfl))]
      omega
    · rw [hq i (by omega) z, ← q1, setW_ne (by omega), setW_ne (by omega), setW_ne (by omega), setW_ne (by omega), setW_ne (by omega)]
      exact o5 i (by omega)
  · rw [v2] at hv'
    have q2 : eR (E0 σ2 121) v = rd σ2 121 (60 + 4 * v) := if_pos (by omega)
    have q1 : eR (E0 σ 121) v = rd σ 121 (60 + 4 * v) := if_pos (by omega)
    rw [q2, hr v (by omega), ← q1, setW_ne (by omega)]
    exact o6 v hv'
  · rw [v2] at hv'
    rw [setW_ne (by omega), setW_ne (by omega)]
    exact t v hv'
  · have e1 : (rd σ 121 0).toNat = n := by omega
    have e2 : (rd σ2 121 0).toNat = n + 1 := by omega
    unfold WsOk at *
    rw [e1] at w
    rw [e2]
    show wsum _ n + _ ≤ _
    rw [wsum_cg (c := c) n (fun i hi => ⟨setW_ne (by omega), setW_ne (by omega)⟩), setW_w, setW_z h6 (Or.inr (Or.inr rfl))]
    try rw [if_pos rfl]
    omega
theorem ks_wind {σ σ2 : Sg} {j n : Nat} {x2 x3 : Int} (h6 : n < 6) (hi : ∀ k, 84 ≤ k → rd σ2 121 k = rd σ 121 k) (hc : rd σ 121 (146 + 47 * j) ≤ n) (ht : ∀ w, w < 6 → w ≠ n → rd σ2 121 (18 + 8 * w) = rd σ 121 (18 + 8 * w) ∧ rd σ2 121 (19 + 8 * w) = rd σ 121 (19 + 8 * w)) (hv : ∀ v, v < 6 → rd σ2 121 (63 + 4 * v) = rd σ 121 (63 + 4 * v)) (t1' : rd σ2 121 (18 + 8 * n) = x2) (t2' : rd σ2 121 (19 + 8 * n) = x3) : ks σ2 121 j = setW (ks σ 121 j) n x2 x3 := by
  have s0 : rd σ2 121 (146 + 47 * j) = rd σ 121 (146 + 47 * j) := hi _ (by omega)
  have s1 : rd σ2 121 (147 + 47 * j) = rd σ 121 (147 + 47 * j) := hi _ (by omega)
  obtain ⟨A1, A2, A3, A4, A5⟩ := ks_tab (σ := σ) (j := j)
  obtain ⟨B1, B2, B3, B4, B5⟩ := ks_tab (σ := σ2) (j := j)
  have W : ∀ w : Nat, w < 6 → w ≠ n → ks σ2 121 j (12 + w) = ks σ 121 j (12 + w) ∧ ks σ2 121 j (18 + w) = ks σ 121 j (18 + w) ∧ ks σ2 121 j w = ks σ 121 j w ∧ ks σ2 121 j (6 + w) = ks σ 121 j (6 + w) ∧ ks σ2 121 j (24 + w) = ks σ 121 j (24 + w) := fun w hw hne => by
    by_cases q : (w : Int) < rd σ 121 (146 + 47 * j)
    · obtain ⟨a1, a2, a3, a4, a5⟩ := A1 w hw q
      obtain ⟨b1, b2, b3, b4, b5⟩ := B1 w hw (by rw [s0]; exact q)
      rw [hi _ (by omega)] at b1 b2 b3 b4 b5
      exact ⟨b1.trans a1.symm, b2.trans a2.symm, b3.trans a3.symm, b4.trans a4.symm, b5.trans a5.symm⟩
    · obtain ⟨a1, a2, a3, a4, a5⟩ := A2 w hw q
      obtain ⟨b1, b2, b3, b4, b5⟩ := B2 w hw (by rw [s0]; exact q)
      rw [(ht w hw hne).1] at b1
      rw [(ht w hw hne).2] at b2
      exact ⟨b1.trans a1.symm, b2.trans a2.symm, b3.trans a3.symm, b4.trans a4.symm, b5.trans a5.symm⟩
  have V : ∀ v : Nat, v < 6 → ks σ2 121 j (30 + v) = ks σ 121 j (30 + v) ∧ ks σ2 121 j (36 + v) = ks σ 121 j (36 + v) := fun v hv' => by
    by_cases q : (v : Int) < rd σ 121 (147 + 47 * j)
    · obtain ⟨a1, a2⟩ := (A3 v hv').1 q
      obtain ⟨b1, b2⟩ := (B3 v hv').1 (by rw [s1]; exact q)
      rw [hi _ (by omega)] at b1 b2
      exact ⟨b1.trans a1.symm, b2.trans a2.symm⟩
    · obtain ⟨a1, a2⟩ := (A3 v hv').2 q
      obtain ⟨b1, b2⟩ := (B3 v hv').2 (by rw [s1]; exact q)
      rw [hv v hv'] at b1
      exact ⟨b1.trans a1.symm, b2.trans a2.symm⟩
  obtain ⟨n1, n2, n3, n4, n5⟩ := B2 n h6 (by rw [s0]; omega)
  rw [t1'] at n1
  rw [t2'] at n2
  funext k
  by_cases hk : k < 44
  · by_cases z1 : k = 12 + n
    · rw [z1, n1, setW_w]
    by_cases z2 : k = 18 + n
    · rw [z2, n2, setW_d]
    by_cases z3 : k = n
    · rw [z3, n3, setW_z h6 (Or.inl rfl)]
    by_cases z4 : k = 6 + n
    · rw [z4, n4, setW_z h6 (Or.inr (Or.inl rfl))]
    by_cases z5 : k = 24 + n
    · rw [z5, n5, setW_z h6 (Or.inr (Or.inr rfl))]
    rw [setW_ne ⟨z1, z2, z3, z4, z5⟩]
    by_cases a1 : k < 6
    · exact (W k a1 (by omega)).2.2.1
    by_cases a2 : k < 12
    · obtain ⟨w, rfl⟩ : ∃ w, k = 6 + w := ⟨k - 6, by omega⟩
      exact (W w (by omega) (by omega)).2.2.2.1
    by_cases a3 : k < 18
    · obtain ⟨w, rfl⟩ : ∃ w, k = 12 + w := ⟨k - 12, by omega⟩
      exact (W w (by omega) (by omega)).1
    by_cases a4 : k < 24
    · obtain ⟨w, rfl⟩ : ∃ w, k = 18 + w := ⟨k - 18, by omega⟩
      exact (W w (by omega) (by omega)).2.1
    by_cases a5 : k < 30
    · obtain ⟨w, rfl⟩ : ∃ w, k = 24 + w := ⟨k - 24, by omega⟩
      exact (W w (by omega) (by omega)).2.2.2.2
    by_cases a6 : k < 36
    · obtain ⟨w, rfl⟩ : ∃ w, k = 30 + w := ⟨k - 30, by omega⟩
      exact (V w (by omega)).1
    by_cases a7 : k < 42
    · obtain ⟨w, rfl⟩ : ∃ w, k = 36 + w := ⟨k - 36, by omega⟩
      exact (V w (by omega)).2
    · have : k = 42 ∨ k = 43 := by omega
      rcases this with rfl | rfl
      · rw [B4, A4, hi _ (by omega)]
      · rw [B5, A5, hi _ (by omega)]
  · rw [ks_hi hk, setW_ne (by omega), ks_hi hk]
theorem FTc_hi : ∀ e, e ∈ FTc → e.1 < 40 ∧ (e.1 ≠ 1 → e.2.2 ≤ 44) ∧ (e.1 = 1 → e.2.1 = 4 ∧ e.2.2 = 5) := by decide +kernel
theorem R_wind {D : Int} {lws : Lws} {σ σ1 σ2 : Sg} {n : Nat} {x1 x2 x3 : Int} (g : RD D lws σ) (hN : rd σ 121 0 = n) (h6 : n < 6) (d1 : 0 ≤ x1 ∧ x1 ≤ 3) (d2 : 1 ≤ x2 ∧ x2 ≤ 9) (d3 : 0 ≤ x3 ∧ x3 ≤ 99) (k1 : TelC σ σ1 n x1 x2 x3) (k2 : TelM σ1 σ2 n x1 x2 x3) : RD D lws σ2 := by
  obtain ⟨c1, c2, c3, c4, c5, c6⟩ := k1
  obtain ⟨m1, m2, m3, m4, m5, m6, m7⟩ := k2
  have eq : ∀ S : Ls, dsj S FTc = true → dsj S FTm = true → Eqc S σ σ2 := fun S e1 e2 => (c1.eqc e1).tr (m1.eqc e2)
  obtain ⟨⟨g1, g2, g3, g4, g5, g6, g7, g8, g9⟩, gI', gT, gF⟩ := g
  have a1 : ∀ k, rd σ1 121 k = rd σ 121 k := fun k => c1 _ _ (not_inS (fun e he z => by have := (FTc_hi e he).1; omega))
  have cls : ∀ a k, a < 120 → rd σ2 a k = rd σ1 a k := fun a k ha => m1 _ _ (not_inS (fun e he z => by
    have : ∀ e, e ∈ FTm → e.1 = 121 := by decide
    have := this e he
    omega))
  have page : ∀ x k, x ≠ 1 → x < 120 → 44 ≤ k → rd σ2 x k = rd σ x k := fun x k hx h120 hk => (cls _ _ h120).trans (c1 _ _ (not_inS (fun e he z => by have := (FTc_hi e he).2.1 (by omega); omega)))
  have one : ∀ k, k ≠ 4 → rd σ2 1 k = rd σ 1 k := fun k hk => (cls _ _ (by omega)).trans (c1 _ _ (not_inS (fun e he z => by have := (FTc_hi e he).2.2 (by omega); omega)))
  have crc : ∀ x, x < 120 → rc σ2 x = rc σ1 x := fun x hx => by unfold rc; funext k; split <;> first | rw [cls x k hx] | rfl
  have emc1 : mc σ1 121 = mc σ 121 := by unfold mc; funext k; split <;> first | rw [a1] | rfl
  have a2 : ∀ k, inS FTm 121 k = false → rd σ2 121 k = rd σ 121 k := fun k hk => (m1 _ _ hk).trans (a1 k)
  have hi : ∀ k, 84 ≤ k → rd σ2 121 k = rd σ 121 k := fun k hk => a2 k (not_inS (fun e he z => by
    have : ∀ e, e ∈ FTm → e.2.2 ≤ 84 := by decide
    have := this e he
    omega))
  have lo : ∀ k, k < 12 → k ≠ 0 → k ≠ 8 → k ≠ 9 → rd σ2 121 k = rd σ 121 k := fun k b1 b2 b3 b4 => a2 k (by
    have : ∀ k, k < 12 → k ≠ 0 → k ≠ 8 → k ≠ 9 → inS FTm 121 k = false := by decide
    exact this k b1 b2 b3 b4)
  have vil : ∀ v, v < 6 → rd σ2 121 (60 + 4 * v) = rd σ 121 (60 + 4 * v) ∧ rd σ2 121 (63 + 4 * v) = rd σ 121 (63 + 4 * v) := fun v hv => by
    have : ∀ v, v < 6 → inS FTm 121 (60 + 4 * v) = false ∧ inS FTm 121 (63 + 4 * v) = false := by decide
    exact ⟨a2 _ (this v hv).1, a2 _ (this v hv).2⟩
  have m6 : ∀ w k, w < 6 → w ≠ n → k < 8 → (k = 0 ∨ k = 6 ∨ k = 7) → rd σ2 121 (12 + 8 * w + k) = rd σ 121 (12 + 8 * w + k) := fun w k b1 b2 b3 b4 => (m6 w k b1 b2 b3 b4).trans (a1 _)
  have tw : ∀ w, w < 6 → w ≠ n → rd σ2 121 (18 + 8 * w) = rd σ 121 (18 + 8 * w) ∧ rd σ2 121 (19 + 8 * w) = rd σ 121 (19 + 8 * w) := fun w hw hne => by
    have e1 := m6 w 6 hw hne (by omega) (by omega)
    have e2 := m6 w 7 hw hne (by omega) (by omega)
    rw [show 12 + 8 * w + 6 = 18 + 8 * w from by omega] at e1
    rw [show 12 + 8 * w + 7 = 19 + 8 * w from by omega] at e2
    exact ⟨e1, e2⟩
  rw [emc1] at m7
  have hn2 : rd σ2 121 0 = n + 1 := m2
  have cok : ∀ c, COk σ 121 c → COk σ2 121 (setW c n x2 x3) := fun c hc => COk_wind hN h6 d1 d2 d3 hn2 (lo 1 (by omega) (by omega) (by omega) (by omega)) (fun w hw hne => m6 w 0 hw hne (by omega) (by omega)) m3 (fun v hv => (vil v hv).1) hc
  have bk2 : ∀ (x : Nat) (W : Int), x ≠ 1 → x < 120 → Bk x 121 σ W → Bk x 121 σ2 W := fun x W h1 h2 hb => Bk.of (fun k k1 _ => page x k h1 h2 k1) (fun k k1 _ => hi k (by omega)) hb
  have e8 : rd σ2 121 8 = rd σ 121 8 := by
    have e : mc σ2 121 42 = mc σ 121 42 := by rw [m7, setW_ne (by omega)]
    exact e
  have e10 : rd σ2 121 10 = rd σ 121 10 := lo 10 (by omega) (by omega) (by omega) (by omega)
  obtain ⟨p1, p2, p3, p4, p5, p6⟩ := g1
  refine ⟨⟨⟨?_, ?_, fun w hw => ?_, fun v hv => ?_, ?_, ?_⟩, G2.of (eq _ (by decide +kernel) (by decide +kernel)) g2, G3.of (eq _ (by decide +kernel) (by decide +kernel)) g3, G4.of (eq _ (by decide +kernel) (by decide +kernel)) g4, G5.of (eq _ (by decide +kernel) (by decide +kernel)) g5, G6.of (eq _ (by decide +kernel) (by decide +kernel)) g6, ⟨?_, ?_, fun w hw hn k hk h0 => ?_, fun v hv hn k hk h0 => ?_⟩, ⟨?_, ?_, ?_⟩, ?_⟩, RA.of (eq _ (by decide +kernel) (by decide +kernel)) gI', RT.of (eq _ (by decide +kernel) (by decide +kernel)) gT, RF.of (eq _ (by decide +kernel) (by decide +kernel)) gF⟩
  · show rd σ2 1 4 = _
    rw [cls _ _ (by omega), c2, hn2]
  · show rd σ2 1 6 = _
    rw [one _ (by omega), lo 1 (by omega) (by omega) (by omega) (by omega)]; exact p2
  · show rd σ2 34 w = _
    rw [cls _ _ (by omega)]
    by_cases z : w = n
    · rw [z, c3, m3]
    · have := m6 w 0 hw z (by omega) (by omega)
      rw [c4 w z]
      exact (p3 w hw).trans this.symm
  · show rd σ2 35 v = _
    have e : rd σ2 35 v = rd σ 35 v := eq [(35, 0, 6)] (by decide +kernel) (by decide +kernel) 35 v (inS_r (lo := 0) (hi := 6) (by simp) (by omega))
    rw [e, (vil v hv).1]
    exact p4 v hv
  · omega
  · rw [lo 1 (by omega) (by omega) (by omega) (by omega)]; exact p6
  · show rc σ2 2 = _
    rw [crc 2 (by omega), c5, m7]
    have : rc σ 2 = mc σ 121 := g7.1
    rw [this]
  · rw [m7]
    exact cok _ g7.2.1
  · rw [hn2] at hn
    have hne : w ≠ n := by omega
    have zk := g7.2.2.1 w hw (by omega) k hk h0
    have kk : k = 1 ∨ k = 2 ∨ k = 3 ∨ k = 4 ∨ k = 5 ∨ k = 6 ∨ k = 7 := by omega
    obtain ⟨n1, n2, n3, n4, n5, -, -⟩ := mc_tab (σ := σ2) (a := 121) w hw
    obtain ⟨o1, o2, o3, o4, o5, -, -⟩ := mc_tab (σ := σ) (a := 121) w hw
    have nd : ∀ c, c < 44 → (c = w ∨ c = 6 + w ∨ c = 12 + w ∨ c = 18 + w ∨ c = 24 + w) → mc σ2 121 c = mc σ 121 c := fun c hc q => by rw [m7, setW_ne (by omega)]
    rcases kk with rfl | rfl | rfl | rfl | rfl | rfl | rfl
    · rw [show 12 + 8 * w + 1 = 13 + 8 * w from by omega] at *
      rw [← n3, nd _ (by omega) (by omega), o3]; exact zk
    · rw [show 12 + 8 * w + 2 = 14 + 8 * w from by omega] at *
      rw [← n4, nd _ (by omega) (by omega), o4]; exact zk
    · rw [show 12 + 8 * w + 3 = 15 + 8 * w from by omega] at *
      rw [← n1, nd _ (by omega) (by omega), o1]; exact zk
    · rw [show 12 + 8 * w + 4 = 16 + 8 * w from by omega] at *
      rw [← n2, nd _ (by omega) (by omega), o2]; exact zk
    · rw [show 12 + 8 * w + 5 = 17 + 8 * w from by omega] at *
      rw [← n5, nd _ (by omega) (by omega), o5]; exact zk
    · rw [m6 w 6 hw hne (by omega) (by omega)]; exact zk
    · rw [m6 w 7 hw hne (by omega) (by omega)]; exact zk
  · rw [lo 1 (by omega) (by omega) (by omega) (by omega)] at hn
    have zk := g7.2.2.2 v hv hn k hk h0
    have kk : k = 1 ∨ k = 2 ∨ k = 3 := by omega
    obtain ⟨-, -, -, -, -, n6, n7⟩ := mc_tab (σ := σ2) (a := 121) v hv
    obtain ⟨-, -, -, -, -, o6, o7⟩ := mc_tab (σ := σ) (a := 121) v hv
    have nd : ∀ c, c < 44 → (c = 30 + v ∨ c = 36 + v) → mc σ2 121 c = mc σ 121 c := fun c hc q => by rw [m7, setW_ne (by omega)]
    rcases kk with rfl | rfl | rfl
    · rw [show 60 + 4 * v + 1 = 61 + 4 * v from by omega] at *
      rw [← n6, nd _ (by omega) (by omega), o6]; exact zk
    · rw [show 60 + 4 * v + 2 = 62 + 4 * v from by omega] at *
      rw [← n7, nd _ (by omega) (by omega), o7]; exact zk
    · rw [show 60 + 4 * v + 3 = 63 + 4 * v from by omega] at *
      rw [(vil v hv).2]; exact zk
  · show rd σ2 2 44 = _
    rw [page 2 44 (by omega) (by omega) (by omega), e10]; exact g8.1
  · rw [e10, e8]; exact g8.2.1
  · rw [e10]; exact bk2 2 _ (by omega) (by omega) g8.2.2
  · obtain ⟨s1, s2, s3, s4⟩ := g9
    have e4 : rd σ2 121 4 = rd σ 121 4 := lo 4 (by omega) (by omega) (by omega) (by omega)
    have en : rd σ2 (1 + 0) 2 = rd σ (1 + 0) 2 := one 2 (by omega)
    have e3 : rd σ2 (1 + 0) 3 = rd σ (1 + 0) 3 := one 3 (by omega)
    refine ⟨by rw [e3, e4]; exact s1, by rw [e4]; exact s2, by rw [en]; exact s3, fun j hj => ?_⟩
    rw [e4] at hj
    obtain ⟨⟨u1, u2, u3, u4, u5, u6, u7⟩, u8, u9, u10⟩ := s4 j hj
    rw [en, e4, e10, hi (150 + 47 * j) (by omega)]
    have hb : ∃ r, r < 30 ∧ rwK 0 (rd σ (1 + 0) 2) (rd σ 121 4) j = 4 + r := by
      refine ⟨((rd σ (1 + 0) 2 + 30 - rd σ 121 4 + j) % 30).toNat, by omega, ?_⟩
      unfold rwK
      omega
    obtain ⟨r, r30, hr⟩ := hb
    rw [hr] at u1 u2 u6 ⊢
    have hks := ks_wind (σ := σ) (σ2 := σ2) (j := j) h6 hi (by omega) tw (fun v hv => (vil v hv).2) m4 m5
    refine ⟨⟨?_, ?_, ?_, ?_, ?_, ?_, ?_⟩, u8, u9, fun i hij => by rw [hi (150 + 47 * i) (by omega)]; exact u10 i hij⟩
    · rw [crc _ (by omega), c6 r r30, hks, u1]
    · rw [page _ 44 (by omega) (by omega) (by omega), hi _ (by omega)]; exact u2
    · rw [hi _ (by omega), hi _ (by omega)]; exact u3
    · rw [hi _ (by omega), hn2]; omega
    · rw [hi _ (by omega), lo 1 (by omega) (by omega) (by omega) (by omega)]; exact u5
    · rw [hi _ (by omega)]
      exact bk2 _ _ (by omega) (by omega) u6
    · rw [hks]
      exact cok _ u7
theorem p_wind (x1 x2 x3 : Int32) : PairI Rel nX_wind nM_wind [.int x1, .int x2, .int x3] := by
  intro σ hR Φ h
  obtain ⟨lws, hR⟩ := hR
  have g1 := hR.1.1
  have s0 : rd σ 1 4 = rd σ 121 0 := g1.1
  have b0 := g1.2.2.2.2.1
  apply wX_wind
  simp only [pI, pL, pR, pV, i10, ↓reduceIte, eX_wind_0]
  refine sW_tellWind (by rw [s0]; exact b0) (fun q => ?_) (fun q σ1 v hv hF hC => ?_)
  · simp only [pI, pL, pR, pV, i10, ↓reduceIte, eX_wind_10]
    refine h _ σ ⟨fun _ => rfl, rfl⟩ (fun Ψ hΨ => ?_)
    rw [s0] at q
    exact sM_wind b0 (fun _ => hΨ σ ⟨fun _ => rfl, rfl⟩ ⟨lws, hR⟩) (fun y => absurd y q)
  · simp only [pI, pL, pR, pV, i10, ↓reduceIte, eX_wind_10]
    rw [s0] at q hv hC
    have a1 : ∀ k, rd σ1 121 k = rd σ 121 k := fun k => hC.1 _ _ (not_inS (fun e he z => by have := (FTc_hi e he).1; omega))
    refine h _ σ1 (hF.sm (by decide +kernel)) (fun Ψ hΨ => ?_)
    · refine sM_wind (by rw [a1]; exact b0) (fun y => absurd (by rw [a1]; exact q) y) (fun _ σ2 v2 hv2 hF2 hM => ?_)
      rw [a1] at hv2 hM
      have ev : v2 = v := eqv (by rw [hv2, hv])
      rw [ev]
      exact hΨ σ2 (hF2.sm (by decide)) ⟨lws, R_wind hR (n := (rd σ 121 0).toNat) (by omega) (by have := q.1; omega) q.2.1 q.2.2.1 q.2.2.2 hC hM⟩
