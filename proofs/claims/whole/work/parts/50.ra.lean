/-! THE RELATION, STEP BY STEP -/
def Ei (S : Ls) (σ σ' : Sg) : Prop := ∀ a k, inS S a k = false → rd σ' a k = rd σ a k
theorem Fr.ei {S : Ls} {σ σ' : Sg} (h : Fr S σ σ') : Ei S σ σ' := fun _ _ e => h.rd e
theorem Ei.tr {S : Ls} {a b c : Sg} (h : Ei S a b) (g : Ei S b c) : Ei S a c := fun x k e => (g x k e).trans (h x k e)
theorem Ei.mo {S T : Ls} {a b : Sg} (h : Ei S a b) (hs : ∀ e, e ∈ S → e ∈ T) : Ei T a b := fun x k e => h x k (inS_sub hs e)
theorem Ei.eqc {S T : Ls} {σ σ' : Sg} (h : Ei T σ σ') (hd : dsj S T = true) : Eqc S σ σ' := fun _ _ q => h _ _ (dsj_ok hd q)
def RD (D : Int) (lws : Lws) (σ : Sg) : Prop := RA D 0 121 σ ∧ RA 0 40 122 σ ∧ RT lws σ ∧ RF σ
theorem G9.le {D D' : Int} {b a : Nat} {σ : Sg} (h : D' ≤ D) (g : G9 D b a σ) : G9 D' b a σ := ⟨g.1, g.2.1, g.2.2.1, fun j hj => ⟨(g.2.2.2 j hj).1, (g.2.2.2 j hj).2.1, by have := (g.2.2.2 j hj).2.2.1; omega, (g.2.2.2 j hj).2.2.2⟩⟩
theorem RD.le {D D' : Int} {lws : Lws} {σ : Sg} (h : D' ≤ D) (g : RD D lws σ) : RD D' lws σ := ⟨⟨g.1.1, g.1.2.1, g.1.2.2.1, g.1.2.2.2.1, g.1.2.2.2.2.1, g.1.2.2.2.2.2.1, g.1.2.2.2.2.2.2.1, g.1.2.2.2.2.2.2.2.1, G9.le h g.1.2.2.2.2.2.2.2.2⟩, g.2⟩
abbrev FKm : Ls := [(121, 4, 5), (121, 146, 1556)]
def KCi (σ σ' : Sg) : Prop := Ei FKc σ σ' ∧ rd σ' 1 2 = (rd σ 1 2 + 1) % 30 ∧ rd σ' 1 3 = min 30 (rd σ 1 3 + 1) ∧ (∀ k, k < 75 → rd σ' (4 + (rd σ 1 2).toNat) k = rd σ 2 k) ∧ (∀ r k, r < 30 → r ≠ (rd σ 1 2).toNat → k < 75 → rd σ' (4 + r) k = rd σ (4 + r) k)
def KMi (σ σ' : Sg) : Prop := Ei FKm σ σ' ∧ rd σ' 121 4 = min 30 (rd σ 121 4 + 1) ∧ (∀ j k : Nat, (j : Int) + 1 < rd σ' 121 4 → k < 47 → rd σ' 121 (146 + 47 * j + k) = rd σ 121 (146 + 47 * (j + if rd σ 121 4 = 30 then 1 else 0) + k)) ∧ (∀ e, e < 47 → rd σ' 121 (146 + 47 * (rd σ' 121 4 - 1).toNat + e) = want σ e)
theorem KeepC.i {σ σ' : Sg} (h : KeepC σ σ') : KCi σ σ' := ⟨h.1.ei, h.2⟩
theorem KeepM.i {σ σ' : Sg} (h : KeepM σ σ') : KMi σ σ' := ⟨h.1.ei, h.2⟩
theorem mc_tab {σ : Sg} {a : Nat} : (∀ w, w < 6 → mc σ a w = rd σ a (15 + 8 * w) ∧ mc σ a (6 + w) = rd σ a (16 + 8 * w) ∧ mc σ a (12 + w) = rd σ a (13 + 8 * w) ∧ mc σ a (18 + w) = rd σ a (14 + 8 * w) ∧ mc σ a (24 + w) = rd σ a (17 + 8 * w) ∧ mc σ a (30 + w) = rd σ a (61 + 4 * w) ∧ mc σ a (36 + w) = rd σ a (62 + 4 * w)) := fun w hw =>
  ⟨by rw [mc_at (by omega), mix_o hw], by rw [mc_at (by omega), mix_f hw], by rw [mc_at (by omega), mix_w hw], by rw [mc_at (by omega), mix_d hw], by rw [mc_at (by omega), mix_g hw], by rw [mc_at (by omega), mix_p hw], by rw [mc_at (by omega), mix_t hw]⟩
/-- a slot that holds all as it is, taken back, is all as it is -/
theorem ks_new {σ σ' : Sg} {j : Nat} (hz : Zr σ 121) (hn : (0 ≤ rd σ 121 0 ∧ rd σ 121 0 ≤ 6) ∧ (0 ≤ rd σ 121 1 ∧ rd σ 121 1 ≤ 6)) (h : ∀ e, e < 47 → rd σ' 121 (146 + 47 * j + e) = want σ e) (ht : ∀ k, 12 ≤ k → k < 84 → rd σ' 121 k = rd σ 121 k) : ks σ' 121 j = mc σ 121 := by
  have g : ∀ x e, e < 47 → x = 146 + 47 * j + e → rd σ' 121 x = want σ e := fun x e he hx => by rw [hx]; exact h e he
  have g0 : rd σ' 121 (146 + 47 * j) = rd σ 121 0 := h 0 (by omega)
  have g1 : rd σ' 121 (147 + 47 * j) = rd σ 121 1 := g _ 1 (by omega) (by omega)
  obtain ⟨z1, z2⟩ := hz
  have wf : ∀ w f, w < 6 → f < 5 → want σ (5 + 5 * w + f) = rd σ 121 (13 + 8 * w + f) := fun w f hw hf => by
    unfold want
    rw [if_neg (by omega), if_neg (by omega), if_pos (by omega)]
    congr 1
    omega
  have vf : ∀ w f, w < 6 → f < 2 → want σ (35 + 2 * w + f) = rd σ 121 (61 + 4 * w + f) := fun w f hw hf => by
    unfold want
    rw [if_neg (by omega), if_neg (by omega), if_neg (by omega)]
    congr 1
    omega
  funext k
  unfold ks
  rw [g0, g1]
  by_cases a1 : k < 6
  · rw [if_pos a1, (mc_tab k a1).1]
    split
    · rw [g _ (5 + 5 * k + 2) (by omega) (by omega), wf k 2 a1 (by omega)]; congr 1; omega
    · have := z1 k a1 (by omega) 3 (by omega) (by omega)
      rw [show 15 + 8 * k = 12 + 8 * k + 3 from by omega, this]
  rw [if_neg a1]
  by_cases a2 : k < 12
  · obtain ⟨w, rfl⟩ : ∃ w, k = 6 + w := ⟨k - 6, by omega⟩
    rw [if_pos a2, (mc_tab w (by omega)).2.1, show 6 + w - 6 = w from by omega]
    split
    · rw [g _ (5 + 5 * w + 3) (by omega) (by omega), wf w 3 (by omega) (by omega)]; congr 1; omega
    · have := z1 w (by omega) (by omega) 4 (by omega) (by omega)
      rw [show 16 + 8 * w = 12 + 8 * w + 4 from by omega, this]
  rw [if_neg a2]
  by_cases a3 : k < 18
  · obtain ⟨w, rfl⟩ : ∃ w, k = 12 + w := ⟨k - 12, by omega⟩
    rw [if_pos a3, (mc_tab w (by omega)).2.2.1, show 12 + w - 12 = w from by omega]
    split
    · rw [g _ (5 + 5 * w + 0) (by omega) (by omega), wf w 0 (by omega) (by omega)]; rfl
    · have e1 := z1 w (by omega) (by omega) 1 (by omega) (by omega)
      have e2 := z1 w (by omega) (by omega) 6 (by omega) (by omega)
      rw [ht _ (by omega) (by omega), show 13 + 8 * w = 12 + 8 * w + 1 from by omega, e1, show 18 + 8 * w = 12 + 8 * w + 6 from by omega, e2]
  rw [if_neg a3]
  by_cases a4 : k < 24
  · obtain ⟨w, rfl⟩ : ∃ w, k = 18 + w := ⟨k - 18, by omega⟩
    rw [if_pos a4, (mc_tab w (by omega)).2.2.2.1, show 18 + w - 18 = w from by omega]
    split
    · rw [g _ (5 + 5 * w + 1) (by omega) (by omega), wf w 1 (by omega) (by omega)]; congr 1; omega
    · have e1 := z1 w (by omega) (by omega) 2 (by omega) (by omega)
      have e2 := z1 w (by omega) (by omega) 7 (by omega) (by omega)
      rw [ht _ (by omega) (by omega), show 14 + 8 * w = 12 + 8 * w + 2 from by omega, e1, show 19 + 8 * w = 12 + 8 * w + 7 from by omega, e2]
  rw [if_neg a4]
  by_cases a5 : k < 30
  · obtain ⟨w, rfl⟩ : ∃ w, k = 24 + w := ⟨k - 24, by omega⟩
    rw [if_pos a5, (mc_tab w (by omega)).2.2.2.2.1, show 24 + w - 24 = w from by omega]
    split
    · rw [g _ (5 + 5 * w + 4) (by omega) (by omega), wf w 4 (by omega) (by omega)]; congr 1; omega
    · have := z1 w (by omega) (by omega) 5 (by omega) (by omega)
      rw [show 17 + 8 * w = 12 + 8 * w + 5 from by omega, this]
  rw [if_neg a5]
  by_cases a6 : k < 36
  · obtain ⟨w, rfl⟩ : ∃ w, k = 30 + w := ⟨k - 30, by omega⟩
    rw [if_pos a6, (mc_tab w (by omega)).2.2.2.2.2.1, show 30 + w - 30 = w from by omega]
    split
    · rw [g _ (35 + 2 * w + 0) (by omega) (by omega), vf w 0 (by omega) (by omega)]; rfl
    · have e1 := z2 w (by omega) (by omega) 1 (by omega) (by omega)
      have e2 := z2 w (by omega) (by omega) 3 (by omega) (by omega)
      rw [ht _ (by omega) (by omega), show 61 + 4 * w = 60 + 4 * w + 1 from by omega, e1, show 63 + 4 * w = 60 + 4 * w + 3 from by omega, e2]
  rw [if_neg a6]
  by_cases a7 : k < 42
  · obtain ⟨w, rfl⟩ : ∃ w, k = 36 + w := ⟨k - 36, by omega⟩
    rw [if_pos a7, (mc_tab w (by omega)).2.2.2.2.2.2, show 36 + w - 36 = w from by omega]
    split
    · rw [g _ (35 + 2 * w + 1) (by omega) (by omega), vf w 1 (by omega) (by omega)]; congr 1; omega
    · have := z2 w (by omega) (by omega) 2 (by omega) (by omega)
      rw [show 62 + 4 * w = 60 + 4 * w + 2 from by omega, this]
  rw [if_neg a7]
  by_cases a8 : k < 44
  · rw [if_pos a8, g _ (2 + (k - 42)) (by omega) (by omega)]
    have : k = 42 ∨ k = 43 := by omega
    rcases this with rfl | rfl <;> rfl
  · rw [if_neg a8]
    unfold mc
    rw [if_neg a8]
theorem Eqc.tr {S : Ls} {a b c : Sg} (h : Eqc S a b) (g : Eqc S b c) : Eqc S a c := fun x k e => (g x k e).trans (h x k e)
/-- a step is kept -/
theorem R_keep {D : Int} {lws : Lws} {σ σ1 σ2 : Sg} (hD : 0 ≤ D) (g : RD D lws σ) (k1 : KCi σ σ1) (k2 : KMi σ1 σ2) : RD 40 lws σ2 := by
  obtain ⟨c1, c2, c3, c4, c5⟩ := k1
  obtain ⟨m1, m2, m3, m4⟩ := k2
  have eq : ∀ S : Ls, dsj S FKc = true → dsj S FKm = true → Eqc S σ σ2 := fun S d1 d2 => (c1.eqc d1).tr (m1.eqc d2)
  obtain ⟨⟨g1, g2, g3, g4, g5, g6, g7, g8, g9⟩, gI', gT, gF⟩ := g
  have q1 := eq (fG1 0 121) (by decide +kernel) (by decide +kernel)
  refine ⟨⟨G1.of q1 g1, G2.of (eq _ (by decide +kernel) (by decide +kernel)) g2, G3.of (eq _ (by decide +kernel) (by decide +kernel)) g3, G4.of (eq _ (by decide +kernel) (by decide +kernel)) g4, G5.of (eq _ (by decide +kernel) (by decide +kernel)) g5, G6.of (eq _ (by decide +kernel) (by decide +kernel)) g6, G7.of (eq _ (by decide +kernel) (by decide +kernel)) g7, G8.of (eq _ (by decide +kernel) (by decide +kernel)) g8, ?_⟩, RA.of (eq _ (by decide +kernel) (by decide +kernel)) gI', RT.of (eq _ (by decide +kernel) (by decide +kernel)) gT, RF.of (eq _ (by decide +kernel) (by decide +kernel)) gF⟩
  -- the model's array from the first store
  have no121 : ∀ k, inS FKc 121 k = false := fun k => by
    apply Bool.eq_false_iff.mpr
    intro q
    obtain ⟨e, he, e1, e2, e3⟩ := inS_ex q
    rcases List.mem_append.mp he with h | h
    · obtain ⟨i, hi, rfl⟩ := List.mem_map.mp h
      have : 4 + i = 121 := e1
      have := List.mem_range.mp hi
      omega
    · rw [List.mem_singleton] at h
      subst h
      exact absurd e1 (by decide)
  have a1 : ∀ k, rd σ1 121 k = rd σ 121 k := fun k => c1 121 k (no121 k)
  have a2 : ∀ k, k ≠ 4 → (k < 146 ∨ 1556 ≤ k) → rd σ2 121 k = rd σ 121 k := fun k k4 hk => by
    rw [m1 121 k (by
      unfold inS
      simp only [List.any_cons, List.any_nil, Bool.or_false, Bool.or_eq_false_iff, Bool.and_eq_false_iff]
      refine ⟨Or.inr ?_, Or.inr ?_⟩
      · rcases Nat.lt_or_ge k 4 with q | q
        · exact Or.inl (nble q)
        · exact Or.inr (nble (by omega))
      · rcases hk with q | q
        · exact Or.inl (nble q)
        · exact Or.inr (nble (by omega))), a1]
  have cls : ∀ a k, a < 120 → rd σ2 a k = rd σ1 a k := fun a k ha => m1 a k (by
    unfold inS
    simp only [List.any_cons, List.any_nil, Bool.or_false, Bool.or_eq_false_iff, Bool.and_eq_false_iff]
    exact ⟨Or.inl (nbeq (by omega)), Or.inl (nbeq (by omega))⟩)
  obtain ⟨s1, s2, s3, s4⟩ := g9
  have s1 : rd σ 1 3 = rd σ 121 4 := s1
  have s3 : 0 ≤ rd σ 1 2 ∧ rd σ 1 2 < 30 := s3
  have s4 : ∀ j : Nat, (j : Int) < rd σ 121 4 → StR (rwK 0 (rd σ 1 2) (rd σ 121 4) j) 121 j σ ∧ rd σ 121 (150 + 47 * j) ≤ rd σ 121 10 ∧ rd σ 121 10 + D ≤ rd σ 121 (150 + 47 * j) + 40 * (rd σ 121 4 - j) ∧ (∀ i : Nat, i < j → rd σ 121 (150 + 47 * i) ≤ rd σ 121 (150 + 47 * j) ∧ rd σ 121 (150 + 47 * j) ≤ rd σ 121 (150 + 47 * i) + 40 * ((j : Int) - i)) := s4
  rw [a1] at m2
  have m3 : ∀ j k : Nat, (j : Int) + 1 < rd σ2 121 4 → k < 47 → rd σ2 121 (146 + 47 * j + k) = rd σ 121 (146 + 47 * (j + if rd σ 121 4 = 30 then 1 else 0) + k) := fun j k h1 h2 => by
    rw [m3 j k h1 h2, a1, a1]
  have m4 : ∀ e, e < 47 → rd σ2 121 (146 + 47 * (rd σ2 121 4 - 1).toNat + e) = want σ e := fun e he => by
    rw [m4 e he]
    exact want_of (fun k _ _ => a1 k) e he
  have n2 : rd σ2 1 2 = (rd σ 1 2 + 1) % 30 := (cls 1 2 (by omega)).trans c2
  have n3 : rd σ2 1 3 = min 30 (rd σ 1 3 + 1) := (cls 1 3 (by omega)).trans c3
  have r10 : rd σ2 121 10 = rd σ 121 10 := a2 10 (by omega) (by omega)
  have told : ∀ w, w < 6 → rd σ2 121 (18 + 8 * w) = rd σ 121 (18 + 8 * w) ∧ rd σ2 121 (19 + 8 * w) = rd σ 121 (19 + 8 * w) ∧ rd σ2 121 (63 + 4 * w) = rd σ 121 (63 + 4 * w) := fun w hw => ⟨a2 _ (by omega) (by omega), a2 _ (by omega) (by omega), a2 _ (by omega) (by omega)⟩
  have ring : ∀ k, 1556 ≤ k → k < 4016 → rd σ2 121 k = rd σ 121 k := fun k k1 k2 => a2 k (by omega) (by omega)
  show rd σ2 1 3 = rd σ2 121 4 ∧ (0 ≤ rd σ2 121 4 ∧ rd σ2 121 4 ≤ 30) ∧ (0 ≤ rd σ2 1 2 ∧ rd σ2 1 2 < 30) ∧ (∀ j : Nat, (j : Int) < rd σ2 121 4 → StR (rwK 0 (rd σ2 1 2) (rd σ2 121 4) j) 121 j σ2 ∧ rd σ2 121 (150 + 47 * j) ≤ rd σ2 121 10 ∧ rd σ2 121 10 + 40 ≤ rd σ2 121 (150 + 47 * j) + 40 * (rd σ2 121 4 - j) ∧ (∀ i : Nat, i < j → rd σ2 121 (150 + 47 * i) ≤ rd σ2 121 (150 + 47 * j) ∧ rd σ2 121 (150 + 47 * j) ≤ rd σ2 121 (150 + 47 * i) + 40 * ((j : Int) - i)))
  refine ⟨by rw [n3, m2, s1], by omega, by omega, fun j hj => ?_⟩
  generalize hsh : (if rd σ 121 4 = 30 then 1 else 0) = sh at m3
  have hsh' : (rd σ 121 4 = 30 ∧ sh = 1) ∨ (rd σ 121 4 ≠ 30 ∧ sh = 0) := by
    by_cases z : rd σ 121 4 = 30
    · rw [if_pos z] at hsh; exact Or.inl ⟨z, hsh.symm⟩
    · rw [if_neg z] at hsh; exact Or.inr ⟨z, hsh.symm⟩
  have slW : ∀ i : Nat, (i : Int) + 1 < rd σ2 121 4 → rd σ2 121 (150 + 47 * i) = rd σ 121 (150 + 47 * (i + sh)) := fun i hi => by
    have := m3 i 4 hi (by omega)
    rw [show 146 + 47 * i + 4 = 150 + 47 * i from by omega, show 146 + 47 * (i + sh) + 4 = 150 + 47 * (i + sh) from by omega] at this
    exact this
  by_cases last : (j : Int) + 1 = rd σ2 121 4
  · have hjt : (rd σ2 121 4 - 1).toNat = j := by omega
    rw [hjt] at m4
    have hrow : rwK 0 (rd σ2 1 2) (rd σ2 121 4) j = 4 + (rd σ 1 2).toNat := by
      unfold rwK
      rw [n2]
      omega
    rw [hrow]
    have rr : ∀ k, k < 75 → rd σ2 (4 + (rd σ 1 2).toNat) k = rd σ 2 k := fun k hk => (cls _ _ (by omega)).trans (c4 k hk)
    have hks : ks σ2 121 j = mc σ 121 := ks_new g7.2.2 ⟨g1.2.2.2.2.1, g1.2.2.2.2.2⟩ m4 (fun k k1 k2 => a2 k (by omega) (by omega))
    have w0 : rd σ2 121 (146 + 47 * j) = rd σ 121 0 := m4 0 (by omega)
    have w1 : rd σ2 121 (147 + 47 * j) = rd σ 121 1 := by have := m4 1 (by omega); rw [show 146 + 47 * j + 1 = 147 + 47 * j from by omega] at this; exact this
    have w2 : rd σ2 121 (148 + 47 * j) = rd σ 121 8 := by have := m4 2 (by omega); rw [show 146 + 47 * j + 2 = 148 + 47 * j from by omega] at this; exact this
    have w4 : rd σ2 121 (150 + 47 * j) = rd σ 121 10 := by have := m4 4 (by omega); rw [show 146 + 47 * j + 4 = 150 + 47 * j from by omega] at this; exact this
    have h44 : rd σ 2 44 = rd σ 121 10 := g8.1
    have h8 : rd σ 121 10 = rd σ 121 8 := g8.2.1
    refine ⟨⟨?_, ?_, ?_, ?_, ?_, ?_, ?_⟩, by rw [w4, r10]; exact Int.le_refl _, by rw [w4, r10]; omega, fun i hi => by
      have hh := s4 (i + sh) (by omega)
      rw [w4, slW i (by omega)]
      have h1 := hh.2.1
      have h2 := hh.2.2.1
      omega⟩
    · rw [hks, ← g7.1]
      funext k
      show rc σ2 (4 + (rd σ 1 2).toNat) k = rc σ 2 k
      unfold rc
      by_cases q : k < 44
      · rw [if_pos q, if_pos q, rr k (by omega)]
      · rw [if_neg q, if_neg q]
    · rw [rr 44 (by omega), w4]; exact h44
    · rw [w4, w2]; exact h8
    · rw [w0, a2 0 (by omega) (by omega)]; exact ⟨g1.2.2.2.2.1.1, Int.le_refl _⟩
    · rw [w1, a2 1 (by omega) (by omega)]; exact ⟨g1.2.2.2.2.2.1, Int.le_refl _⟩
    · rw [w4]
      intro p hp hq
      obtain ⟨w, f, t, b1, b2, b3, e1, e2, e3⟩ := g8.2.2 p hp hq
      have m1' : p % 30 < 30 := Nat.mod_lt _ (by decide)
      have m2' : p % 1230 < 1230 := Nat.mod_lt _ (by decide)
      refine ⟨w, f, t, b1, b2, b3, ?_, ?_, ?_⟩
      · rw [rr _ (by omega)]; exact e1
      · rw [ring _ (by omega) (by omega)]; exact e2
      · rw [ring _ (by omega) (by omega)]; exact e3
    · rw [hks]
      exact COk_of q1 g7.2.1
  · have hj1 : (j : Int) + 1 < rd σ2 121 4 := by omega
    obtain ⟨⟨t1, t2, t3, t4, t5, t6, t7⟩, t8, t9⟩ := s4 (j + sh) (by omega)
    have hrow : rwK 0 (rd σ2 1 2) (rd σ2 121 4) j = rwK 0 (rd σ 1 2) (rd σ 121 4) (j + sh) := by
      unfold rwK
      rw [n2]
      omega
    have hne : ∃ r, r < 30 ∧ r ≠ (rd σ 1 2).toNat ∧ rwK 0 (rd σ 1 2) (rd σ 121 4) (j + sh) = 4 + r := by
      refine ⟨((rd σ 1 2 + 30 - rd σ 121 4 + (j + sh : Nat)) % 30).toNat, by omega, by omega, ?_⟩
      unfold rwK
      rfl
    obtain ⟨r, r1, r2, r3⟩ := hne
    rw [hrow]
    rw [r3] at t1 t2 t6 ⊢
    have rr : ∀ k, k < 75 → rd σ2 (4 + r) k = rd σ (4 + r) k := fun k hk => (cls _ _ (by omega)).trans (c5 r k r1 r2 hk)
    have cell : ∀ k x y, k < 47 → x = 146 + 47 * j + k → y = 146 + 47 * (j + sh) + k → rd σ2 121 x = rd σ 121 y := fun k x y hk hx hy => by rw [hx, hy]; exact m3 j k hj1 hk
    have hks : ks σ2 121 j = ks σ 121 (j + sh) := ks_of (fun k hk => m3 j k hj1 hk) told
    have x0 := cell 0 (146 + 47 * j) (146 + 47 * (j + sh)) (by omega) rfl rfl
    have x1 := cell 1 (147 + 47 * j) (147 + 47 * (j + sh)) (by omega) (by omega) (by omega)
    have x2 := cell 2 (148 + 47 * j) (148 + 47 * (j + sh)) (by omega) (by omega) (by omega)
    have x4 := cell 4 (150 + 47 * j) (150 + 47 * (j + sh)) (by omega) (by omega) (by omega)
    refine ⟨⟨?_, ?_, ?_, ?_, ?_, ?_, ?_⟩, by rw [x4, r10]; exact t8, by have := t9.1; rw [x4, r10]; omega, fun i hi => by
      have hh := t9.2 (i + sh) (by omega)
      rw [x4, slW i (by omega)]
      omega⟩
    · rw [hks, ← t1]
      funext k
      unfold rc
      by_cases q : k < 44
      · rw [if_pos q, if_pos q, rr k (by omega)]
      · rw [if_neg q, if_neg q]
    · rw [rr 44 (by omega), x4]; exact t2
    · rw [x4, x2]; exact t3
    · rw [x0, a2 0 (by omega) (by omega)]; exact t4
    · rw [x1, a2 1 (by omega) (by omega)]; exact t5
    · rw [x4]
      exact Bk.of (fun k k1 k2 => rr k (by omega)) ring t6
    · rw [hks]
      exact COk_of q1 t7
