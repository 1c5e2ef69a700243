theorem G9.gen {D D' : Int} {b a : Nat} {σ σ' : Sg} (hr : ∀ r k, 4 + b ≤ r → r < 34 + b → k < 75 → rd σ' r k = rd σ r k) (h1 : Eqc (fG1 b a) σ σ') (told : ∀ w, w < 6 → rd σ' a (18 + 8 * w) = rd σ a (18 + 8 * w) ∧ rd σ' a (19 + 8 * w) = rd σ a (19 + 8 * w) ∧ rd σ' a (63 + 4 * w) = rd σ a (63 + 4 * w)) (e4 : rd σ' a 4 = rd σ a 4) (es : ∀ k, 146 ≤ k → k < 1556 → rd σ' a k = rd σ a k) (en : rd σ' (1 + b) 2 = rd σ (1 + b) 2) (e3 : rd σ' (1 + b) 3 = rd σ (1 + b) 3) (hw : rd σ a 10 ≤ rd σ' a 10) (hd : rd σ' a 10 + D' ≤ rd σ a 10 + D)
    (hbk : ∀ r W, 4 + b ≤ r → r < 34 + b → W ≤ rd σ a 10 → rd σ a 10 + D ≤ W + 1200 → Bk r a σ W → Bk r a σ' W) (g : G9 D b a σ) : G9 D' b a σ' := by
  have e0 : rd σ' a 0 = rd σ a 0 := h1.at (lo := 0) (hi := 2) (by simp [fG1]) (by omega)
  have e1 : rd σ' a 1 = rd σ a 1 := h1.at (lo := 0) (hi := 2) (by simp [fG1]) (by omega)
  obtain ⟨g1, g2, g3, g4⟩ := g
  refine ⟨by rw [e3, e4]; exact g1, by rw [e4]; exact g2, by rw [en]; exact g3, fun j hj => ?_⟩
  rw [e4] at hj
  obtain ⟨⟨s1, s2, s3, s4, s5, s6, s7⟩, s8, s9⟩ := g4 j hj
  have hj30 : j < 30 := by omega
  have hks : ks σ' a j = ks σ a j := ks_of (fun k hk => es _ (by omega) (by omega)) told
  rw [en, e4, es (150 + 47 * j) (by omega) (by omega)]
  have hrw : 4 + b ≤ rwK b (rd σ (1 + b) 2) (rd σ a 4) j ∧ rwK b (rd σ (1 + b) 2) (rd σ a 4) j < 34 + b := by
    unfold rwK
    omega
  generalize rwK b (rd σ (1 + b) 2) (rd σ a 4) j = r at hrw s1 s2 s6
  have hrr : ∀ k, k < 75 → rd σ' r k = rd σ r k := fun k hk => hr r k hrw.1 hrw.2 hk
  refine ⟨⟨?_, ?_, ?_, ?_, ?_, ?_, ?_⟩, by omega, by have := s9.1; omega, fun i hi => by rw [es (150 + 47 * i) (by omega) (by omega)]; exact s9.2 i hi⟩
  · rw [hks, ← s1]
    funext k
    unfold rc
    by_cases q : k < 44
    · rw [if_pos q, if_pos q, hrr k (by omega)]
    · rw [if_neg q, if_neg q]
  · rw [hrr 44 (by omega), es _ (by omega) (by omega)]; exact s2
  · rw [es _ (by omega) (by omega), es _ (by omega) (by omega)]; exact s3
  · rw [es _ (by omega) (by omega), e0]; exact s4
  · rw [es _ (by omega) (by omega), e1]; exact s5
  · rw [es _ (by omega) (by omega)]
    exact hbk r _ hrw.1 hrw.2 s8 (by have := s9.1; omega) s6
  · rw [hks]
    exact COk_of h1 s7
/-- cells of the core in the reference's array -/
abbrev FMk : Ls := [(121, 8, 10), (121, 13, 18), (121, 21, 26), (121, 29, 34), (121, 37, 42), (121, 45, 50), (121, 53, 58), (121, 61, 63), (121, 65, 67), (121, 69, 71), (121, 73, 75), (121, 77, 79), (121, 81, 83)]
abbrev SC : Ls := XS ++ (MS ++ ((2, 0, 44) :: FMk))
abbrev SP : Ls := SC ++ [(2, 44, 75), (121, 10, 11), (121, 1556, 4016)]
def Untold (n v k : Nat) : Prop := (n ≤ k ∧ k < 6) ∨ (6 + n ≤ k ∧ k < 12) ∨ (12 + n ≤ k ∧ k < 18) ∨ (18 + n ≤ k ∧ k < 24) ∨ (24 + n ≤ k ∧ k < 30) ∨ (30 + v ≤ k ∧ k < 36) ∨ (36 + v ≤ k ∧ k < 42)
theorem SP_told : ∀ w, w < 6 → inS SP 121 (18 + 8 * w) = false ∧ inS SP 121 (19 + 8 * w) = false ∧ inS SP 121 (63 + 4 * w) = false := by decide
theorem SP_low : ∀ k, k < 8 → inS SP 121 k = false := by decide
theorem Zr_core {σ σ2 : Sg} (hS : Ei SP σ σ2) (hn : (0 ≤ rd σ 121 0 ∧ rd σ 121 0 ≤ 6) ∧ (0 ≤ rd σ 121 1 ∧ rd σ 121 1 ≤ 6)) (hu : ∀ k, Untold (rd σ 121 0).toNat (rd σ 121 1).toNat k → mc σ2 121 k = mc σ 121 k) (g : Zr σ 121) : Zr σ2 121 := by
  obtain ⟨g1, g2⟩ := g
  have e0 : rd σ2 121 0 = rd σ 121 0 := hS _ _ (SP_low 0 (by omega))
  have e1 : rd σ2 121 1 = rd σ 121 1 := hS _ _ (SP_low 1 (by omega))
  refine ⟨fun w hw hq k hk h0 => ?_, fun w hw hq k hk h0 => ?_⟩
  · rw [e0] at hq
    have z := g1 w hw hq
    obtain ⟨m1, m2, m3, m4, m5, -, -⟩ := mc_tab (σ := σ) (a := 121) w hw
    obtain ⟨n1, n2, n3, n4, n5, -, -⟩ := mc_tab (σ := σ2) (a := 121) w hw
    have j : k = 1 ∨ k = 2 ∨ k = 3 ∨ k = 4 ∨ k = 5 ∨ k = 6 ∨ k = 7 := by omega
    rcases j with rfl | rfl | rfl | rfl | rfl | rfl | rfl
    · rw [show 12 + 8 * w + 1 = 13 + 8 * w from by omega, ← n3, hu _ (by unfold Untold; omega), m3]
      have := z 1 (by omega) (by omega); rw [show 12 + 8 * w + 1 = 13 + 8 * w from by omega] at this; exact this
    · rw [show 12 + 8 * w + 2 = 14 + 8 * w from by omega, ← n4, hu _ (by unfold Untold; omega), m4]
      have := z 2 (by omega) (by omega); rw [show 12 + 8 * w + 2 = 14 + 8 * w from by omega] at this; exact this
    · rw [show 12 + 8 * w + 3 = 15 + 8 * w from by omega, ← n1, hu _ (by unfold Untold; omega), m1]
      have := z 3 (by omega) (by omega); rw [show 12 + 8 * w + 3 = 15 + 8 * w from by omega] at this; exact this
    · rw [show 12 + 8 * w + 4 = 16 + 8 * w from by omega, ← n2, hu _ (by unfold Untold; omega), m2]
      have := z 4 (by omega) (by omega); rw [show 12 + 8 * w + 4 = 16 + 8 * w from by omega] at this; exact this
    · rw [show 12 + 8 * w + 5 = 17 + 8 * w from by omega, ← n5, hu _ (by unfold Untold; omega), m5]
      have := z 5 (by omega) (by omega); rw [show 12 + 8 * w + 5 = 17 + 8 * w from by omega] at this; exact this
    · rw [show 12 + 8 * w + 6 = 18 + 8 * w from by omega, hS _ _ (SP_told w hw).1]
      have := z 6 (by omega) (by omega); rw [show 12 + 8 * w + 6 = 18 + 8 * w from by omega] at this; exact this
    · rw [show 12 + 8 * w + 7 = 19 + 8 * w from by omega, hS _ _ (SP_told w hw).2.1]
      have := z 7 (by omega) (by omega); rw [show 12 + 8 * w + 7 = 19 + 8 * w from by omega] at this; exact this
  · rw [e1] at hq
    have z := g2 w hw hq
    obtain ⟨-, -, -, -, -, m6, m7⟩ := mc_tab (σ := σ) (a := 121) w hw
    obtain ⟨-, -, -, -, -, n6, n7⟩ := mc_tab (σ := σ2) (a := 121) w hw
    have j : k = 1 ∨ k = 2 ∨ k = 3 := by omega
    rcases j with rfl | rfl | rfl
    · rw [show 60 + 4 * w + 1 = 61 + 4 * w from by omega, ← n6, hu _ (by unfold Untold; omega), m6]
      have := z 1 (by omega) (by omega); rw [show 60 + 4 * w + 1 = 61 + 4 * w from by omega] at this; exact this
    · rw [show 60 + 4 * w + 2 = 62 + 4 * w from by omega, ← n7, hu _ (by unfold Untold; omega), m7]
      have := z 2 (by omega) (by omega); rw [show 60 + 4 * w + 2 = 62 + 4 * w from by omega] at this; exact this
    · rw [show 60 + 4 * w + 3 = 63 + 4 * w from by omega, hS _ _ (SP_told w hw).2.2]
      have := z 3 (by omega) (by omega); rw [show 60 + 4 * w + 3 = 63 + 4 * w from by omega] at this; exact this
theorem not_inS {S : Ls} {a k : Nat} (h : ∀ e, e ∈ S → ¬ (e.1 = a ∧ e.2.1 ≤ k ∧ k < e.2.2)) : inS S a k = false := by
  apply Bool.eq_false_iff.mpr
  intro q
  obtain ⟨e, he, e1⟩ := inS_ex q
  exact h e he e1
theorem SP_rows : ∀ e, e ∈ SP → e.1 < 4 ∨ 34 ≤ e.1 := by decide
theorem SP_slots : ∀ e, e ∈ SP → e.1 ≠ 121 ∨ e.2.2 ≤ 146 ∨ 1556 ≤ e.2.1 := by decide
theorem SC_ring : ∀ e, e ∈ SC → e.1 ≠ 121 ∨ e.2.2 ≤ 146 := by decide
/-- the core has changed (days, payments, merging), and what goes with it -/
theorem R_corev {D D' : Int} {lws : Lws} {σ σ2 : Sg} (g : RD D lws σ) (hS : Ei SP σ σ2) (hrc : rc σ2 2 = mc σ2 121) (hok : COk σ 121 (mc σ2 121)) (hu : ∀ k, Untold (rd σ 121 0).toNat (rd σ 121 1).toNat k → mc σ2 121 k = mc σ 121 k) (h8 : G8 0 121 σ2) (hw : rd σ 121 10 ≤ rd σ2 121 10) (hd : rd σ2 121 10 + D' ≤ rd σ 121 10 + D)
    (hbk : ∀ r W, 4 ≤ r → r < 34 → W ≤ rd σ 121 10 → rd σ 121 10 + D ≤ W + 1200 → Bk r 121 σ W → Bk r 121 σ2 W) : RD D' lws σ2 := by
  obtain ⟨⟨g1, g2, g3, g4, g5, g6, g7, g8, g9⟩, gI', gT, gF⟩ := g
  have q1 : Eqc (fG1 0 121) σ σ2 := hS.eqc (by decide +kernel)
  refine ⟨⟨G1.of q1 g1, G2.of (hS.eqc (by decide +kernel)) g2, G3.of (hS.eqc (by decide +kernel)) g3, G4.of (hS.eqc (by decide +kernel)) g4, G5.of (hS.eqc (by decide +kernel)) g5, G6.of (hS.eqc (by decide +kernel)) g6, ⟨hrc, COk_of q1 hok, Zr_core hS ⟨g1.2.2.2.2.1, g1.2.2.2.2.2⟩ hu g7.2.2⟩, h8, ?_⟩, RA.of (hS.eqc (by decide +kernel)) gI', RT.of (hS.eqc (by decide +kernel)) gT, RF.of (hS.eqc (by decide +kernel)) gF⟩
  refine G9.gen (D := D) (fun r k h1 h2 hk => hS _ _ (not_inS (fun e he z => ?_))) q1 (fun w hw => ⟨hS _ _ (SP_told w hw).1, hS _ _ (SP_told w hw).2.1, hS _ _ (SP_told w hw).2.2⟩) (hS _ _ (SP_low 4 (by omega))) (fun k k1 k2 => hS _ _ (not_inS (fun e he z => ?_))) (hS _ _ rfl) (hS _ _ rfl) hw hd (fun r W h1 h2 => hbk r W (by omega) (by omega)) g9
  · have := SP_rows e he
    omega
  · have := SP_slots e he
    omega
theorem R_core {D : Int} {lws : Lws} {σ σ2 : Sg} (g : RD D lws σ) (hS : Ei SC σ σ2) (hrc : rc σ2 2 = mc σ2 121) (hok : COk σ 121 (mc σ2 121)) (hu : ∀ k, Untold (rd σ 121 0).toNat (rd σ 121 1).toNat k → mc σ2 121 k = mc σ 121 k) (h42 : mc σ2 121 42 = mc σ 121 42) : RD D lws σ2 := by
  have hSP : Ei SP σ σ2 := hS.mo (fun e he => List.mem_append_left _ he)
  have g8 := g.1.2.2.2.2.2.2.2.1
  have e10 : rd σ2 121 10 = rd σ 121 10 := hS _ _ rfl
  have e8 : rd σ2 121 8 = rd σ 121 8 := h42
  have ring : ∀ k, 1556 ≤ k → k < 4016 → rd σ2 121 k = rd σ 121 k := fun k k1 k2 => hS _ _ (not_inS (fun e he z => by have := SC_ring e he; omega))
  have row : ∀ k, 44 ≤ k → rd σ2 2 k = rd σ 2 k := fun k k1 => hS _ _ (not_inS (fun e he z => by
    have : ∀ e, e ∈ SC → e.1 ≠ 2 ∨ e.2.2 ≤ 44 := by decide
    have := this e he
    omega))
  refine R_corev (D' := D) g hSP hrc hok hu ⟨?_, ?_, ?_⟩ (by omega) (by omega) (fun r W h1 h2 _ _ hb => ?_)
  · show rd σ2 2 44 = _
    rw [row 44 (by omega), e10]; exact g8.1
  · rw [e10, e8]; exact g8.2.1
  · rw [e10]
    exact Bk.of (fun k k1 k2 => row k k1) ring g8.2.2
  · exact Bk.of (fun k k1 k2 => hSP _ _ (not_inS (fun e he z => by have := SP_rows e he; omega))) ring hb
theorem dueS_un {E : En} {c : Co} : ∀ n k, (n ≤ k) → dueS E c n k = c k
  | 0, _, _ => rfl
  | n + 1, k, h => by
    have eS : dueS E c (n + 1) = if dueS E c n (24 + n) = 0 then upc (dueS E c n) n (min 9999 (dueS E c n n + duesF E (dueS E c n) n)) else dueS E c n := rfl
    rw [eS]
    split
    · rw [upc_ne (by omega)]; exact dueS_un n k (by omega)
    · exact dueS_un n k (by omega)
theorem blowS_un {E : En} {c : Co} (h : Ok E c) {k : Nat} (hk : k < 6 ∨ 6 + eN E ≤ k) (h43 : k ≠ 43) : (blowS E c).1 k = c k := by
  unfold blowS
  split
  · rfl
  next h0 =>
    have hd := drawn_r h h0
    have h6 := h.1
    dsimp only
    rw [upc_ne (by omega), upc_ne (by omega)]
theorem takeS_un {E : En} {c : Co} {w f : Int} (h : Ok E c) : ∀ n, n ≤ eV E → ∀ k, (k < 30 ∨ (30 + n ≤ k ∧ k < 36) ∨ 36 + n ≤ k) → (takeS E w f c n).1 k = c k
  | 0, _, _, _ => rfl
  | n + 1, hn, k, hk => by
    obtain ⟨i1, -⟩ := takeS_ok (w := w) (f := f) h n (by omega)
    have ih := takeS_un (w := w) (f := f) h n (by omega) k (by omega)
    have h6 := h.2.1
    show takeQ E w f (takeP E w f (takeS E w f c n).1 n) n k = c k
    obtain ⟨p1, p2, -⟩ := takeP_ok (w := w) (f := f) i1 (v := n) (by omega)
    obtain ⟨-, q2⟩ := takeQ_ok (w := w) (f := f) p1 (v := n) (by omega)
    rw [q2 k (by omega), p2 k (by omega) (by omega)]
    exact ih
theorem passF_un {E : En} {c : Co} (h : Ok E c) {k : Nat} (hk : Untold (eN E) (eV E) k) : (passF E c).1 k = c k := by
  unfold Untold at hk
  have h6 := h.1
  have hv := h.2.1
  obtain ⟨d1, d2⟩ := dueF_ok h
  obtain ⟨b1, -⟩ := blowS_ok d1
  unfold passF
  dsimp only
  rw [upc_ne (by omega), takeS_un b1 _ (Nat.le_refl _) k (by omega), blowS_un d1 (by omega) (by omega)]
  unfold dueF
  split
  · by_cases q : k < 6
    · exact dueS_un _ _ (by omega)
    · exact (dueS_ok h _ (Nat.le_refl _)).2 k (by omega)
  · rfl
/-- what the class's day does, and the reference's -/
def PCi (E : En) (σ σ' : Sg) : Prop := Ei FD σ σ' ∧ rc σ' 2 = (passF E (rc σ 2)).1 ∧ PgX σ σ' (passF E (rc σ 2)).2.1 (passF E (rc σ 2)).2.2.1 (passF E (rc σ 2)).2.2.2 (rc σ 2 42)
def PMi (E : En) (σ σ' : Sg) : Prop := Ei FM σ σ' ∧ mc σ' 121 = (passF E (mc σ 121)).1 ∧ RgW σ σ' (passF E (mc σ 121)).2.1 (passF E (mc σ 121)).2.2.1 (passF E (mc σ 121)).2.2.2
theorem FDSP : ∀ e, e ∈ FD → e ∈ SP := by decide
theorem FMSP : ∀ e, e ∈ FM → e ∈ SP ∨ e = (120, 25, 28) := by decide
theorem FM_SP {a k : Nat} (h : inS SP a k = false) : inS FM a k = false := not_inS (fun e he z => by
  rcases FMSP e he with q | q
  · obtain ⟨x, lo, hi⟩ := e
    obtain ⟨z1, z2⟩ := z
    have z1 : x = a := z1
    subst z1
    rw [inS_r q z2] at h
    cases h
  · subst q
    obtain ⟨z1, z2, z3⟩ := z
    have z1 : 120 = a := z1
    subst z1
    have z2 : 25 ≤ k := z2
    have z3 : k < 28 := z3
    rw [inS_r (lo := 25) (hi := 40) (by decide) ⟨by omega, by omega⟩] at h
    cases h)
theorem RD.w10 {D : Int} {lws : Lws} {σ : Sg} (g : RD D lws σ) : 0 ≤ rd σ 121 10 ∧ rd σ 121 10 ≤ 9999 ∧ rd σ 121 10 = mc σ 121 42 ∧ rd σ 2 44 = rd σ 121 10 := by
  have g8 := g.1.2.2.2.2.2.2.2.1
  have d : 0 ≤ mc σ 121 42 ∧ mc σ 121 42 ≤ 9999 := g.1.2.2.2.2.2.2.1.2.1.1.2.2.1
  have e2 : rd σ 121 10 = rd σ 121 8 := g8.2.1
  have e3 : mc σ 121 42 = rd σ 121 8 := rfl
  have e4 : rd σ 2 44 = rd σ 121 10 := g8.1
  omega
theorem R_pass {D : Int} {lws : Lws} {σ σ1 σ2 : Sg} (hD : 1 ≤ D) (g : RD D lws σ) (h9 : mc σ 121 42 < 9999) (k1 : PCi (EE lws σ) σ σ1) (k2 : PMi (EE lws σ) σ1 σ2) : RD (D - 1) lws σ2 := by
  obtain ⟨c1, c2, c3⟩ := k1
  obtain ⟨m1, m2, m3⟩ := k2
  have g7 := g.1.2.2.2.2.2.2.1
  have g8 := g.1.2.2.2.2.2.2.2.1
  have hrc : rc σ 2 = mc σ 121 := g7.1
  obtain ⟨w1, w2, w3, w4⟩ := g.w10
  have hO : Ok (EE lws σ) (mc σ 121) := g7.2.1.1
  have hT : TkOk (EE lws σ) (mc σ 121) := g7.2.1.2.1
  have hn := g.1.1.2.2.2.2
  have a1 : ∀ k, rd σ1 121 k = rd σ 121 k := fun k => c1 _ _ (inFD (by omega))
  have em : mc σ1 121 = mc σ 121 := by unfold mc; funext k; split <;> first | rw [a1] | rfl
  rw [em] at m2 m3
  rw [hrc] at c2 c3
  obtain ⟨o1, o2, o3, o4, o5, o6, o7, o8⟩ := passF_ok hO hT h9
  have hS : Ei SP σ σ2 := (c1.mo FDSP).tr (fun a k q => m1 a k (FM_SP q))
  have cls : ∀ a k, a < 120 → rd σ2 a k = rd σ1 a k := fun a k ha => m1 a k (not_inS (fun e he z => by
    have : ∀ e, e ∈ FM → 120 ≤ e.1 := by decide
    have := this e he
    omega))
  have erc : rc σ2 2 = rc σ1 2 := by unfold rc; funext k; split <;> first | rw [cls 2 k (by omega)] | rfl
  obtain ⟨P1, P2, P3⟩ := c3
  obtain ⟨Q1, Q2, Q3, Q4⟩ := m3
  rw [a1] at Q1 Q2 Q3 Q4
  rw [a1] at Q2
  have day : rd σ 121 8 = mc σ 121 42 := rfl
  have e42 : rd σ2 121 8 = mc σ 121 42 + 1 := by
    have : mc σ2 121 42 = mc σ 121 42 + 1 := by rw [m2]; exact o3
    exact this
  have hww : rd σ2 121 10 = rd σ 121 10 + 1 := Q1
  have hnat : (((rd σ 121 10).toNat : Nat) : Int) = rd σ 121 10 := by omega
  have ringk : ∀ p : Nat, (p : Int) < rd σ 121 10 → rd σ 121 10 < p + 1230 → p % 1230 ≠ (rd σ 121 10).toNat % 1230 := fun p h1 h2 => by omega
  have hbk : ∀ r W, (∀ k, 44 ≤ k → k < 75 → rd σ2 r k = rd σ r k) → W ≤ rd σ 121 10 → rd σ 121 10 + D ≤ W + 1200 → Bk r 121 σ W → Bk r 121 σ2 W := by
    intro r W hr hW hW2 hb p hp hq
    obtain ⟨w, f, t, b1, b2, b3, e1, e2, e3⟩ := hb p hp hq
    have m1' : p % 30 < 30 := Nat.mod_lt _ (by decide)
    have m2' : p % 1230 < 1230 := Nat.mod_lt _ (by decide)
    have := Q4 (p % 1230) m2' (ringk p (by omega) (by omega))
    rw [a1, a1] at this
    exact ⟨w, f, t, b1, b2, b3, by rw [hr _ (by omega) (by omega)]; exact e1, by rw [this.1]; exact e2, by rw [this.2]; exact e3⟩
  refine R_corev (D' := D - 1) g hS ?_ ?_ ?_ ⟨?_, ?_, ?_⟩ (by omega) (by omega) (fun r W h1 h2 hW hW2 hb => ?_)
  · rw [erc, c2, m2]
  · rw [m2]
    refine ⟨o1, o2, ?_⟩
    show wsum _ _ ≤ _
    rw [wsum_cg (c := mc σ 121) _ (fun w hw => ⟨o7 _ (by omega) (by omega), o7 _ (by omega) (by omega)⟩)]
    exact g7.2.1.2.2
  · intro k hk
    rw [m2]
    exact passF_un hO hk
  · show rd σ2 2 44 = _
    rw [cls 2 44 (by omega), P1, w4, hww]
  · rw [hww, e42, w3]
  · rw [hww]
    intro p hp hq
    have m1' : p % 30 < 30 := Nat.mod_lt _ (by decide)
    have m2' : p % 1230 < 1230 := Nat.mod_lt _ (by decide)
    have e44 : (rd σ 2 44).toNat = (rd σ 121 10).toNat := by rw [w4]
    rw [e44] at P2 P3
    by_cases last : (p : Int) = rd σ 121 10
    · have ep : p = (rd σ 121 10).toNat := by omega
      refine ⟨(passF (EE lws σ) (mc σ 121)).2.1, (passF (EE lws σ) (mc σ 121)).2.2.1, (passF (EE lws σ) (mc σ 121)).2.2.2, ?_, o5, o6, ?_, ?_, ?_⟩
      · have := hO.1
        omega
      · show rd σ2 2 _ = _
        rw [cls 2 _ (by omega), ep, P2, hnat, w3]
      · rw [ep, Q2, day, hnat, w3]
      · rw [ep, Q3]
    · obtain ⟨w, f, t, b1, b2, b3, e1, e2, e3⟩ := g8.2.2 p (by omega) (by omega)
      have hq4 := Q4 (p % 1230) m2' (ringk p (by omega) (by omega))
      rw [a1, a1] at hq4
      refine ⟨w, f, t, b1, b2, b3, ?_, by rw [hq4.1]; exact e2, by rw [hq4.2]; exact e3⟩
      show rd σ2 2 _ = _
      rw [cls 2 _ (by omega), P3 (p % 30) m1' (by omega)]
      exact e1
  · exact hbk r W (fun k k1 k2 => hS _ _ (not_inS (fun e he z => by have := SP_rows e he; omega))) hW hW2 hb
