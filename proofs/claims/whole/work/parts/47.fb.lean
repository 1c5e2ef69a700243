/-! LOOKING AHEAD: the reference -/
theorem lM_setAside {d : Nat} {Φ : Po} {σ0 : Sg} (h : ∀ σ' : Sg, Fr [(129, 0, 84), (120, 24, 25), (120, 28, 29)] σ0 σ' → (∀ k, 8 ≤ k → k < 84 → gI σ' 129 k = gI σ0 121 k) → rd σ' 120 24 = 0 → rd σ' 120 28 = 0 → Φ none σ') :
    ∀ (n : Nat) (σ : Sg) (x : Int32), x.toInt + n = 84 → 8 ≤ x.toInt → Fr [(129, 0, 84), (120, 24, 25), (120, 28, 29)] σ0 σ → (∀ k : Nat, 8 ≤ k → (k : Int) < x.toInt → gI σ 129 k = gI σ0 121 k) → bM_setAside_3 true NOB (wp true d) Φ (kM_setAside d Φ) [.ref 120, .int x] [] σ
  | 0, σ, x, hx, h0, hF, hk => by
    simp only [pI, pL, pR, pV, i10, ↓reduceIte, eM_setAside_3, eM_setAside_27]
    simp only [ile, show (84 : Int32).toInt = 84 from rfl]
    rw [if_pos (by omega)]
    refine h _ (hF.tr ((Fr.sI (by decide)).tr (Fr.sI (by decide)))) (fun k k1 k2 => ?_) ?_ ?_
    · rw [gIne (by omega), gIne (by omega)]
      exact hk k k1 (by omega)
    · rw [rdne2 (by omega), rdeq]; rfl
    · rw [rdeq]; rfl
  | n + 1, σ, x, hx, h0, hF, hk => by
    simp only [pI, pL, pR, pV, i10, ↓reduceIte, eM_setAside_3]
    simp only [ile, show (84 : Int32).toInt = 84 from rfl]
    rw [if_neg (by omega)]
    have hxx := ix_to (x := x) (by omega)
    refine ⟨⟨by omega, by omega⟩, ⟨by omega, by omega⟩, hM_setAside_3 _ _ _ _ _ (lM_setAside h n _ (x + 1) ?_ ?_ (hF.tr (Fr.sI (inS_r (lo := 0) (hi := 84) (by decide) (by omega)))) (fun k k1 k2 => ?_))⟩
    · rw [t1 (by omega)]; omega
    · rw [t1 (by omega)]; omega
    · rw [t1 (by omega)] at k2
      by_cases e : k = ix x
      · rw [e, gIeq]
        exact hF.1 121 _ (by
          unfold inS
          simp only [List.any_cons, List.any_nil, nbeq (by decide : (129 : Nat) ≠ 121), nbeq (by decide : (120 : Nat) ≠ 121), Bool.false_and, Bool.or_false])
      · rw [gIne2 e]
        exact hk k k1 (by omega)
theorem sM_setAside {d : Nat} {Φ : Po} {σ : Sg} (h : ∀ σ' : Sg, Fr [(129, 0, 84), (120, 24, 25), (120, 28, 29)] σ σ' → (∀ k, 8 ≤ k → k < 84 → gI σ' 129 k = gI σ 121 k) → rd σ' 120 24 = 0 → rd σ' 120 28 = 0 → Φ none σ') : wp true (d + 1) nM_setAside [.ref 120] σ Φ := by
  apply wM_setAside
  simp only [pI, pL, pR, pV, i10, ↓reduceIte, eM_setAside_0]
  exact lM_setAside h 76 σ 8 rfl (by decide) Fr.rf (fun k k1 k2 => by have : (8 : Int32).toInt = 8 := rfl; omega)
theorem lM_putBack {d : Nat} {Φ : Po} {σ0 : Sg} (h : ∀ σ' : Sg, Fr [(121, 8, 84), (120, 24, 25)] σ0 σ' → (∀ k, 8 ≤ k → k < 84 → gI σ' 121 k = gI σ0 129 k) → gI σ' 120 24 = 1 → Φ none σ') :
    ∀ (n : Nat) (σ : Sg) (x : Int32), x.toInt + n = 84 → 8 ≤ x.toInt → Fr [(121, 8, 84), (120, 24, 25)] σ0 σ → (∀ k : Nat, 8 ≤ k → (k : Int) < x.toInt → gI σ 121 k = gI σ0 129 k) → bM_putBack_3 true NOB (wp true d) Φ (kM_putBack d Φ) [.ref 120, .int x] [] σ
  | 0, σ, x, hx, h0, hF, hk => by
    simp only [pI, pL, pR, pV, i10, ↓reduceIte, eM_putBack_3, eM_putBack_27]
    simp only [ile, show (84 : Int32).toInt = 84 from rfl]
    rw [if_pos (by omega)]
    refine h _ (hF.tr (Fr.sI (by decide))) (fun k k1 k2 => ?_) gIeq
    rw [gIne (by omega)]
    exact hk k k1 (by omega)
  | n + 1, σ, x, hx, h0, hF, hk => by
    simp only [pI, pL, pR, pV, i10, ↓reduceIte, eM_putBack_3]
    simp only [ile, show (84 : Int32).toInt = 84 from rfl]
    rw [if_neg (by omega)]
    have hxx := ix_to (x := x) (by omega)
    refine ⟨⟨by omega, by omega⟩, ⟨by omega, by omega⟩, hM_putBack_3 _ _ _ _ _ (lM_putBack h n _ (x + 1) ?_ ?_ (hF.tr (Fr.sI (inS_r (lo := 8) (hi := 84) (by decide) (by omega)))) (fun k k1 k2 => ?_))⟩
    · rw [t1 (by omega)]; omega
    · rw [t1 (by omega)]; omega
    · rw [t1 (by omega)] at k2
      by_cases e : k = ix x
      · rw [e, gIeq]
        exact hF.1 129 _ (by
          unfold inS
          simp only [List.any_cons, List.any_nil, nbeq (by decide : (121 : Nat) ≠ 129), nbeq (by decide : (120 : Nat) ≠ 129), Bool.false_and, Bool.or_false])
      · rw [gIne2 e]
        exact hk k k1 (by omega)
theorem sM_putBack {d : Nat} {Φ : Po} {σ : Sg} (h : ∀ σ' : Sg, Fr [(121, 8, 84), (120, 24, 25)] σ σ' → (∀ k, 8 ≤ k → k < 84 → gI σ' 121 k = gI σ 129 k) → gI σ' 120 24 = 1 → Φ none σ') : wp true (d + 1) nM_putBack [.ref 120] σ Φ := by
  apply wM_putBack
  simp only [pI, pL, pR, pV, i10, ↓reduceIte, eM_putBack_0]
  exact lM_putBack h 76 σ 8 rfl (by decide) Fr.rf (fun k k1 k2 => by have : (8 : Int32).toInt = 8 := rfl; omega)
abbrev FMg : Ls := FMc ++ [(120, 28, 29)]
theorem FMcg {σ σ' : Sg} (h : Fr FMc σ σ') : Fr FMg σ σ' := h.mo (fun e he => List.mem_append_left _ he)
theorem inFMg3 {k : Nat} : inS FMg 123 k = false := by
  unfold inS
  simp only [FMg, FMc, List.any_append, List.any_cons, List.any_nil, nbeq (by decide : (126 : Nat) ≠ 123), nbeq (by decide : (127 : Nat) ≠ 123), nbeq (by decide : (128 : Nat) ≠ 123), nbeq (by decide : (121 : Nat) ≠ 123), nbeq (by decide : (120 : Nat) ≠ 123), Bool.false_and, Bool.or_false]
theorem inFMgs : ∀ w, w < 6 → inS FMg 121 (12 + 8 * w) = false ∧ inS FMg 121 (60 + 4 * w) = false := by decide
theorem MEg {σ σ' : Sg} {E : En} (h : Fr FMg σ σ') (g : ME σ E) : ME σ' E :=
  ME.of ⟨h.rd rfl, h.rd rfl, h.rd rfl⟩ (fun w hw => h.rd (inFMgs w hw).1) (fun w hw => h.rd (inFMgs w hw).2) (fun _ => h.rd inFMg3) g
theorem sM_goOn {d : Nat} {Φ : Po} {E : En} {c : Co} {σ : Sg} (hO : Ok E c) (hE : ME σ E) (hc : mc σ 121 = c) (hT : TkOk E c) (hi : rd σ 120 24 = 0) (h28 : 0 ≤ rd σ 120 28 ∧ rd σ 120 28 ≤ 1000000) (h0 : c 42 = 9999 → Φ (some (.int 0)) σ) (h1 : c 42 < 9999 → ∀ σ' : Sg, Fr FMg σ σ' → mc σ' 121 = (passF E c).1 → rd σ' 120 25 = (passF E c).2.1 → rd σ' 120 26 = (passF E c).2.2.1 → rd σ' 120 27 = (passF E c).2.2.2 → rd σ' 120 28 = rd σ 120 28 + (passF E c).2.2.2 → rd σ' 120 24 = 0 → Φ (some (.int 1)) σ') : wp true (d + 10) nM_goOn [.ref 120] σ Φ := by
  apply wM_goOn
  simp only [pI, pL, pR, pV, i10, ↓reduceIte, eM_goOn_0]
  have e8 : (gI σ 121 (ix 8)).toInt = c 42 := by rw [← hc]; rfl
  have cd : (gI σ 121 (ix 8) = 9999) = (c 42 = 9999) := by rw [ieq, e8]; rfl
  have hd := hO.2.2.1
  simp only [cd]
  refine ⟨⟨by decide, by decide⟩, ?_⟩
  split
  next z => exact h0 z
  next z =>
    simp only [pI, pL, pR, pV, i10, ↓reduceIte, eM_goOn_15]
    refine sM_pass hO hE hc hT (by omega) (Or.inl hi) (fun σ2 hF hc2 hw hf ht hA hB => ?_)
    simp only [pI, pL, pR, pV, i10, ↓reduceIte, eM_goOn_19]
    have hF2 := hA hi
    have hb := (passF_ok hO hT (by omega)).2.2.2.2.2.1
    have e27 : (gI σ2 120 27).toInt = (passF E c).2.2.2 := ht
    have e28 : (gI σ2 120 28).toInt = rd σ 120 28 := hF2.rd rfl
    refine h1 (by omega) _ ((FMcg hF2).tr (Fr.sI (by decide))) ?_ ?_ ?_ ?_ ?_ ?_
    · rw [mc_ne (by omega)]; exact hc2
    · rw [rdne2 (by omega)]; exact hw
    · rw [rdne2 (by omega)]; exact hf
    · rw [rdne2 (by omega)]; exact ht
    · rw [rdeq, tP (by rw [e27, e28]; omega), e27, e28]
    · rw [rdne2 (by omega), hF2.rd rfl]; exact hi
theorem canN_s {E : En} {c : Co} (hO : Ok E c) (hT : TkOk E c) (i : Nat) : (pasN E c (canN c i) 42 = 9999 → canN c (i + 1) = canN c i) ∧ (pasN E c (canN c i) 42 ≠ 9999 → canN c (i + 1) = canN c i + 1 ∧ pasN E c (canN c i) 42 < 9999) := by
  have hl := canN_le (n := i) hO.2.2.1
  have hp := (pasN_ok hO hT (canN c i) (by omega)).2.2.1
  rw [hp]
  have hd := hO.2.2.1
  unfold canN
  omega
/-- the way back -/
theorem put_fi {S : Ls} {σ σ1 σ2 σ3 : Sg} (hf : rd σ 120 24 = 1) (h1 : Fr [(129, 0, 84), (120, 24, 25), (120, 28, 29)] σ σ1) (h2 : ∀ k, 8 ≤ k → k < 84 → gI σ1 129 k = gI σ 121 k) (h3 : Fr S σ1 σ2) (h4 : Fr [(121, 8, 84), (120, 24, 25)] σ2 σ3) (h5 : ∀ k, 8 ≤ k → k < 84 → gI σ3 121 k = gI σ2 129 k) (h6 : gI σ3 120 24 = 1) (hS : ∀ e, e ∈ S → e ∈ MS ∨ e.1 = 121 ∧ 8 ≤ e.2.1 ∧ e.2.2 ≤ 84 ∨ e.1 = 120 ∧ 25 ≤ e.2.1 ∧ e.2.2 ≤ 40) (h129 : ∀ k, inS S 129 k = false) : Fi MS σ σ3 := by
  refine ⟨fun a k q => ?_, by rw [h4.2.2.2, h3.2.2.2, h1.2.2.2]⟩
  by_cases e2 : a = 121 ∧ 8 ≤ k ∧ k < 84
  · obtain ⟨rfl, k1, k2⟩ := e2
    rw [h5 k k1 k2, h3.1 129 k (h129 k), h2 k k1 k2]
  by_cases e3 : a = 120 ∧ k = 24
  · obtain ⟨rfl, rfl⟩ := e3
    rw [h6]
    exact (eqv (by show rd σ 120 24 = _; rw [hf]; rfl)).symm
  have qq : ∀ lo hi x, (x, lo, hi) ∈ MS → ¬ (x = a ∧ lo ≤ k ∧ k < hi) := fun lo hi x hm z => by
    obtain ⟨rfl, z2⟩ := z
    rw [inS_r hm z2] at q
    cases q
  have n4 : inS [(121, 8, 84), (120, 24, 25)] a k = false := by
    apply Bool.eq_false_iff.mpr
    intro z
    obtain ⟨e, he, g1, g2, g3⟩ := inS_ex z
    simp only [List.mem_cons, List.not_mem_nil, or_false] at he
    rcases he with rfl | rfl
    · exact e2 ⟨g1.symm, g2, g3⟩
    · exact e3 ⟨g1.symm, by have : 24 ≤ k := g2; have : k < 25 := g3; omega⟩
  have n3 : inS S a k = false := by
    apply Bool.eq_false_iff.mpr
    intro z
    obtain ⟨e, he, g1, g2, g3⟩ := inS_ex z
    rcases hS e he with m | m | m
    · obtain ⟨x, lo, hi⟩ := e
      exact qq lo hi x m ⟨g1, g2, g3⟩
    · exact e2 ⟨by omega, by omega, by omega⟩
    · exact qq 25 40 120 (by decide) ⟨by omega, by omega, by omega⟩
  have n1 : inS [(129, 0, 84), (120, 24, 25), (120, 28, 29)] a k = false := by
    apply Bool.eq_false_iff.mpr
    intro z
    obtain ⟨e, he, g1, g2, g3⟩ := inS_ex z
    simp only [List.mem_cons, List.not_mem_nil, or_false] at he
    rcases he with rfl | rfl | rfl
    · exact qq 0 84 129 (by decide) ⟨g1, g2, g3⟩
    · exact e3 ⟨g1.symm, by have : 24 ≤ k := g2; have : k < 25 := g3; omega⟩
    · exact qq 25 40 120 (by decide) ⟨g1, by have : 28 ≤ k := g2; omega, by have : k < 29 := g3; omega⟩
  rw [h4.1 a k n4, h3.1 a k n3, h1.1 a k n1]
theorem FMgsub : ∀ e, e ∈ FMg → e ∈ MS ∨ e.1 = 121 ∧ 8 ≤ e.2.1 ∧ e.2.2 ≤ 84 ∨ e.1 = 120 ∧ 25 ≤ e.2.1 ∧ e.2.2 ≤ 40 := by decide
theorem FMg129 : ∀ k, inS FMg 129 k = false := fun k => by
  unfold inS
  simp only [FMg, FMc, List.any_append, List.any_cons, List.any_nil, nbeq (by decide : (126 : Nat) ≠ 129), nbeq (by decide : (127 : Nat) ≠ 129), nbeq (by decide : (128 : Nat) ≠ 129), nbeq (by decide : (121 : Nat) ≠ 129), nbeq (by decide : (120 : Nat) ≠ 129), Bool.false_and, Bool.or_false]
theorem aside_me {σ σ1 : Sg} {E : En} (h : Fr [(129, 0, 84), (120, 24, 25), (120, 28, 29)] σ σ1) (g : ME σ E) : ME σ1 E := by
  have no : ∀ a k, a = 121 ∨ a = 123 → inS [(129, 0, 84), (120, 24, 25), (120, 28, 29)] a k = false := fun a k q => by
    unfold inS
    simp only [List.any_cons, List.any_nil, Bool.or_false, Bool.or_eq_false_iff, Bool.and_eq_false_iff]
    exact ⟨Or.inl (nbeq (by omega)), Or.inl (nbeq (by omega)), Or.inl (nbeq (by omega))⟩
  exact ME.of ⟨h.rd (no _ _ (Or.inl rfl)), h.rd (no _ _ (Or.inl rfl)), h.rd (no _ _ (Or.inl rfl))⟩ (fun _ _ => h.rd (no _ _ (Or.inl rfl))) (fun _ _ => h.rd (no _ _ (Or.inl rfl))) (fun _ => h.rd (no _ _ (Or.inr rfl))) g
theorem aside_mc {σ σ1 : Sg} (h : Fr [(129, 0, 84), (120, 24, 25), (120, 28, 29)] σ σ1) : mc σ1 121 = mc σ 121 := Fr_mc h (fun k _ => by
    unfold inS
    simp only [List.any_cons, List.any_nil, Bool.or_false, Bool.or_eq_false_iff, Bool.and_eq_false_iff]
    exact ⟨Or.inl (nbeq (by omega)), Or.inl (nbeq (by omega)), Or.inl (nbeq (by omega))⟩)
theorem R.fl {lws : Lws} {σ : Sg} (h : R lws σ) : rd σ 120 24 = 1 := h.2.2.2.2.2.2.2.2.1
theorem lM_behind {d : Nat} {Φ : Po} {E : En} {c : Co} {nI plI : Int32} {σ0 : Sg} (hO : Ok E c) (hT : TkOk E c) (hE : ME σ0 E) (hi : rd σ0 120 24 = 0) (hn : nI.toInt ≤ 60) (hp : 0 ≤ plI.toInt ∧ plI.toInt < 84)
    (h : ∀ (σ2 σ3 : Sg) (v : Int32), Fr FMg σ0 σ2 → mc σ2 121 = pasN E c (canN c (ix nI)) → rd σ2 120 28 = tkN E c (canN c (ix nI)) → Fr [(121, 8, 84), (120, 24, 25)] σ2 σ3 → (∀ k, 8 ≤ k → k < 84 → gI σ3 121 k = gI σ2 129 k) → gI σ3 120 24 = 1 → v = gI σ2 121 (ix plI) → Φ (some (.int v)) σ3) :
    ∀ (n : Nat) (σ : Sg) (x : Int32), x.toInt + n = nI.toInt → 0 ≤ x.toInt → Fr FMg σ0 σ → mc σ 121 = pasN E c (canN c (ix x)) → rd σ 120 28 = tkN E c (canN c (ix x)) → rd σ 120 24 = 0 → bM_behind_6 true NOB (wp true (d + 10)) Φ (kM_behind (d + 10) Φ) [.ref 120, .int nI, .int plI, .int x] [] σ
  | 0, σ, x, hx, h0, hF, hc, ht, hz => by
    simp only [pI, pL, pR, pV, i10, ↓reduceIte, eM_behind_6, eM_behind_22]
    simp only [ile]
    rw [if_pos (by omega)]
    have hxx := ix_to h0
    have : ix x = ix nI := by unfold ix; omega
    rw [this] at hc ht
    refine ⟨⟨by omega, by omega⟩, ?_⟩
    refine sM_putBack (fun σ3 h4 h5 h6 => ?_)
    simp only [pI, pL, pR, pV, i10, ↓reduceIte, eM_behind_33]
    exact h σ σ3 _ hF hc ht h4 h5 h6 rfl
  | n + 1, σ, x, hx, h0, hF, hc, ht, hz => by
    simp only [pI, pL, pR, pV, i10, ↓reduceIte, eM_behind_6]
    simp only [ile]
    rw [if_neg (by omega)]
    have hxx := ix_to h0
    have hl := canN_le (n := ix x) hO.2.2.1
    obtain ⟨o1, o2, o3, o4⟩ := pasN_ok hO hT (canN c (ix x)) (by omega)
    obtain ⟨s1, s2⟩ := canN_s hO hT (ix x)
    refine sM_goOn o1 (MEg hF hE) hc o2 hz (by rw [ht]; omega) (fun q => ?_) (fun q σ2 hF2 hc2 hw hf ht2 hs hz2 => ?_)
    · simp only [pI, pL, pR, pV, i10, ↓reduceIte, eM_behind_15]
      refine hM_behind_6 _ _ _ _ _ (lM_behind hO hT hE hi hn hp h n σ (x + 1) ?_ ?_ hF ?_ ?_ hz)
      · rw [t1 (by omega)]; omega
      · rw [t1 (by omega)]; omega
      · rw [ix1 (by omega), s1 q]; exact hc
      · rw [ix1 (by omega), s1 q]; exact ht
    · simp only [pI, pL, pR, pV, i10, ↓reduceIte, eM_behind_15]
      have e := (s2 (by omega)).1
      refine hM_behind_6 _ _ _ _ _ (lM_behind hO hT hE hi hn hp h n σ2 (x + 1) ?_ ?_ (hF.tr hF2) ?_ ?_ hz2)
      · rw [t1 (by omega)]; omega
      · rw [t1 (by omega)]; omega
      · rw [ix1 (by omega), e]; exact hc2
      · rw [ix1 (by omega), e, hs, ht]; rfl
theorem sM_behind {d : Nat} {Φ : Po} {lws : Lws} {nI plI : Int32} {σ : Sg} (hR : R lws σ) (hn : 0 ≤ nI.toInt ∧ nI.toInt ≤ 60) (hp : 0 ≤ plI.toInt ∧ plI.toInt < 84) (h : ∀ (σ' σ2 : Sg) (v : Int32), Fi MS σ σ' → mc σ2 121 = pasN (EE lws σ) (mc σ 121) (canN (mc σ 121) (ix nI)) → v.toInt = rd σ2 121 (ix plI) → rd σ' 120 28 = tkN (EE lws σ) (mc σ 121) (canN (mc σ 121) (ix nI)) → Φ (some (.int v)) σ') : wp true (d + 11) nM_behind [.ref 120, .int nI, .int plI] σ Φ := by
  apply wM_behind
  simp only [pI, pL, pR, pV, i10, ↓reduceIte, eM_behind_0]
  have hO := hR.ok
  have hT := hR.tk
  refine sM_setAside (fun σ1 h1 h2 hz h28 => ?_)
  simp only [pI, pL, pR, pV, i10, ↓reduceIte, eM_behind_4]
  have c0 : canN (mc σ 121) 0 = 0 := by unfold canN; omega
  have hix := ix_to hn.1
  refine lM_behind hO hT (aside_me h1 hR.me) hz hn.2 hp (fun σ2 σ3 v h3 hc2 ht2 h4 h5 h6 hv => h σ3 σ2 v (put_fi hR.fl h1 h2 h3 h4 h5 h6 FMgsub FMg129) hc2 (by rw [hv]; rfl) (by rw [h4.rd rfl]; exact ht2)) (ix nI) σ1 0 (by rw [tl0]; omega) (by decide) Fr.rf ?_ ?_ hz
  · show _ = pasN _ _ (canN (mc σ 121) 0)
    simp only [c0]
    exact aside_mc h1
  · show _ = tkN _ _ (canN (mc σ 121) 0)
    simp only [c0]
    exact h28
def qForetold (n : Int32) (E : En) (c : Co) (_ : Nat → Int) : Int := if 1 ≤ n.toInt ∧ n.toInt ≤ 60 then tkN E c (canN c (ix n)) else -1
theorem p_foretold (n : Int32) : PairI Rel nX_foretold nM_foretold [.int n] := by
  refine qryJ (qForetold n) (fun lws σ Φ hR h => ?_) (fun lws σ Φ hR h => ?_)
  · apply wX_foretold
    simp only [pI, pL, pR, pV, i10, ↓reduceIte, eX_foretold_0]
    unfold qForetold at h
    refine sX_isFar (fun q => ?_) (fun q => ?_)
    · simp only [pI, pL, pR, pV, i10, ↓reduceIte, eX_foretold_4]
      refine sF_taken hR (by omega) (fun σ' v hF hv => ?_)
      simp only [pI, pL, pR, pV, i10, ↓reduceIte, eX_foretold_15, eX_foretold_19]
      exact h _ _ hF (by rw [if_pos q]; exact hv)
    · simp only [pI, pL, pR, pV, i10, ↓reduceIte, eX_foretold_4, eX_foretold_18, eX_foretold_19]
      exact h _ _ Fr.rf.fi (by rw [if_neg q]; rfl)
  · apply wM_foretold
    simp only [pI, pL, pR, pV, i10, ↓reduceIte, eM_foretold_0]
    unfold qForetold at h
    refine sM_isIn (fun q => ?_) (fun q => ?_)
    · rw [tl1, show (60 : Int32).toInt = 60 from rfl] at q
      simp only [pI, pL, pR, pV, i10, ↓reduceIte, eM_foretold_7]
      apply wM_takenIn
      simp only [pI, pL, pR, pV, i10, ↓reduceIte, eM_takenIn_0]
      refine sM_behind (d := 0) hR (by omega) (by decide) (fun σ' σ2 v hF hc hv ht => ?_)
      simp only [pI, pL, pR, pV, i10, ↓reduceIte, eM_takenIn_7]
      simp only [pI, pL, pR, pV, i10, ↓reduceIte, eM_foretold_15, eM_foretold_19]
      exact h _ _ hF (by rw [if_pos q]; exact ht)
    · rw [tl1, show (60 : Int32).toInt = 60 from rfl] at q
      simp only [pI, pL, pR, pV, i10, ↓reduceIte, eM_foretold_7, eM_foretold_18, eM_foretold_19]
      exact h _ _ Fr.rf.fi (by rw [if_neg q]; rfl)
def qPurse (n v : Int32) (E : En) (c : Co) (_ : Nat → Int) : Int := if (1 ≤ n.toInt ∧ n.toInt ≤ 60) ∧ (0 ≤ v.toInt ∧ v.toInt < eV E) then pasN E c (canN c (ix n)) (30 + ix v) else -1
theorem p_purse (n w : Int32) : PairI Rel nX_purse nM_purse [.int n, .int w] := by
  refine qryJ (qPurse n w) (fun lws σ Φ hR h => ?_) (fun lws σ Φ hR h => ?_)
  · apply wX_purse
    simp only [pI, pL, pR, pV, i10, ↓reduceIte, eX_purse_0]
    obtain ⟨-, e6, -, -, -, b1⟩ := hR.n
    have hn := hR.ok.2.1
    unfold qPurse at h
    refine sX_isFar (fun q => ?_) (fun q => ?_)
    · simp only [pI, pL, pR, pV, i10, ↓reduceIte, eX_purse_4]
      refine sW_isVillage (fun q2 => ?_) (fun q2 => ?_)
      · rw [e6] at q2
        simp only [pI, pL, pR, pV, i10, ↓reduceIte, eX_purse_15]
        have ep : (30 + w).toInt = 30 + w.toInt := tk (n := 30) rfl (by omega)
        have epx : ix (30 + w) = 30 + ix w := ixk (n := 30) rfl (by omega)
        refine sF_later hR (by omega) (by omega) (fun σ' v hF hv => ?_)
        simp only [pI, pL, pR, pV, i10, ↓reduceIte, eX_purse_30, eX_purse_34]
        exact h _ _ hF (by rw [if_pos ⟨q, q2⟩, hv, epx])
      · rw [e6] at q2
        simp only [pI, pL, pR, pV, i10, ↓reduceIte, eX_purse_15, eX_purse_33, eX_purse_34]
        exact h _ _ Fr.rf.fi (by rw [if_neg (fun z => q2 z.2)]; rfl)
    · simp only [pI, pL, pR, pV, i10, ↓reduceIte, eX_purse_4, eX_purse_33, eX_purse_34]
      exact h _ _ Fr.rf.fi (by rw [if_neg (fun z => q z.1)]; rfl)
  · apply wM_purse
    simp only [pI, pL, pR, pV, i10, ↓reduceIte, eM_purse_0]
    obtain ⟨-, -, -, e1, -, b1⟩ := hR.n
    have hn := hR.ok.2.1
    unfold qPurse at h
    refine sM_isIn (fun q => ?_) (fun q => ?_)
    · rw [tl1, show (60 : Int32).toInt = 60 from rfl] at q
      simp only [pI, pL, pR, pV, i10, ↓reduceIte, eM_purse_7]
      refine sM_isVillage b1 (fun q2 => ?_) (fun q2 => ?_)
      · rw [e1] at q2
        simp only [pI, pL, pR, pV, i10, ↓reduceIte, eM_purse_15]
        have w6 : 0 ≤ w.toInt ∧ w.toInt < 6 := by omega
        have hxx := ix_to q2.1
        have ep : (60 + 4 * w + 1).toInt = 61 + 4 * ix w := by
          simp only [ta, tm, Int32.reduceToInt]
          omega
        have epx : ix (60 + 4 * w + 1) = 61 + 4 * ix w := ix_of (by omega)
        refine sM_behind hR (by omega) (by omega) (fun σ' σ2 v hF hc hv ht => ?_)
        simp only [pI, pL, pR, pV, i10, ↓reduceIte, eM_purse_31, eM_purse_35]
        refine h _ _ hF ?_
        rw [if_pos ⟨q, q2⟩, hv, epx, ← hc, mc_at (by have := ix6 w6; omega), mix_p (ix6 w6)]
      · rw [e1] at q2
        simp only [pI, pL, pR, pV, i10, ↓reduceIte, eM_purse_15, eM_purse_34, eM_purse_35]
        exact h _ _ Fr.rf.fi (by rw [if_neg (fun z => q2 z.2)]; rfl)
    · rw [tl1, show (60 : Int32).toInt = 60 from rfl] at q
      simp only [pI, pL, pR, pV, i10, ↓reduceIte, eM_purse_7, eM_purse_34, eM_purse_35]
      exact h _ _ Fr.rf.fi (by rw [if_neg (fun z => q z.1)]; rfl)
def qOwed (n v : Int32) (E : En) (c : Co) (_ : Nat → Int) : Int := if (1 ≤ n.toInt ∧ n.toInt ≤ 60) ∧ (0 ≤ v.toInt ∧ v.toInt < eN E) then pasN E c (canN c (ix n)) (ix v) else -1000
theorem p_owed (n w : Int32) : PairI Rel nX_owed nM_owed [.int n, .int w] := by
  refine qryJ (qOwed n w) (fun lws σ Φ hR h => ?_) (fun lws σ Φ hR h => ?_)
  · apply wX_owed
    simp only [pI, pL, pR, pV, i10, ↓reduceIte, eX_owed_0]
    obtain ⟨e6, -, -, -, b1, -⟩ := hR.n
    have hn := hR.ok.1
    unfold qOwed at h
    refine sX_isFar (fun q => ?_) (fun q => ?_)
    · simp only [pI, pL, pR, pV, i10, ↓reduceIte, eX_owed_4]
      refine sW_isWind (fun q2 => ?_) (fun q2 => ?_)
      · rw [e6] at q2
        simp only [pI, pL, pR, pV, i10, ↓reduceIte, eX_owed_15]
        have ep : (0 + w).toInt = w.toInt := by rw [tk (n := 0) rfl (by omega)]; omega
        have epx : ix (0 + w) = ix w := by rw [ixk (n := 0) rfl (by omega)]; omega
        refine sF_later hR (by omega) (by omega) (fun σ' v hF hv => ?_)
        simp only [pI, pL, pR, pV, i10, ↓reduceIte, eX_owed_29, eX_owed_35]
        exact h _ _ hF (by rw [if_pos ⟨q, q2⟩, hv, epx])
      · rw [e6] at q2
        simp only [pI, pL, pR, pV, i10, ↓reduceIte, eX_owed_15, eX_owed_32, eX_owed_35]
        exact h _ _ Fr.rf.fi (by rw [if_neg (fun z => q2 z.2)]; rfl)
    · simp only [pI, pL, pR, pV, i10, ↓reduceIte, eX_owed_4, eX_owed_32, eX_owed_35]
      exact h _ _ Fr.rf.fi (by rw [if_neg (fun z => q z.1)]; rfl)
  · apply wM_owed
    simp only [pI, pL, pR, pV, i10, ↓reduceIte, eM_owed_0]
    obtain ⟨-, -, e1, -, b1, -⟩ := hR.n
    have hn := hR.ok.1
    unfold qOwed at h
    refine sM_isIn (fun q => ?_) (fun q => ?_)
    · rw [tl1, show (60 : Int32).toInt = 60 from rfl] at q
      simp only [pI, pL, pR, pV, i10, ↓reduceIte, eM_owed_7]
      refine sM_isWind b1 (fun q2 => ?_) (fun q2 => ?_)
      · rw [e1] at q2
        simp only [pI, pL, pR, pV, i10, ↓reduceIte, eM_owed_15]
        have w6 : 0 ≤ w.toInt ∧ w.toInt < 6 := by omega
        have hxx := ix_to q2.1
        have ep : (12 + 8 * w + 3).toInt = 15 + 8 * ix w := by
          simp only [ta, tm, Int32.reduceToInt]
          omega
        have epx : ix (12 + 8 * w + 3) = 15 + 8 * ix w := ix_of (by omega)
        refine sM_behind hR (by omega) (by omega) (fun σ' σ2 v hF hc hv ht => ?_)
        simp only [pI, pL, pR, pV, i10, ↓reduceIte, eM_owed_32, eM_owed_38]
        refine h _ _ hF ?_
        rw [if_pos ⟨q, q2⟩, hv, epx, ← hc, mc_at (by have := ix6 w6; omega), mix_o (ix6 w6)]
      · rw [e1] at q2
        simp only [pI, pL, pR, pV, i10, ↓reduceIte, eM_owed_15, eM_owed_35, eM_owed_38]
        exact h _ _ Fr.rf.fi (by rw [if_neg (fun z => q2 z.2)]; rfl)
    · rw [tl1, show (60 : Int32).toInt = 60 from rfl] at q
      simp only [pI, pL, pR, pV, i10, ↓reduceIte, eM_owed_7, eM_owed_35, eM_owed_38]
      exact h _ _ Fr.rf.fi (by rw [if_neg (fun z => q z.1)]; rfl)
