/-! TEXTS, TAPE; the whole relation; queries -/
def ClR (σ : Sg) (t k : Nat) : Prop := rd σ (92 + 5 * t) (4 * k) = rd σ 123 (705 * t + 1 + 4 * k) ∧ (0 ≤ rd σ 123 (705 * t + 1 + 4 * k) ∧ rd σ 123 (705 * t + 1 + 4 * k) ≤ 10) ∧ (5 ≤ rd σ 123 (705 * t + 1 + 4 * k) → rd σ (92 + 5 * t) (4 * k + 1) = rd σ 123 (705 * t + 2 + 4 * k)) ∧ (5 ≤ rd σ 123 (705 * t + 1 + 4 * k) → rd σ 123 (705 * t + 1 + 4 * k) ≠ 10 → rd σ (92 + 5 * t) (4 * k + 2) = rd σ 123 (705 * t + 3 + 4 * k)) ∧ (rd σ 123 (705 * t + 1 + 4 * k) = 5 ∨ rd σ 123 (705 * t + 1 + 4 * k) = 7 ∨ rd σ 123 (705 * t + 1 + 4 * k) = 8 → rd σ (92 + 5 * t) (4 * k + 3) = rd σ 123 (705 * t + 4 + 4 * k)) ∧ (rd σ 123 (705 * t + 1 + 4 * k) = 10 → 0 ≤ rd σ 123 (705 * t + 2 + 4 * k) ∧ rd σ 123 (705 * t + 2 + 4 * k) ≤ 60)
def Tx1 (lws : Lws) (σ : Sg) (t : Nat) : Prop := rd σ (88 + 5 * t) 5 = rd σ 123 (705 * t) ∧ (0 ≤ rd σ 123 (705 * t) ∧ rd σ 123 (705 * t) ≤ 24) ∧ (∀ k : Nat, (k : Int) < rd σ 123 (705 * t) → ClR σ t k) ∧ (∀ l, l < 5 → TxL σ t l (lws t l) ∧ MxL σ t l (lws t l))
def fT : Ls := (List.range 20).map (fun i => (88 + i, 0, 1000)) ++ [(121, 2, 3), (123, 0, 2820)]
def RT (lws : Lws) (σ : Sg) : Prop := (∀ t : Nat, t < 4 → (t : Int) < rd σ 121 2 → Tx1 lws σ t) ∧ (∀ t l ops, t < 4 → l < 5 → lws t l = some ops → ops.length ≤ 300 ∧ Wf l ops 0 0 (if l = 0 then 0 else 1) (if l = 0 then 1 else 0))
theorem CodeAt_b {σ σ' : Sg} {t : Nat} (hc : ∀ k, k < 300 → rd σ' (89 + 5 * t) k = rd σ (89 + 5 * t) k) : ∀ (ops : List (Int × Int)) (i : Nat), i + ops.length ≤ 300 → CodeAt σ t i ops → CodeAt σ' t i ops
  | [], _, _, _ => trivial
  | (o, v) :: r, i, hl, ⟨h1, h2⟩ => ⟨(hc i (by simp at hl; omega)).trans h1, CodeAt_b hc r (i + 1) (by simp at hl ⊢; omega) h2⟩
theorem MCode_b {σ σ' : Sg} {t : Nat} (ht : t < 4) (hc : ∀ k, k < 2820 → rd σ' 123 k = rd σ 123 k) : ∀ (ops : List (Int × Int)) (i : Nat), i + ops.length ≤ 300 → MCode σ t i ops → MCode σ' t i ops
  | [], _, _, _ => trivial
  | (o, v) :: r, i, hl, ⟨⟨h1, h3⟩, h2⟩ => ⟨⟨(hc _ (by simp at hl; omega)).trans h1, (hc _ (by simp at hl; omega)).trans h3⟩, MCode_b ht hc r (i + 1) (by simp at hl ⊢; omega) h2⟩
theorem Tx1.of {lws : Lws} {σ σ' : Sg} {t : Nat} (ht : t < 4) (hx : ∀ x k, 88 + 5 * t ≤ x → x < 93 + 5 * t → k < 400 → rd σ' x k = rd σ x k) (hm : ∀ k, k < 2820 → rd σ' 123 k = rd σ 123 k) (g : Tx1 lws σ t) : Tx1 lws σ' t := by
  obtain ⟨g1, g2, g3, g4⟩ := g
  have e0 := hm (705 * t) (by omega)
  refine ⟨by rw [hx _ _ (by omega) (by omega) (by omega), e0]; exact g1, by rw [e0]; exact g2, fun k hk => ?_, fun l hl => ⟨?_, ?_⟩⟩
  · rw [e0] at hk
    have := g3 k hk
    unfold ClR at *
    rw [hx (92 + 5 * t) (4 * k) (by omega) (by omega) (by omega), hx (92 + 5 * t) (4 * k + 1) (by omega) (by omega) (by omega), hx (92 + 5 * t) (4 * k + 2) (by omega) (by omega) (by omega), hx (92 + 5 * t) (4 * k + 3) (by omega) (by omega) (by omega), hm _ (by omega), hm _ (by omega), hm _ (by omega), hm _ (by omega)]
    exact this
  · have h := (g4 l hl).1
    cases hq : lws t l with
    | none =>
      rw [hq] at h
      show rd σ' (90 + 5 * t) l = -1
      rw [hx _ _ (by omega) (by omega) (by omega)]
      exact h
    | some ops =>
      rw [hq] at h
      obtain ⟨b1, b2, b3, b4⟩ := h
      show 0 ≤ rd σ' (90 + 5 * t) l ∧ rd σ' (91 + 5 * t) l = rd σ' (90 + 5 * t) l + ops.length ∧ rd σ' (91 + 5 * t) l ≤ 300 ∧ CodeAt σ' t (rd σ' (90 + 5 * t) l).toNat ops
      rw [hx (90 + 5 * t) _ (by omega) (by omega) (by omega), hx (91 + 5 * t) _ (by omega) (by omega) (by omega)]
      exact ⟨b1, b2, b3, CodeAt_b (fun k hk => hx _ _ (by omega) (by omega) (by omega)) _ _ (by omega) b4⟩
  · have h := (g4 l hl).2
    cases hq : lws t l with
    | none =>
      rw [hq] at h
      intro k hk
      rw [e0] at hk
      rw [hm _ (by omega)]
      exact h k hk
    | some ops =>
      rw [hq] at h
      obtain ⟨k, h1, h2, h3, h4, h5, h6, h7⟩ := h
      refine ⟨k, by rw [e0]; exact h1, by rw [hm _ (by omega)]; exact h2, fun j hj => by rw [hm _ (by omega)]; exact h3 j hj, by rw [hm _ (by omega)]; exact h4, by rw [hm _ (by omega), hm _ (by omega)]; exact h5, by rw [hm _ (by omega)]; exact h6, ?_⟩
      rw [hm _ (by omega)]
      exact MCode_b ht hm _ _ (by omega) h7
theorem RT.of {lws : Lws} {σ σ' : Sg} (h : Eqc fT σ σ') (g : RT lws σ) : RT lws σ' := by
  refine ⟨fun t ht hn => ?_, g.2⟩
  rw [h.at (a := 121) (lo := 2) (hi := 3) (by simp [fT]) (by omega)] at hn
  refine Tx1.of ht (fun x k h1 h2 hk => h.at (lo := 0) (hi := 1000) (by
    unfold fT
    refine List.mem_append_left _ (List.mem_map.mpr ⟨x - 88, List.mem_range.mpr (by omega), ?_⟩)
    rw [show 88 + (x - 88) = x from by omega]) (by omega)) (fun k hk => h.at (lo := 0) (hi := 2820) (by simp [fT]) (by omega)) (g.1 t ht hn)
/-- the tape, the latest fault, the flag of the book, the image's texts -/
def fF : Ls := [(0, 4, 5), (120, 4, 7), (82, 0, 300), (124, 0, 300), (83, 13, 15), (120, 24, 25), (121, 2, 3), (122, 2, 3)]
def RF (σ : Sg) : Prop := rd σ 0 4 = rd σ 120 4 ∧ (0 ≤ rd σ 120 4 ∧ rd σ 120 4 ≤ 300) ∧ (∀ k : Nat, k < 300 → (k : Int) < rd σ 120 4 → rd σ 82 k = rd σ 124 k ∧ 0 ≤ rd σ 124 k ∧ rd σ 124 k ≤ 255) ∧ rd σ 83 13 = rd σ 120 5 ∧ rd σ 83 14 = rd σ 120 6 ∧ rd σ 120 24 = 1 ∧ rd σ 122 2 ≤ rd σ 121 2
theorem RF.of {σ σ' : Sg} (h : Eqc fF σ σ') (g : RF σ) : RF σ' := by
  obtain ⟨g1, g2, g3, g4, g5, g6, g7⟩ := g
  have e4 : rd σ' 120 4 = rd σ 120 4 := h.at (lo := 4) (hi := 7) (by simp [fF]) (by omega)
  have e5 : rd σ' 120 5 = rd σ 120 5 := h.at (lo := 4) (hi := 7) (by simp [fF]) (by omega)
  have e6 : rd σ' 120 6 = rd σ 120 6 := h.at (lo := 4) (hi := 7) (by simp [fF]) (by omega)
  refine ⟨by rw [h.at (a := 0) (lo := 4) (hi := 5) (by simp [fF]) (by omega), e4]; exact g1, by rw [e4]; exact g2, fun k hk hq => ?_, ?_, ?_, ?_, ?_⟩
  · rw [e4] at hq
    rw [h.at (a := 82) (lo := 0) (hi := 300) (by simp [fF]) (by omega), h.at (a := 124) (lo := 0) (hi := 300) (by simp [fF]) (by omega)]
    exact g3 k hk hq
  · rw [e5, h.at (a := 83) (lo := 13) (hi := 15) (by simp [fF]) (by omega)]; exact g4
  · rw [e6, h.at (a := 83) (lo := 13) (hi := 15) (by simp [fF]) (by omega)]; exact g5
  · rw [h.at (a := 120) (lo := 24) (hi := 25) (by simp [fF]) (by omega)]; exact g6
  · rw [h.at (a := 121) (lo := 2) (hi := 3) (by simp [fF]) (by omega), h.at (a := 122) (lo := 2) (hi := 3) (by simp [fF]) (by omega)]; exact g7
def RA (D : Int) (b a : Nat) (σ : Sg) : Prop := G1 b a σ ∧ G2 b a σ ∧ G3 b a σ ∧ G4 b a σ ∧ G5 b a σ ∧ G6 b a σ ∧ G7 b a σ ∧ G8 b a σ ∧ G9 D b a σ
def fA (b a : Nat) : Ls := fG1 b a ++ (fG2 b a ++ (fG3 b a ++ (fG4 b a ++ (fG5 b a ++ (fG6 b a ++ (fG7 b a ++ (fG8 b a ++ fG9 b a)))))))
theorem RA.of {D : Int} {b a : Nat} {σ σ' : Sg} (h : Eqc (fA b a) σ σ') (g : RA D b a σ) : RA D b a σ' := by
  obtain ⟨g1, g2, g3, g4, g5, g6, g7, g8, g9⟩ := g
  unfold fA at h
  have h2 := h.mo (fun e he => List.mem_append_right _ he)
  have h3 := h2.mo (fun e he => List.mem_append_right _ he)
  have h4 := h3.mo (fun e he => List.mem_append_right _ he)
  have h5 := h4.mo (fun e he => List.mem_append_right _ he)
  have h6 := h5.mo (fun e he => List.mem_append_right _ he)
  have h7 := h6.mo (fun e he => List.mem_append_right _ he)
  have h8 := h7.mo (fun e he => List.mem_append_right _ he)
  exact ⟨G1.of (h.mo (fun e he => List.mem_append_left _ he)) g1, G2.of (h2.mo (fun e he => List.mem_append_left _ he)) g2, G3.of (h3.mo (fun e he => List.mem_append_left _ he)) g3, G4.of (h4.mo (fun e he => List.mem_append_left _ he)) g4, G5.of (h5.mo (fun e he => List.mem_append_left _ he)) g5, G6.of (h6.mo (fun e he => List.mem_append_left _ he)) g6, G7.of (h7.mo (fun e he => List.mem_append_left _ he)) g7, G8.of (h8.mo (fun e he => List.mem_append_left _ he)) g8, G9.of (h8.mo (fun e he => List.mem_append_right _ he)) g9⟩
/-- THE RELATION -/
def R (lws : Lws) (σ : Sg) : Prop := RA 0 0 121 σ ∧ RA 0 40 122 σ ∧ RT lws σ ∧ RF σ
def Rel (σ : Sg) : Prop := ∃ lws, R lws σ
/-- what calls use and nothing is kept in -/
abbrev XS : Ls := [(83, 0, 13), (84, 0, 64), (85, 0, 3), (86, 0, 1), (87, 0, 1000), (109, 0, 64), (110, 2, 5), (111, 3, 9), (112, 0, 75), (113, 0, 60), (114, 0, 6), (116, 0, 6), (117, 0, 6), (118, 0, 100), (119, 0, 65)]
abbrev MS : Ls := [(120, 7, 24), (120, 25, 40), (125, 0, 160), (126, 0, 8), (127, 0, 330), (128, 0, 330), (129, 0, 84), (130, 0, 6), (131, 0, 6), (132, 0, 5), (133, 0, 60), (134, 0, 6), (135, 0, 100), (136, 0, 6000)]
theorem R.of {lws : Lws} {σ σ' : Sg} (h1 : Eqc (fA 0 121) σ σ') (h2 : Eqc (fA 40 122) σ σ') (h3 : Eqc fT σ σ') (h4 : Eqc fF σ σ') (g : R lws σ) : R lws σ' := ⟨RA.of h1 g.1, RA.of h2 g.2.1, RT.of h3 g.2.2.1, RF.of h4 g.2.2.2⟩
theorem R.xs {lws : Lws} {σ σ' : Sg} (h : Fr XS σ σ') (g : R lws σ) : R lws σ' := R.of (h.eqc (by decide +kernel)) (h.eqc (by decide +kernel)) (h.eqc (by decide +kernel)) (h.eqc (by decide +kernel)) g
theorem R.ms {lws : Lws} {σ σ' : Sg} (h : Fr MS σ σ') (g : R lws σ) : R lws σ' := R.of (h.eqc (by decide +kernel)) (h.eqc (by decide +kernel)) (h.eqc (by decide +kernel)) (h.eqc (by decide +kernel)) g
theorem R.ok {lws : Lws} {σ : Sg} (h : R lws σ) : Ok (EE lws σ) (mc σ 121) := h.1.2.2.2.2.2.2.1.2.1.1
theorem R.tk {lws : Lws} {σ : Sg} (h : R lws σ) : TkOk (EE lws σ) (mc σ 121) := h.1.2.2.2.2.2.2.1.2.1.2.1
theorem R.rc {lws : Lws} {σ : Sg} (h : R lws σ) : rc σ 2 = mc σ 121 := h.1.2.2.2.2.2.2.1.1
theorem R.lw {lws : Lws} {σ : Sg} (h : R lws σ) : LwOk (EE lws σ) := by
  intro l ops hl ho
  have h3 := h.1.2.2.1
  have ho : (if rd σ 121 3 < 0 then none else lws (rd σ 121 3).toNat l) = some ops := ho
  split at ho
  · cases ho
  · exact h.2.2.1.2 _ l ops (by have := h3.2.2.1; have := h3.2.2.2; omega) hl ho
theorem R.ce {lws : Lws} {σ : Sg} (h : R lws σ) : CE σ (EE lws σ) := by
  obtain ⟨a1, a2, a3, a4, a5, a6⟩ := h.1.1
  obtain ⟨b1, b2, b3, b4⟩ := h.1.2.2.1
  have hT := h.2.2.1
  refine ⟨?_, ?_, fun w hw => ?_, fun v hv => ?_, ⟨?_, ?_, ?_, ?_⟩, h.lw⟩
  · show rd σ 1 4 = ((rd σ 121 0).toNat : Int)
    have : rd σ 1 4 = rd σ 121 0 := a1
    omega
  · show rd σ 1 6 = ((rd σ 121 1).toNat : Int)
    have : rd σ 1 6 = rd σ 121 1 := a2
    omega
  · show rd σ 34 w = if w < 6 then rd σ 121 (12 + 8 * w) else 0
    rw [if_pos hw]; exact a3 w hw
  · show rd σ 35 v = if v < 6 then rd σ 121 (60 + 4 * v) else 0
    rw [if_pos hv]; exact a4 v hv
  · have : rd σ 1 9 = rd σ 121 2 := b1
    omega
  · have : rd σ 1 9 = rd σ 121 2 := b1
    have : rd σ 1 10 = rd σ 121 3 := b2
    omega
  · intro hr l
    have : rd σ 1 10 = rd σ 121 3 := b2
    show (if rd σ 121 3 < 0 then none else lws (rd σ 121 3).toNat l) = none
    rw [if_pos (by omega)]
  · intro t ht hr l hl
    have e : rd σ 1 10 = rd σ 121 3 := b2
    show TxL σ t l (if rd σ 121 3 < 0 then none else lws (rd σ 121 3).toNat l)
    have e3 : (rd σ 121 3).toNat = t := by omega
    rw [if_neg (by omega), e3]
    exact ((hT.1 t ht (by omega)).2.2.2 l hl).1
theorem R.me {lws : Lws} {σ : Sg} (h : R lws σ) : ME σ (EE lws σ) := by
  obtain ⟨a1, a2, a3, a4, a5, a6⟩ := h.1.1
  obtain ⟨b1, b2, b3, b4⟩ := h.1.2.2.1
  have hT := h.2.2.1
  refine ⟨?_, ?_, fun w hw => ?_, fun v hv => ?_, ⟨?_, ?_, ?_⟩, h.lw⟩
  · show rd σ 121 0 = ((rd σ 121 0).toNat : Int)
    omega
  · show rd σ 121 1 = ((rd σ 121 1).toNat : Int)
    omega
  · show rd σ 121 (12 + 8 * w) = if w < 6 then rd σ 121 (12 + 8 * w) else 0
    rw [if_pos hw]
  · show rd σ 121 (60 + 4 * v) = if v < 6 then rd σ 121 (60 + 4 * v) else 0
    rw [if_pos hv]
  · omega
  · intro hr l
    show (if rd σ 121 3 < 0 then none else lws (rd σ 121 3).toNat l) = none
    rw [if_pos (by omega)]
  · intro t ht hr
    have g := hT.1 t ht (by omega)
    refine ⟨g.2.1, fun l hl => ?_⟩
    show MxL σ t l (if rd σ 121 3 < 0 then none else lws (rd σ 121 3).toNat l)
    have e3 : (rd σ 121 3).toNat = t := by omega
    rw [if_neg (by omega), e3]
    exact (g.2.2.2 l hl).2
/-- pairs of calls, as the law makes them -/
def Sm (σ σ' : Sg) : Prop := (∀ k, gI σ' 95000 k = gI σ 95000 k) ∧ ln σ' = ln σ
theorem Sm.tr {a b c : Sg} (h : Sm a b) (g : Sm b c) : Sm a c := ⟨fun k => (g.1 k).trans (h.1 k), g.2.trans h.2⟩
def PairI (Rel : Sg → Prop) (x m : Nat) (as : List Value) : Prop := ∀ (σ : Sg), Rel σ → ∀ Φ : Po, (∀ (v : Int32) (σ' : Sg), Sm σ σ' → (∀ Ψ : Po, (∀ σ'' : Sg, Sm σ' σ'' → Rel σ'' → Ψ (some (.int v)) σ'') → wp true 13 m (.ref 120 :: as) σ' Ψ) → Φ (some (.int v)) σ') → wp true 13 x (.ref 0 :: as) σ Φ
def PairL (Rel : Sg → Prop) (x m : Nat) (as : List Value) : Prop := ∀ (σ : Sg), Rel σ → ∀ Φ : Po, (∀ (v : Int64) (σ' : Sg), Sm σ σ' → (∀ Ψ : Po, (∀ σ'' : Sg, Sm σ' σ'' → Rel σ'' → Ψ (some (.long v)) σ'') → wp true 13 m (.ref 120 :: as) σ' Ψ) → Φ (some (.long v)) σ') → wp true 13 x (.ref 0 :: as) σ Φ
theorem Fr.sm {S : Ls} {σ σ' : Sg} (h : Fr S σ σ') (e : S.all (fun e => !(Nat.beq e.1 95000)) = true) : Sm σ σ' := by
  refine ⟨fun k => h.1 _ _ ?_, h.2.2.2⟩
  apply Bool.eq_false_iff.mpr
  intro q
  obtain ⟨f, hf, f1, f2, f3⟩ := inS_ex q
  rw [List.all_eq_true] at e
  have := e f hf
  rw [f1] at this
  exact absurd this (by decide)
/-- a query: both answer Q of the same world -/
theorem qryI {x m : Nat} {as : List Value} (Q : En → Co → (Nat → Int) → Int)
    (hx : ∀ (lws : Lws) (σ : Sg) (Φ : Po), R lws σ → (∀ (v : Int32) (σ' : Sg), Fr XS σ σ' → v.toInt = Q (EE lws σ) (mc σ 121) (rd σ 121) → Φ (some (.int v)) σ') → wp true 13 x (.ref 0 :: as) σ Φ)
    (hm : ∀ (lws : Lws) (σ : Sg) (Φ : Po), R lws σ → (∀ (v : Int32) (σ' : Sg), Fr MS σ σ' → v.toInt = Q (EE lws σ) (mc σ 121) (rd σ 121) → Φ (some (.int v)) σ') → wp true 13 m (.ref 120 :: as) σ Φ) : PairI Rel x m as := by
  intro σ hR Φ h
  obtain ⟨lws, hR⟩ := hR
  refine hx lws σ Φ hR (fun v σ' hF hv => ?_)
  refine h v σ' (hF.sm (by decide)) (fun Ψ hΨ => ?_)
  refine hm lws σ' Ψ (hR.xs hF) (fun v2 σ'' hF2 hv2 => ?_)
  have e : v2 = v := by
    refine eqv ?_
    have e121 : rd σ' 121 = rd σ 121 := by
      funext k
      exact hF.rd (by unfold inS; simp only [List.any_cons, List.any_nil, nbeq (by decide : (83 : Nat) ≠ 121), nbeq (by decide : (84 : Nat) ≠ 121), nbeq (by decide : (85 : Nat) ≠ 121), nbeq (by decide : (86 : Nat) ≠ 121), nbeq (by decide : (87 : Nat) ≠ 121), nbeq (by decide : (109 : Nat) ≠ 121), nbeq (by decide : (110 : Nat) ≠ 121), nbeq (by decide : (111 : Nat) ≠ 121), nbeq (by decide : (112 : Nat) ≠ 121), nbeq (by decide : (113 : Nat) ≠ 121), nbeq (by decide : (114 : Nat) ≠ 121), nbeq (by decide : (116 : Nat) ≠ 121), nbeq (by decide : (117 : Nat) ≠ 121), nbeq (by decide : (118 : Nat) ≠ 121), nbeq (by decide : (119 : Nat) ≠ 121), Bool.false_and, Bool.or_false])
    have emc : mc σ' 121 = mc σ 121 := by unfold mc; rw [e121]
    have eE : EE lws σ' = EE lws σ := by unfold EE; rw [e121]
    rw [hv2, hv, e121, emc, eE]
  rw [e]
  exact hΨ σ'' (hF2.sm (by decide)) ⟨lws, (hR.xs hF).ms hF2⟩
theorem qryL {x m : Nat} {as : List Value} (Q : En → Co → (Nat → Int) → Int)
    (hx : ∀ (lws : Lws) (σ : Sg) (Φ : Po), R lws σ → (∀ (v : Int64) (σ' : Sg), Fr XS σ σ' → v.toInt = Q (EE lws σ) (mc σ 121) (rd σ 121) → Φ (some (.long v)) σ') → wp true 13 x (.ref 0 :: as) σ Φ)
    (hm : ∀ (lws : Lws) (σ : Sg) (Φ : Po), R lws σ → (∀ (v : Int64) (σ' : Sg), Fr MS σ σ' → v.toInt = Q (EE lws σ) (mc σ 121) (rd σ 121) → Φ (some (.long v)) σ') → wp true 13 m (.ref 120 :: as) σ Φ) : PairL Rel x m as := by
  intro σ hR Φ h
  obtain ⟨lws, hR⟩ := hR
  refine hx lws σ Φ hR (fun v σ' hF hv => ?_)
  refine h v σ' (hF.sm (by decide)) (fun Ψ hΨ => ?_)
  refine hm lws σ' Ψ (hR.xs hF) (fun v2 σ'' hF2 hv2 => ?_)
  have e : v2 = v := by
    refine Int64.toInt_inj.1 ?_
    have e121 : rd σ' 121 = rd σ 121 := by
      funext k
      exact hF.rd (by unfold inS; simp only [List.any_cons, List.any_nil, nbeq (by decide : (83 : Nat) ≠ 121), nbeq (by decide : (84 : Nat) ≠ 121), nbeq (by decide : (85 : Nat) ≠ 121), nbeq (by decide : (86 : Nat) ≠ 121), nbeq (by decide : (87 : Nat) ≠ 121), nbeq (by decide : (109 : Nat) ≠ 121), nbeq (by decide : (110 : Nat) ≠ 121), nbeq (by decide : (111 : Nat) ≠ 121), nbeq (by decide : (112 : Nat) ≠ 121), nbeq (by decide : (113 : Nat) ≠ 121), nbeq (by decide : (114 : Nat) ≠ 121), nbeq (by decide : (116 : Nat) ≠ 121), nbeq (by decide : (117 : Nat) ≠ 121), nbeq (by decide : (118 : Nat) ≠ 121), nbeq (by decide : (119 : Nat) ≠ 121), Bool.false_and, Bool.or_false])
    have emc : mc σ' 121 = mc σ 121 := by unfold mc; rw [e121]
    have eE : EE lws σ' = EE lws σ := by unfold EE; rw [e121]
    rw [hv2, hv, e121, emc, eE]
  rw [e]
  exact hΨ σ'' (hF2.sm (by decide)) ⟨lws, (hR.xs hF).ms hF2⟩
