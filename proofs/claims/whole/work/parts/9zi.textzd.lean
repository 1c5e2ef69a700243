/-! TEXTS: the reference's clause, its parts -/
noncomputable def preF (L : Nat) (B : Nat → Int) (o i : Nat) : Tr := if o = 5 then numT L B 0 99 (wrdT L B 13 (numT L B 1 9 (wrdT L B 14 (numT L B 0 3 (0, 0, i))))) else if o = 6 then numT L B 0 9999 (wrdT L B 17 (numT L B 0 9 (0, 0, i))) else if o = 10 then numT L B 1 60 (0, 0, i) else if o = 7 then numT L B 0 99 (wrdT L B 18 (numT L B 0 5 (wrdT L B 19 (numT L B 0 5 (0, 0, i))))) else if o = 8 then numT L B 1 999 (wrdT L B 18 (numT L B 0 5 (wrdT L B 19 (numT L B 0 5 (0, 0, i))))) else numT L B 0 5 (wrdT L B 19 (numT L B 0 5 (0, 0, i)))
theorem deed_pre {L o i : Nat} {B : Nat → Int} : (deedF L B o i).1 = wrdT L B 38 (preF L B o i) := by
  unfold deedF preF D3 D2 D1
  repeat' split
  all_goals rfl
theorem sM_bodyD {d : Nat} {Φ : Po} {L q i o : Nat} {B : Nat → Int} {σ0 σ : Sg} {x1 x2 : Int32} (ho : 5 ≤ o ∧ o ≤ 10) (hx1 : x1.toInt = (o : Nat)) (hx2 : x2.toInt = (q : Nat)) (g : DMt L B q σ0 i σ) (hq : q + 4 ≤ 2820)
    (h0 : (preF L B o i).1 = 0 → ∀ σ' : Sg, DMt L B q σ0 (preF L B o i).2.2 σ' → rd σ' 123 (q + 1) = (deedF L B o i).2.1 → (o ≠ 10 → rd σ' 123 (q + 2) = (deedF L B o i).2.2.1) → (o = 5 ∨ o = 7 ∨ o = 8 → rd σ' 123 (q + 3) = (deedF L B o i).2.2.2) → (∀ k, k < q + 1 ∨ q + 4 ≤ k → rd σ' 123 k = rd σ 123 k) → Φ (some (.int 0)) σ')
    (hf : (preF L B o i).1 ≠ 0 → FDd Φ q σ0 (preF L B o i).1 (preF L B o i).2.1) : wp true (d + 7) nM_body [.ref 120, .int x1, .int x2] σ Φ := by
  have nw : W2 116 111 ≠ W6 119 101 105 103 104 116 := by decide +kernel
  apply wM_body
  simp only [pI, pL, pR, pV, i10, ↓reduceIte, eM_body_0]
  simp only [hx1]
  unfold preF at h0 hf
  unfold deedF at h0
  have : o = 5 ∨ o = 6 ∨ o = 7 ∨ o = 8 ∨ o = 9 ∨ o = 10 := by omega
  rcases this with rfl | rfl | rfl | rfl | rfl | rfl
  · rw [if_pos rfl] at h0 hf
    rw [if_pos rfl] at h0
    rw [if_pos (show ((5 : Nat) : Int) = 5 from rfl)]
    simp only [pI, pL, pR, pV, i10, ↓reduceIte, eM_body_40]
    refine sM_w6 (d := d + 1) ?_
    simp only [pI, pL, pR, pV, i10, ↓reduceIte, eM_body_58]
    refine sM_w3 (d := d + 4) ?_
    simp only [pI, pL, pR, pV, i10, ↓reduceIte, eM_body_69]
    refine sM_three (d := d) (o1 := 14) (o2 := 13) (a1 := 3) (l2 := 1) (a2 := 9) (l3 := 0) (a3 := 99) (by decide) wd14 (by decide) wd13 ⟨fun _ => rfl, fun z => absurd rfl z⟩ g hq hx2 rfl rfl rfl rfl (by decide) (fun z σ' w1 w2 w3 w4 w5 => ?_) (fun z σ' v w1 w2 w3 => ?_)
    · simp only [pI, pL, pR, pV, i10, ↓reduceIte, eM_body_75]
      exact h0 z σ' w1 w2 (fun _ => w3) (fun _ => w4) w5
    · simp only [pI, pL, pR, pV, i10, ↓reduceIte, eM_body_75]
      exact hf z σ' v w1 w2 w3
  · rw [if_neg (by decide), if_pos rfl] at h0 hf
    rw [if_neg (by decide), if_pos rfl] at h0
    try rw [if_neg (by decide)]
    rw [if_pos (show ((6 : Nat) : Int) = 6 from rfl)]
    simp only [pI, pL, pR, pV, i10, ↓reduceIte, eM_body_76]
    refine sM_w5 (d := d + 2) ?_
    simp only [pI, pL, pR, pV, i10, ↓reduceIte, eM_body_93]
    refine sM_two0 (d := d + 1) (o := 17) (a1 := 9) (a2 := 9999) (by decide) wd17 g hq hx2 rfl rfl (by decide) (fun z σ' w1 w2 w3 w5 => ?_) (fun z σ' v w1 w2 w3 => ?_)
    · simp only [pI, pL, pR, pV, i10, ↓reduceIte, eM_body_99]
      exact h0 z σ' w1 w2 (fun _ => w3) (fun q => by omega) (fun k hk => w5 k (by omega))
    · simp only [pI, pL, pR, pV, i10, ↓reduceIte, eM_body_99]
      exact hf z σ' v w1 w2 w3
  · rw [if_neg (by decide), if_neg (by decide), if_neg (by decide), if_pos rfl] at h0 hf
    rw [if_neg (by decide), if_neg (by decide), if_neg (by decide), if_pos rfl] at h0
    try rw [if_neg (by decide)]
    try rw [if_neg (by decide)]
    rw [if_pos (show ((7 : Nat) : Int) = 7 from rfl)]
    simp only [pI, pL, pR, pV, i10, ↓reduceIte, eM_body_100]
    refine sM_w2 (d := d + 5) ?_
    simp only [pI, pL, pR, pV, i10, ↓reduceIte, eM_body_110]
    refine sM_w2 (d := d + 5) ?_
    simp only [pI, pL, pR, pV, i10, ↓reduceIte, eM_body_118]
    refine sM_three (d := d) (o1 := 19) (o2 := 18) (a1 := 5) (l2 := 0) (a2 := 5) (l3 := 0) (a3 := 99) (by decide) wd19 (by decide) wd18 ⟨fun z => absurd z nw, fun _ => rfl⟩ g hq hx2 rfl rfl rfl rfl (by decide) (fun z σ' w1 w2 w3 w4 w5 => ?_) (fun z σ' v w1 w2 w3 => ?_)
    · simp only [pI, pL, pR, pV, i10, ↓reduceIte, eM_body_124]
      exact h0 z σ' w1 w2 (fun _ => w3) (fun _ => w4) w5
    · simp only [pI, pL, pR, pV, i10, ↓reduceIte, eM_body_124]
      exact hf z σ' v w1 w2 w3
  · rw [if_neg (by decide), if_neg (by decide), if_neg (by decide), if_neg (by decide), if_pos rfl] at h0 hf
    rw [if_neg (by decide), if_neg (by decide), if_neg (by decide), if_neg (by decide), if_pos rfl] at h0
    try rw [if_neg (by decide)]
    try rw [if_neg (by decide)]
    try rw [if_neg (by decide)]
    rw [if_pos (show ((8 : Nat) : Int) = 8 from rfl)]
    simp only [pI, pL, pR, pV, i10, ↓reduceIte, eM_body_125]
    refine sM_w2 (d := d + 5) ?_
    simp only [pI, pL, pR, pV, i10, ↓reduceIte, eM_body_135]
    refine sM_w2 (d := d + 5) ?_
    simp only [pI, pL, pR, pV, i10, ↓reduceIte, eM_body_143]
    refine sM_three (d := d) (o1 := 19) (o2 := 18) (a1 := 5) (l2 := 0) (a2 := 5) (l3 := 1) (a3 := 999) (by decide) wd19 (by decide) wd18 ⟨fun z => absurd z nw, fun _ => rfl⟩ g hq hx2 rfl rfl rfl rfl (by decide) (fun z σ' w1 w2 w3 w4 w5 => ?_) (fun z σ' v w1 w2 w3 => ?_)
    · simp only [pI, pL, pR, pV, i10, ↓reduceIte, eM_body_150]
      exact h0 z σ' w1 w2 (fun _ => w3) (fun _ => w4) w5
    · simp only [pI, pL, pR, pV, i10, ↓reduceIte, eM_body_150]
      exact hf z σ' v w1 w2 w3
  · rw [if_neg (by decide), if_neg (by decide), if_neg (by decide), if_neg (by decide), if_neg (by decide)] at h0 hf
    rw [if_neg (by decide), if_neg (by decide), if_neg (by decide), if_neg (by decide), if_neg (by decide)] at h0
    try rw [if_neg (by decide)]
    try rw [if_neg (by decide)]
    try rw [if_neg (by decide)]
    try rw [if_neg (by decide)]
    rw [if_pos (show ((9 : Nat) : Int) = 9 from rfl)]
    simp only [pI, pL, pR, pV, i10, ↓reduceIte, eM_body_151]
    refine sM_w2 (d := d + 5) ?_
    simp only [pI, pL, pR, pV, i10, ↓reduceIte, eM_body_161]
    refine sM_two0 (d := d + 1) (o := 19) (a1 := 5) (a2 := 5) (by decide) wd19 g hq hx2 rfl rfl (by decide) (fun z σ' w1 w2 w3 w5 => ?_) (fun z σ' v w1 w2 w3 => ?_)
    · simp only [pI, pL, pR, pV, i10, ↓reduceIte, eM_body_165]
      exact h0 z σ' w1 w2 (fun _ => w3) (fun q => by omega) (fun k hk => w5 k (by omega))
    · simp only [pI, pL, pR, pV, i10, ↓reduceIte, eM_body_165]
      exact hf z σ' v w1 w2 w3
  · rw [if_neg (by decide), if_neg (by decide), if_pos rfl] at h0 hf
    rw [if_neg (by decide), if_neg (by decide), if_pos rfl] at h0
    try rw [if_neg (by decide)]
    try rw [if_neg (by decide)]
    try rw [if_neg (by decide)]
    try rw [if_neg (by decide)]
    try rw [if_neg (by decide)]
    rw [if_pos (show ((10 : Nat) : Int) = 10 from rfl)]
    simp only [pI, pL, pR, pV, i10, ↓reduceIte, eM_body_166]
    refine sM_figure (d := d + 3) (j := 1) (lo := 1) (hi := 60) g (by omega) hq (by rw [tq1 _ (by omega), hx2]; omega) rfl rfl (by decide) (fun z σ' w1 w2 w3 => ?_) (fun z σ' v w1 w2 w3 => ?_)
    · simp only [pI, pL, pR, pV, i10, ↓reduceIte, eM_body_176]
      exact h0 z σ' w1 w2 (fun q => by omega) (fun q => by omega) (fun k hk => w3 k (by omega))
    · simp only [pI, pL, pR, pV, i10, ↓reduceIte, eM_body_176]
      exact hf z σ' v w1 w2 w3
/-- the laws met, as bits -/
def on5 (b0 b1 b2 b3 b4 : Bool) : Int32 := cond b0 1 0 + cond b1 2 0 + cond b2 4 0 + cond b3 8 0 + cond b4 16 0
def onc (f : Nat → Bool) : Int32 := on5 (f 0) (f 1) (f 2) (f 3) (f 4)
theorem on5_has : ∀ b0 b1 b2 b3 b4 : Bool, ((on5 b0 b1 b2 b3 b4 >>> ((0 : Int32) &&& 31)) &&& 1 = 1 ↔ b0 = true) ∧ ((on5 b0 b1 b2 b3 b4 >>> ((1 : Int32) &&& 31)) &&& 1 = 1 ↔ b1 = true) ∧ ((on5 b0 b1 b2 b3 b4 >>> ((2 : Int32) &&& 31)) &&& 1 = 1 ↔ b2 = true) ∧ ((on5 b0 b1 b2 b3 b4 >>> ((3 : Int32) &&& 31)) &&& 1 = 1 ↔ b3 = true) ∧ ((on5 b0 b1 b2 b3 b4 >>> ((4 : Int32) &&& 31)) &&& 1 = 1 ↔ b4 = true) := by decide +kernel
theorem on5_or : ∀ b0 b1 b2 b3 b4 : Bool, on5 b0 b1 b2 b3 b4 ||| (1 <<< ((0 : Int32) &&& 31)) = on5 true b1 b2 b3 b4 ∧ on5 b0 b1 b2 b3 b4 ||| (1 <<< ((1 : Int32) &&& 31)) = on5 b0 true b2 b3 b4 ∧ on5 b0 b1 b2 b3 b4 ||| (1 <<< ((2 : Int32) &&& 31)) = on5 b0 b1 true b3 b4 ∧ on5 b0 b1 b2 b3 b4 ||| (1 <<< ((3 : Int32) &&& 31)) = on5 b0 b1 b2 true b4 ∧ on5 b0 b1 b2 b3 b4 ||| (1 <<< ((4 : Int32) &&& 31)) = on5 b0 b1 b2 b3 true := by decide +kernel
theorem x5 {x : Int32} {l : Nat} (hx : x.toInt = (l : Nat)) (hl : l < 5) : (l = 0 ∧ x = 0) ∨ (l = 1 ∧ x = 1) ∨ (l = 2 ∧ x = 2) ∨ (l = 3 ∧ x = 3) ∨ (l = 4 ∧ x = 4) := by
  have : l = 0 ∨ l = 1 ∨ l = 2 ∨ l = 3 ∨ l = 4 := by omega
  rcases this with rfl | rfl | rfl | rfl | rfl
  · exact Or.inl ⟨rfl, Int32.toInt_inj.mp hx⟩
  · exact Or.inr (Or.inl ⟨rfl, Int32.toInt_inj.mp hx⟩)
  · exact Or.inr (Or.inr (Or.inl ⟨rfl, Int32.toInt_inj.mp hx⟩))
  · exact Or.inr (Or.inr (Or.inr (Or.inl ⟨rfl, Int32.toInt_inj.mp hx⟩)))
  · exact Or.inr (Or.inr (Or.inr (Or.inr ⟨rfl, Int32.toInt_inj.mp hx⟩)))
theorem sM_hasL {d : Nat} {Φ : Po} {σ : Sg} {f : Nat → Bool} {x : Int32} {l : Nat} (hx : x.toInt = (l : Nat)) (hl : l < 5) (h1 : f l = true → Φ (some (.int 1)) σ) (h0 : ¬ f l = true → Φ (some (.int 0)) σ) : wp true (d + 1) nM_has [.int (onc f), .int x] σ Φ := by
  obtain ⟨b0, b1, b2, b3, b4⟩ := on5_has (f 0) (f 1) (f 2) (f 3) (f 4)
  have key : ((onc f >>> (x &&& 31)) &&& 1 = 1) = (f l = true) := by
    rcases x5 hx hl with ⟨rfl, rfl⟩ | ⟨rfl, rfl⟩ | ⟨rfl, rfl⟩ | ⟨rfl, rfl⟩ | ⟨rfl, rfl⟩
    · exact propext b0
    · exact propext b1
    · exact propext b2
    · exact propext b3
    · exact propext b4
  apply wM_has
  simp only [pI, pL, pR, pV, i10, ↓reduceIte, eM_has_0]
  simp only [key]
  by_cases c : f l = true
  · rw [if_pos c]
    simp only [pI, pL, pR, pV, i10, ↓reduceIte, eM_has_14]
    simp only [cond, zB_1]
    exact h1 c
  · rw [if_neg c]
    simp only [pI, pL, pR, pV, i10, ↓reduceIte, eM_has_13, eM_has_14]
    simp only [cond, zB_0]
    exact h0 c
theorem onc_or {f : Nat → Bool} {x : Int32} {l : Nat} (hx : x.toInt = (l : Nat)) (hl : l < 5) : onc f ||| (1 <<< (x &&& 31)) = onc (fun j => if j = l then true else f j) := by
  obtain ⟨b0, b1, b2, b3, b4⟩ := on5_or (f 0) (f 1) (f 2) (f 3) (f 4)
  rcases x5 hx hl with ⟨rfl, rfl⟩ | ⟨rfl, rfl⟩ | ⟨rfl, rfl⟩ | ⟨rfl, rfl⟩ | ⟨rfl, rfl⟩
  · exact b0
  · exact b1
  · exact b2
  · exact b3
  · exact b4
theorem onc_cg {f g : Nat → Bool} (h : ∀ l, l < 5 → f l = g l) : onc f = onc g := by
  unfold onc
  rw [h 0 (by omega), h 1 (by omega), h 2 (by omega), h 3 (by omega), h 4 (by omega)]
/-- a text in the reference, its count aside -/
def TMb (t : Nat) (T : TT) (σ : Sg) : Prop := rd σ 120 12 = ((705 * t : Nat) : Int) ∧ (∀ k, k < T.1 → rd σ 123 (705 * t + 1 + 4 * k) = (T.2.1 k).1 ∧ rd σ 123 (705 * t + 2 + 4 * k) = (T.2.1 k).2.1 ∧ ((T.2.1 k).1 ≠ 10 → rd σ 123 (705 * t + 3 + 4 * k) = (T.2.1 k).2.2.1) ∧ ((T.2.1 k).1 = 5 ∨ (T.2.1 k).1 = 7 ∨ (T.2.1 k).1 = 8 → rd σ 123 (705 * t + 4 + 4 * k) = (T.2.1 k).2.2.2)) ∧ rd σ 120 13 = (T.2.2.1.length : Nat) ∧ MCode σ t 0 T.2.2.1 ∧ gI σ 120 20 = onc (fun l => (T.2.2.2 l).isSome)
def TMI (t L : Nat) (B : Nat → Int) (i : Nat) (T : TT) (σ : Sg) : Prop := TpM L B σ ∧ MTk L B i σ ∧ i ≤ L ∧ TMb t T σ ∧ rd σ 123 (705 * t) = (T.1 : Nat)
abbrev FMx (t : Nat) : Ls := [(120, 7, 21), (123, 705 * t, 705 * t + 705), (125, 0, 160)]
theorem Fr_lx {t : Nat} {σ σ' : Sg} (h : Fr (FMl t) σ σ') : Fr (FMx t) σ σ' := h.cov (fun e he => by
  rcases List.mem_cons.mp he with rfl | he
  · exact ⟨(120, 7, 21), by simp, rfl, by decide, by decide⟩
  rcases List.mem_cons.mp he with rfl | he
  · exact ⟨(123, 705 * t, 705 * t + 705), by simp, rfl, show 705 * t ≤ 705 * t + 97 by omega, show 705 * t + 700 ≤ 705 * t + 705 by omega⟩
  rw [List.mem_singleton] at he
  subst he
  exact ⟨(125, 0, 160), by simp, rfl, Nat.le_refl _, Nat.le_refl _⟩)
theorem Fr_dx {t n : Nat} {σ σ' : Sg} (hn : n < 24) (h : Fr (FMd (705 * t + 1 + 4 * n)) σ σ') : Fr (FMx t) σ σ' := h.cov (fun e he => by
  rcases List.mem_cons.mp he with rfl | he
  · exact ⟨(120, 7, 21), by simp, rfl, by decide, by decide⟩
  rw [List.mem_singleton] at he
  subst he
  exact ⟨(123, 705 * t, 705 * t + 705), by simp, rfl, show 705 * t ≤ 705 * t + 1 + 4 * n by omega, show 705 * t + 1 + 4 * n + 4 ≤ 705 * t + 705 by omega⟩)
theorem Fr_tx {t : Nat} {σ σ' : Sg} (h : Fr FMt σ σ') : Fr (FMx t) σ σ' := h.cov (fun e he => by
  rw [List.mem_singleton] at he
  subst he
  exact ⟨(120, 7, 21), by simp, rfl, by decide, by decide⟩)
