/-! TEXTS: the class reads a law -/
theorem oneF_40 {l : Nat} {n : Int} {st : List Int} : (oneF l 40 n st).1 ≠ 0 := by
  unfold oneF
  rw [if_neg (by omega), if_neg (by omega), if_neg (by omega), if_neg (by omega), if_neg (by omega), if_neg (by omega), if_neg (by omega)]
  show ¬ (1 : Int) = 0
  decide
theorem bhF_40 {l : Nat} {st : List Int} : (bhF l 40 st).1 ≠ 0 := by
  unfold bhF
  by_cases c : tp st = 41
  · rw [if_pos c, if_neg (by omega)]
    show ¬ (1 : Int) = 0
    decide
  · rw [if_neg c, if_neg (by omega), if_neg (by omega), if_neg (by omega), if_neg (by omega), if_neg (by omega)]
    show ¬ (1 : Int) = 0
    decide
theorem stF_40 {l : Nat} {n fl : Int} {st : List Int} : (stF l 40 n fl st).1 ≠ 0 := by
  unfold stF
  split
  · exact oneF_40
  · exact bhF_40
theorem ord40 {L : Nat} {B : Nat → Int} {p : Nat} (h : ordP L B p ≠ 40) : p < L := by
  apply Classical.byContradiction
  intro q
  apply h
  unfold ordP
  rw [if_pos (by omega)]
theorem tok_go {L : Nat} {B : Nat → Int} {i : Nat} (hT : Tp L B) (hi : i ≤ L) (h : tokO L B i ≠ 40) : i < tokE L B i ∧ tokE L B i ≤ L := by
  have h1 := tokP_b (B := B) hi
  have h2 := tokE_b hT hi
  have h3 := ord40 h
  omega
theorem tokN_0 {L : Nat} {B : Nat → Int} {i : Nat} : 0 ≤ tokN L B i ∧ tokN L B i ≤ 10000 := nmF_b _ _ _ (by omega)
theorem Iv.w {l F i : Nat} {st : List Int} {cd pr : List (Int × Int)} {fl : Int} (h : Iv l F i st cd fl) (hp : pr.length = F) : Iw l 0 i st (pr ++ cd) fl := ⟨h.1, h.2.1, h.2.2.1, by have := h.2.2.2.1; rw [List.length_append]; omega, trivial⟩
/-- a law read -/
def LwEnd (t L : Nat) (B : Nat → Int) (l i : Nat) (ca : List (Int × Int)) (σ0 σ : Sg) : Prop := Fr (FLw t) σ0 σ ∧ TpC L B σ ∧ CTk L B i σ ∧ gR σ 83 6 = 88 + 5 * t ∧ rd σ 83 7 = l ∧ rd σ 83 13 = 0 ∧ rd σ (88 + 5 * t) 1 = (ca.length : Nat) ∧ CodeAt σ t 0 ca ∧ rd σ 83 14 = rd σ0 83 14
theorem lR_law {d : Nat} {Φ : Po} {t L : Nat} {B : Nat → Int} {l F : Nat} {pr : List (Int × Int)} {x1 : Int32} {σ0 : Sg} (ht : t < 4) (hl5 : l < 5) (hp : pr.length = F) :
    ∀ (k i : Nat) (st : List Int) (cd : List (Int × Int)) (fl : Int) (σ : Sg) (x2 : Int32), L + 2 ≤ k + i → i ≤ L → x2.toInt ≤ i → 0 ≤ x2.toInt → Fr (FLw t) σ0 σ → CSt t L B l 0 i st (pr ++ cd) σ → gR σ 83 6 = gR σ0 83 6 → Iv l F i st cd fl → rd σ 83 8 = 1 - fl → rd σ 83 9 = 0 → rd σ 83 14 = rd σ0 83 14 →
      ((lawF L B l k i st cd fl).1 ≠ 0 → ∀ (σ' : Sg) (y2 : Int32), Flt t (lawF L B l k i st cd fl).1 (lawF L B l k i st cd fl).2.1 σ0 σ' ∧ rd σ' 83 7 = l → bR_readLaw_98 true NOB (wp true (d + 7)) Φ (kR_readLaw (d + 7) Φ) [.ref 83, .int x1, .int y2] [] σ') →
      ((lawF L B l k i st cd fl).1 = 0 → ∀ (σ' : Sg) (y2 : Int32), LwEnd t L B l (lawF L B l k i st cd fl).2.2.1 (pr ++ (lawF L B l k i st cd fl).2.2.2) σ0 σ' → LwDone l F (lawF L B l k i st cd fl).2.2.1 (lawF L B l k i st cd fl).2.2.2 → (lawF L B l k i st cd fl).2.2.1 ≤ L → i < (lawF L B l k i st cd fl).2.2.1 → bR_readLaw_98 true NOB (wp true (d + 7)) Φ (kR_readLaw (d + 7) Φ) [.ref 83, .int x1, .int y2] [] σ') →
      rd σ0 83 7 = l → bR_readLaw_42 true NOB (wp true (d + 7)) Φ (kR_readLaw (d + 7) Φ) [.ref 83, .int x1, .int x2] [] σ := by
  have k300 : (300 : Int32).toInt = 300 := rfl
  intro k
  induction k with
  | zero =>
    intro i st cd fl σ x2 hk hi
    omega
  | succ k ih =>
    intro i st cd fl σ x2 hk hi hx hx0 hF hS h6 hI h8 h9 h14 hf h0 h70
    obtain ⟨hT, hTk, hC, h7, h13⟩ := id hS
    have hTp := hT.1
    have hL3 := hTp.1
    have hgo : tokO L B i ≠ 40 → i < tokE L B i ∧ tokE L B i ≤ L := tok_go hTp hi
    have eL : lawF L B l (k + 1) i st cd fl = if (stF l (tokO L B i) (tokN L B i) fl st).1 ≠ 0 then ((stF l (tokO L B i) (tokN L B i) fl st).1, tokP L B i, 0, []) else if (stF l (tokO L B i) (tokN L B i) fl st).2.2.2 = 2 then (0, 0, tokE L B i, cd ++ (stF l (tokO L B i) (tokN L B i) fl st).2.2.1) else lawF L B l k (tokE L B i) (stF l (tokO L B i) (tokN L B i) fl st).2.1 (cd ++ (stF l (tokO L B i) (tokN L B i) fl st).2.2.1) (stF l (tokO L B i) (tokN L B i) fl st).2.2.2 := rfl
    rw [eL] at hf h0
    have c13 : ∀ τ : Sg, (gI τ 83 13 = 0) = (rd τ 83 13 = 0) := fun τ => by rw [ieq]; rfl
    have c9 : ∀ τ : Sg, (gI τ 83 9 = 0) = (rd τ 83 9 = 0) := fun τ => by rw [ieq]; rfl
    have c8 : (gI σ 83 8 = 0) = (rd σ 83 8 = 0) := by rw [ieq]; rfl
    have hx1 : (x2 + 1).toInt = x2.toInt + 1 := tq1 x2 (by omega)
    -- a fault
    have flt : ∀ σ' : Sg, (stF l (tokO L B i) (tokN L B i) fl st).1 ≠ 0 → Flt t (stF l (tokO L B i) (tokN L B i) fl st).1 (tokP L B i) σ σ' → bR_readLaw_81 true NOB (wp true (d + 7)) Φ (kR_readLaw (d + 7) Φ) [.ref 83, .int x1, .int x2] [] σ' := fun σ' q hb => by
      rw [if_pos q] at hf
      have hb2 : Flt t (stF l (tokO L B i) (tokN L B i) fl st).1 (tokP L B i) σ0 σ' ∧ rd σ' 83 7 = l := ⟨⟨hF.tr hb.1, hb.2.1, hb.2.2.1, hb.2.2.2.1.trans h6, by rw [hb.2.2.2.2, h7, h70]⟩, by rw [hb.2.2.2.2]; exact h7⟩
      have h13' : ¬ rd σ' 83 13 = 0 := by rw [hb.2.1]; exact q
      simp only [pI, pL, pR, pV, i10, ↓reduceIte, eR_readLaw_81]
      simp only [c13]
      rw [if_neg h13']
      simp only [pI, pL, pR, pV, i10, ↓reduceIte, eR_readLaw_92]
      refine hR_readLaw_42 _ _ _ _ _ ?_
      simp only [pI, pL, pR, pV, i10, ↓reduceIte, eR_readLaw_42]
      simp only [c13]
      split
      next z => exact hf q σ' _ hb2
      next z => exact hf q σ' _ hb2
    -- it goes on
    have go : ∀ σ' : Sg, (stF l (tokO L B i) (tokN L B i) fl st).1 = 0 → tokO L B i ≠ 40 → Fr (FLw t) σ σ' → (∀ j, (j < 8 ∨ j = 10 ∨ 13 ≤ j) → gI σ' 83 j = gI σ 83 j) → (∀ j, gR σ' 83 j = gR σ 83 j) → CP t 0 (stF l (tokO L B i) (tokN L B i) fl st).2.1 (pr ++ cd ++ (stF l (tokO L B i) (tokN L B i) fl st).2.2.1) σ' → ((stF l (tokO L B i) (tokN L B i) fl st).2.2.2 = 2 ∧ rd σ' 83 9 = 1 ∨ (stF l (tokO L B i) (tokN L B i) fl st).2.2.2 ≠ 2 ∧ rd σ' 83 9 = 0 ∧ rd σ' 83 8 = 1 - (stF l (tokO L B i) (tokN L B i) fl st).2.2.2) → ((stF l (tokO L B i) (tokN L B i) fl st).2.2.2 ≠ 2 → Iv l F (tokE L B i) (stF l (tokO L B i) (tokN L B i) fl st).2.1 (cd ++ (stF l (tokO L B i) (tokN L B i) fl st).2.2.1) (stF l (tokO L B i) (tokN L B i) fl st).2.2.2) → ((stF l (tokO L B i) (tokN L B i) fl st).2.2.2 = 2 → LwDone l F (tokE L B i) (cd ++ (stF l (tokO L B i) (tokN L B i) fl st).2.2.1)) → bR_readLaw_81 true NOB (wp true (d + 7)) Φ (kR_readLaw (d + 7) Φ) [.ref 83, .int x1, .int x2] [] σ' := by
      intro σ' q0 q40 a1 a2 a3 hC' hw hIv hDn
      obtain ⟨e1, e2⟩ := hgo q40
      rw [if_neg (fun z => z q0)] at hf h0
      have r : ∀ j, (j < 8 ∨ j = 10 ∨ 13 ≤ j) → rd σ' 83 j = rd σ 83 j := fun j hj => by
        show (gI σ' 83 j).toInt = _
        rw [a2 j hj]
        rfl
      have hT' : TpC L B σ' := ⟨hTp, by rw [r 1 (by omega)]; exact hT.2.1, fun j hj => by rw [a1.rd (FLw_no (by omega))]; exact hT.2.2 j hj⟩
      have h13' : rd σ' 83 13 = 0 := by rw [r 13 (by omega)]; exact h13
      simp only [pI, pL, pR, pV, i10, ↓reduceIte, eR_readLaw_81]
      simp only [c13]
      rw [if_pos h13']
      refine sR_advance hT' (by rw [r 3 (by omega)]; exact hTk.2.1) e2 (by rw [r 5 (by omega)]; exact hTk.2.2.2.1) (fun σ2 hF2 hT2 hTk2 => ?_)
      have hF2w : Fr (FLw t) σ' σ2 := ⟨fun a k q => hF2.1 a k (not_inS (fun e he z => by
          rw [List.mem_singleton] at he
          subst he
          have z1 : 83 = a := z.1
          have z2 : 2 ≤ k := z.2.1
          have z3 : k < 6 := z.2.2
          subst z1
          rw [inS_r (S := FLw t) (lo := 2) (hi := 15) (by simp) (by omega)] at q
          cases q)), fun a k q => hF2.2.1 a k (not_inS (fun e he z => by
          rw [List.mem_singleton] at he
          subst he
          have z1 : 83 = a := z.1
          have z2 : 2 ≤ k := z.2.1
          have z3 : k < 6 := z.2.2
          subst z1
          rw [inS_r (S := FLw t) (lo := 2) (hi := 15) (by simp) (by omega)] at q
          cases q)), fun a k q => hF2.2.2.1 a k (not_inS (fun e he z => by
          rw [List.mem_singleton] at he
          subst he
          have z1 : 83 = a := z.1
          have z2 : 2 ≤ k := z.2.1
          have z3 : k < 6 := z.2.2
          subst z1
          rw [inS_r (S := FLw t) (lo := 2) (hi := 15) (by simp) (by omega)] at q
          cases q)), hF2.2.2.2⟩
      have no : ∀ a j, a ≠ 83 ∨ 6 ≤ j → inS FAv a j = false := fun a j q => not_inS (fun e he z => by
        rw [List.mem_singleton] at he
        subst he
        have z1 : 83 = a := z.1
        have z3 : j < 6 := z.2.2
        omega)
      have r2 : ∀ a j, a ≠ 83 ∨ 6 ≤ j → rd σ2 a j = rd σ' a j := fun a j q => hF2.rd (no a j q)
      have rR : ∀ a j, a ≠ 83 ∨ 6 ≤ j → gR σ2 a j = gR σ' a j := fun a j q => hF2.2.2.1 a j (no a j q)
      have hC2 : CP t 0 (stF l (tokO L B i) (tokN L B i) fl st).2.1 (pr ++ cd ++ (stF l (tokO L B i) (tokN L B i) fl st).2.2.1) σ2 := hC'.st (fun a k ha => r2 a k (by omega)) (rR 83 6 (by omega)) (by rw [r2 _ _ (by omega)]; exact hC'.2.1) (Stk.of _ (fun k _ => rR _ _ (by omega)) hC'.2.2.1) (by rw [r2 _ _ (by omega)]; exact hC'.2.2.2.1)
      have hFa := (hF.tr a1).tr hF2w
      have h6' : gR σ2 83 6 = gR σ0 83 6 := by rw [rR _ _ (by omega), a3, h6]
      have h7' : rd σ2 83 7 = l := by rw [r2 _ _ (by omega), r 7 (by omega)]; exact h7
      have h13'' : rd σ2 83 13 = 0 := by rw [r2 _ _ (by omega)]; exact h13'
      simp only [pI, pL, pR, pV, i10, ↓reduceIte, eR_readLaw_92]
      refine hR_readLaw_42 _ _ _ _ _ ?_
      rcases hw with ⟨w1, w2⟩ | ⟨w1, w2, w3⟩
      · rw [if_pos w1] at h0
        have w2' : ¬ rd σ2 83 9 = 0 := by rw [r2 _ _ (by omega), w2]; decide
        have fin : ∀ y2 : Int32, bR_readLaw_98 true NOB (wp true (d + 7)) Φ (kR_readLaw (d + 7) Φ) [.ref 83, .int x1, .int y2] [] σ2 := fun y2 => by
          refine h0 rfl σ2 y2 ⟨hFa, hT2, hTk2, ?_, h7', h13'', ?_, ?_, by rw [r2 _ _ (by omega), r 14 (by omega)]; exact h14⟩ (hDn w1) e2 e1
          · exact hC2.1
          · have := hC2.2.2.2.2.1
            rw [List.append_assoc] at this
            rw [this, Nat.zero_add]
          · have := hC2.2.2.2.2.2
            rw [List.append_assoc] at this
            exact this
        simp only [pI, pL, pR, pV, i10, ↓reduceIte, eR_readLaw_42]
        simp only [c13, c9]
        split
        next z => exact fin _
        next z => exact fin _
      · rw [if_neg w1] at hf h0
        refine ih (tokE L B i) _ (cd ++ (stF l (tokO L B i) (tokN L B i) fl st).2.2.1) _ σ2 (x2 + 1) (by omega) e2 (by rw [hx1]; omega) (by rw [hx1]; omega) hFa ⟨hT2, hTk2, ?_, h7', h13''⟩ h6' (hIv w1) (by rw [r2 _ _ (by omega)]; exact w3) (by rw [r2 _ _ (by omega)]; exact w2) (by rw [r2 _ _ (by omega), r 14 (by omega)]; exact h14) hf (fun z σ3 y2 b1 b2 b3 b4 => h0 z σ3 y2 b1 b2 b3 (by omega)) h70
        rw [List.append_assoc] at hC2
        exact hC2
    have o40 : (stF l (tokO L B i) (tokN L B i) fl st).1 = 0 → tokO L B i ≠ 40 := fun q z => by
      rw [z] at q
      exact stF_40 q
    simp only [pI, pL, pR, pV, i10, ↓reduceIte, eR_readLaw_42]
    simp only [c13, c9, c8, ilt, k300]
    rw [if_neg (by omega), if_pos h13, if_pos h9]
    rcases hI.2.2.1 with hfl | ⟨hfl, -⟩
    · subst hfl
      rw [if_neg (by rw [h8]; decide)]
      have hhi : i ≤ 300 ∧ (tokO L B i = 40 ∨ i < 300) := by
        refine ⟨by omega, ?_⟩
        by_cases z : tokO L B i = 40
        · exact Or.inl z
        · have := hgo z
          exact Or.inr (by omega)
      have eS : stF l (tokO L B i) (tokN L B i) 0 st = oneF l (tokO L B i) (tokN L B i) st := if_pos rfl
      rw [eS] at flt go o40
      refine sR_readOne ht hl5 hS (hI.w hp) hhi (fun q σ' a b c => ?_) (fun q σ' a => ?_)
      · simp only [pI, pL, pR, pV, i10, ↓reduceIte, eR_readLaw_74]
        obtain ⟨e1, e2⟩ := hgo (o40 q)
        have hIv := Iv_one hI e1 tokN_0.1 q
        have hfl2 : (oneF l (tokO L B i) (tokN L B i) st).2.2.2 = 0 ∨ (oneF l (tokO L B i) (tokN L B i) st).2.2.2 = 1 := hIv.2.2.1.imp id (fun z => z.1)
        refine go σ' q (o40 q) a.1 (fun j hj => a.2.1 j (by omega)) a.2.2 b (Or.inr ⟨by omega, by rw [a.rd (by omega)]; exact h9, c⟩) (fun _ => hIv) (fun z => by omega)
      · simp only [pI, pL, pR, pV, i10, ↓reduceIte, eR_readLaw_74]
        exact flt σ' q a
    · subst hfl
      rw [if_pos (by rw [h8]; decide)]
      have eS : stF l (tokO L B i) (tokN L B i) 1 st = bhF l (tokO L B i) st := if_neg (by decide)
      rw [eS] at flt go o40
      refine sR_readBehind ht hl5 hS (hI.w hp) (by omega) (by rw [h8]; decide) h9 (fun q σ' a1 a2 a3 b c => ?_) (fun q σ' a => ?_)
      · simp only [pI, pL, pR, pV, i10, ↓reduceIte, eR_readLaw_81]
        obtain ⟨e1, e2⟩ := hgo (o40 q)
        have hIv := Iv_bh hI e1 q
        have := go σ' q (o40 q) a1 a2 a3 b c hIv.1 hIv.2
        rw [eR_readLaw_81] at this
        exact this
      · have := flt σ' q a
        exact this
