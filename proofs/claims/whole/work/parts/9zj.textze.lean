/-! TEXTS: the reference's clause -/
theorem TMb.of {t : Nat} {T : TT} {σ σ' : Sg} (ht : t < 4) (g : TMb t T σ) (e1 : ∀ k, k = 12 ∨ k = 13 ∨ k = 20 → gI σ' 120 k = gI σ 120 k) (e2 : ∀ k, 705 * t + 1 ≤ k → k < 705 * t + 705 → rd σ' 123 k = rd σ 123 k) (hl : T.2.2.1.length ≤ 300) (hn : T.1 ≤ 24) : TMb t T σ' := by
  obtain ⟨g1, g2, g3, g4, g5⟩ := g
  have r : ∀ k, k = 12 ∨ k = 13 ∨ k = 20 → rd σ' 120 k = rd σ 120 k := fun k hk => by
    show (gI σ' 120 k).toInt = _
    rw [e1 k hk]
    rfl
  refine ⟨by rw [r _ (by omega)]; exact g1, fun k hk => ?_, by rw [r _ (by omega)]; exact g3, MCode_lt _ 0 (fun k h1 h2 => e2 _ (by omega) (by omega)) g4, by rw [e1 _ (by omega)]; exact g5⟩
  rw [e2 _ (by omega) (by omega), e2 _ (by omega) (by omega), e2 _ (by omega) (by omega), e2 _ (by omega) (by omega)]
  exact g2 k hk
theorem FMx_no {t a k : Nat} (h : (a ≠ 120 ∨ k < 7 ∨ 21 ≤ k) ∧ (a ≠ 123 ∨ k < 705 * t ∨ 705 * t + 705 ≤ k) ∧ a ≠ 125) : inS (FMx t) a k = false := not_inS (fun e he z => by
  obtain ⟨z1, z2, z3⟩ := z
  rcases List.mem_cons.mp he with rfl | he
  · have z1 : 120 = a := z1
    have z2 : 7 ≤ k := z2
    have z3 : k < 21 := z3
    omega
  rcases List.mem_cons.mp he with rfl | he
  · have z1 : 123 = a := z1
    have z2 : 705 * t ≤ k := z2
    have z3 : k < 705 * t + 705 := z3
    omega
  rw [List.mem_singleton] at he
  subst he
  have z1 : 125 = a := z1
  omega)
theorem fxJ {t k : Nat} {σ : Sg} {v : Int32} (h : 7 ≤ k ∧ k < 21) : Fr (FMx t) σ (sI σ 120 k v) := Fr.sI (inS_r (lo := 7) (hi := 21) (by simp) h)
theorem fxT {t k : Nat} {σ : Sg} {v : Int32} (h : 705 * t ≤ k ∧ k < 705 * t + 705) : Fr (FMx t) σ (sI σ 123 k v) := Fr.sI (inS_r (lo := 705 * t) (hi := 705 * t + 705) (by simp) h)
theorem sM_lawClause {d : Nat} {Φ : Po} {t L l i n : Nat} {B : Nat → Int} {pr : List (Int × Int)} {σ : Sg} {x1 x2 : Int32} (ht : t < 4) (hn : n < 24) (hx1 : x1.toInt = ((705 * t + 1 + 4 * n : Nat) : Int)) (hx2 : x2.toInt = if l = 0 then 1 else 0) (hT : TpM L B σ) (hk : MTk L B i σ) (hi : i ≤ L) (hpi : pr.length ≤ i) (h12 : rd σ 120 12 = ((705 * t : Nat) : Int)) (h13 : rd σ 120 13 = (pr.length : Nat)) (h14 : rd σ 120 14 = (l : Nat)) (hC : MCode σ t 0 pr)
    (hz : ∀ (σ' : Sg) (i2 : Nat), Fr (FMx t) σ σ' → TpM L B σ' → MTk L B i2 σ' → i2 ≤ L → rd σ' 120 12 = ((705 * t : Nat) : Int) → gI σ' 120 20 = gI σ 120 20 → (∀ k, 705 * t ≤ k → k < 705 * t + 2 + 4 * n → rd σ' 123 k = rd σ 123 k) → (tokO L B i2 = 38 → (lawF L B l 302 i [] [] 0).1 = 0 ∧ (lawF L B l 302 i [] [] 0).2.2.1 = tokE L B i2 ∧ rd σ' 120 13 = ((pr ++ (lawF L B l 302 i [] [] 0).2.2.2).length : Nat) ∧ MCode σ' t 0 (pr ++ (lawF L B l 302 i [] [] 0).2.2.2) ∧ rd σ' 123 (705 * t + 2 + 4 * n) = (pr.length : Nat) ∧ rd σ' 123 (705 * t + 3 + 4 * n) = ((pr ++ (lawF L B l 302 i [] [] 0).2.2.2).length : Nat)) → (tokO L B i2 ≠ 38 → (lawF L B l 302 i [] [] 0).1 = 1 ∧ (lawF L B l 302 i [] [] 0).2.1 = tokP L B i2) → Φ (some (.int 0)) σ')
    (hf : (lawF L B l 302 i [] [] 0).1 ≠ 0 → ∀ (σ' : Sg) (v : Int32), Fr (FMx t) σ σ' → rd σ' 120 8 = ((lawF L B l 302 i [] [] 0).2.1 : Nat) → v.toInt = (lawF L B l 302 i [] [] 0).1 → Φ (some (.int v)) σ') : wp true (d + 9) nM_lawClause [.ref 120, .int x1, .int x2] σ Φ := by
  have l2 : (2 : Int32).toInt = 2 := rfl
  have hL := hT.1.1
  have y1 : (x1 + 1).toInt = ((705 * t + 2 + 4 * n : Nat) : Int) := by rw [tq1 _ (by omega), hx1]; omega
  have y2 : (x1 + 2).toInt = ((705 * t + 3 + 4 * n : Nat) : Int) := by rw [tP (by rw [hx1, l2]; omega), hx1, l2]; omega
  apply wM_lawClause
  simp only [pI, pL, pR, pV, i10, ↓reduceIte, eM_lawClause_0]
  rw [show ix (x1 + 1) = 705 * t + 2 + 4 * n from ix_of y1]
  generalize x1 + 1 = z1 at *
  refine ⟨⟨by omega, by omega⟩, ?_⟩
  have v13 : (gI σ 120 13).toInt = (pr.length : Nat) := h13
  have fa : Fr (FMx t) σ (sI σ 123 (705 * t + 2 + 4 * n) (gI σ 120 13)) := fxT (by omega)
  have ea : ∀ a k, a ≠ 123 → rd (sI σ 123 (705 * t + 2 + 4 * n) (gI σ 120 13)) a k = rd σ a k := fun a k q => rdne q
  have eb : ∀ k, k ≠ 705 * t + 2 + 4 * n → rd (sI σ 123 (705 * t + 2 + 4 * n) (gI σ 120 13)) 123 k = rd σ 123 k := fun k q => rdne2 q
  have ec : rd (sI σ 123 (705 * t + 2 + 4 * n) (gI σ 120 13)) 123 (705 * t + 2 + 4 * n) = (pr.length : Nat) := by rw [rdeq]; exact v13
  have eg : gI (sI σ 123 (705 * t + 2 + 4 * n) (gI σ 120 13)) 120 20 = gI σ 120 20 := gIne (by omega)
  have el : gL (sI σ 123 (705 * t + 2 + 4 * n) (gI σ 120 13)) 120 11 = gL σ 120 11 := rfl
  generalize sI σ 123 (705 * t + 2 + 4 * n) (gI σ 120 13) = σ1 at *
  apply wM_parsed
  simp only [pI, pL, pR, pV, i10, ↓reduceIte, eM_parsed_0]
  have zb : zB x2 = true := by
    by_cases c : l = 0
    · rw [if_pos c] at hx2
      rw [show x2 = 1 from Int32.toInt_inj.mp hx2]
      rfl
    · rw [if_neg c] at hx2
      rw [show x2 = 0 from Int32.toInt_inj.mp hx2]
      rfl
  rw [zb]
  simp only [cond]
  have fb : Fr (FMl t) σ1 (sI (sI (sI (sI σ1 120 16 0) 120 17 0) 120 18 0) 120 19 x2) := (((flI (by omega)).tr (flI (by omega))).tr (flI (by omega))).tr (flI (by omega))
  have f1 : ∀ k, k ≠ 16 → k ≠ 17 → k ≠ 18 → k ≠ 19 → rd (sI (sI (sI (sI σ1 120 16 0) 120 17 0) 120 18 0) 120 19 x2) 120 k = rd σ1 120 k := fun k a b c e => by rw [rdne2 e, rdne2 c, rdne2 b, rdne2 a]
  have f2 : ∀ a k, a ≠ 120 → rd (sI (sI (sI (sI σ1 120 16 0) 120 17 0) 120 18 0) 120 19 x2) a k = rd σ1 a k := fun a k q => by rw [rdne q, rdne q, rdne q, rdne q]
  have f16 : rd (sI (sI (sI (sI σ1 120 16 0) 120 17 0) 120 18 0) 120 19 x2) 120 16 = 0 := by rw [rdne2 (by omega), rdne2 (by omega), rdne2 (by omega), rdeq]; rfl
  have f17 : rd (sI (sI (sI (sI σ1 120 16 0) 120 17 0) 120 18 0) 120 19 x2) 120 17 = 0 := by rw [rdne2 (by omega), rdne2 (by omega), rdeq]; rfl
  have f18 : rd (sI (sI (sI (sI σ1 120 16 0) 120 17 0) 120 18 0) 120 19 x2) 120 18 = 0 := by rw [rdne2 (by omega), rdeq]; rfl
  have f19 : rd (sI (sI (sI (sI σ1 120 16 0) 120 17 0) 120 18 0) 120 19 x2) 120 19 = if l = 0 then 1 else 0 := by rw [rdeq]; exact hx2
  have f20 : gI (sI (sI (sI (sI σ1 120 16 0) 120 17 0) 120 18 0) 120 19 x2) 120 20 = gI σ1 120 20 := by rw [gIne2 (by omega), gIne2 (by omega), gIne2 (by omega), gIne2 (by omega)]
  have fl : gL (sI (sI (sI (sI σ1 120 16 0) 120 17 0) 120 18 0) 120 19 x2) 120 11 = gL σ1 120 11 := rfl
  generalize sI (sI (sI (sI σ1 120 16 0) 120 17 0) 120 18 0) 120 19 x2 = σ2 at *
  have e2 : ∀ k, k ≠ 16 → k ≠ 17 → k ≠ 18 → k ≠ 19 → rd σ2 120 k = rd σ 120 k := fun k a b c e => by rw [f1 k a b c e, ea _ _ (by omega)]
  have hT2 : TpM L B σ2 := hT.e (e2 _ (by omega) (by omega) (by omega) (by omega)) (fun k _ => by rw [f2 _ _ (by omega), ea _ _ (by omega)])
  have hk2 : MTk L B i σ2 := hk.e (fun k _ _ => e2 _ (by omega) (by omega) (by omega) (by omega)) (fl.trans el)
  have hC2 : MCode σ2 t 0 pr := MCode_lt pr 0 (fun k a b => by rw [f2 _ _ (by omega), eb _ (by omega)]) hC
  have hP2 : MPt t l [] (pr ++ []) σ2 := by
    rw [List.append_nil]
    exact ⟨by rw [e2 _ (by omega) (by omega) (by omega) (by omega)]; exact h12, by rw [e2 _ (by omega) (by omega) (by omega) (by omega)]; exact h13, by rw [e2 _ (by omega) (by omega) (by omega) (by omega)]; exact h14, f16, trivial, f17, hC2, f19⟩
  have last : ∀ (v : Int32) (σ' : Sg), Fr (FMl t) σ2 σ' → (∀ σ3 : Sg, Fr (FMx t) σ σ3 → (∀ a k, a ≠ 123 → rd σ3 a k = rd σ' a k) → gL σ3 120 11 = gL σ' 120 11 → gI σ3 120 20 = gI σ 120 20 → (∀ k, k ≠ 705 * t + 3 + 4 * n → rd σ3 123 k = rd σ' 123 k) → rd σ3 123 (705 * t + 3 + 4 * n) = rd σ' 120 13 → Φ (some (.int v)) σ3) → (pI (fun a b c => bM_lawClause_17 true NOB (wp true (d + 8)) Φ (kM_lawClause (d + 8) Φ) a b c) [.ref 120, .int x1, .int x2, .retAddr 0] []) (some (.int v)) σ' := fun v σ' a b => by
    simp only [pI, pL, pR, pV, i10, ↓reduceIte, eM_lawClause_17]
    rw [show ix (x1 + 2) = 705 * t + 3 + 4 * n from ix_of y2]
    refine ⟨⟨by omega, by omega⟩, ?_⟩
    refine b _ (((fa.tr (Fr_lx fb)).tr (Fr_lx a)).tr (fxT (by omega))) (fun x k q => rdne q) rfl ?_ (fun k q => rdne2 q) (by rw [rdeq]; rfl)
    rw [gIne (by omega), a.1 _ _ (FMl_no (by omega)), f20, eg]
  refine lM_parsed (d := d) (F := pr.length) (pr := pr) (σ0 := σ2) (l := l) ht rfl hx2 302 302 i [] [] 0 σ2 _ (Nat.le_refl _) (by omega) hi Fr.rf ⟨hT2, hk2, hi, hP2, f18⟩ (Iv_start hpi) (fun z => absurd z (by decide)) (fun σ' i2 z => ?_) (fun z σ' v a b c => ?_)
  · obtain ⟨q1, q2, q3, q4, q5, q6, q7⟩ := z
    refine last 0 σ' q1 (fun σ3 r1 r2 r3 r4 r5 r6 => hz σ3 i2 r1 (q2.e (r2 _ _ (by omega)) (fun k _ => r2 _ _ (by omega))) (q3.e (fun k _ _ => r2 _ _ (by omega)) r3) q4 (by rw [r2 _ _ (by omega)]; exact q5) r4 (fun k a b => ?_) (fun w => ?_) q7)
    · rw [r5 _ (by omega), q1.rd (FMl_no (by omega)), f2 _ _ (by omega), eb _ (by omega)]
    · obtain ⟨w1, w2, w3, w4⟩ := q6 w
      refine ⟨w1, w2, by rw [r2 _ _ (by omega)]; exact w3, MCode_lt _ 0 (fun k a b => r5 _ (by omega)) w4, ?_, by rw [r6]; exact w3⟩
      rw [r5 _ (by omega), q1.rd (FMl_no (by omega)), f2 _ _ (by omega), ec]
  · exact last v σ' a (fun σ3 r1 r2 r3 r4 r5 r6 => hf z σ3 v r1 (by rw [r2 _ _ (by omega)]; exact b) c)
