/-! TEXTS: the class's stack of words, its code -/
def wo (x : Int) : Nat := if x = -1 then 40 else if x = 2 then 33 else if x = 3 then 35 else if x = 8 then 19 else if x = 20 then 22 else if x = 21 then 21 else if x = 22 then 20 else if x = 40 then 36 else if x = 41 then 34 else if x < 10 then (x + 25).toNat else (x + 13).toNat
def opsL : List Int := [2, 3, 4, 5, 6, 7, 8, 10, 11, 12, 13, 14, 15, 20, 21, 22, 40, 41]
theorem wo_k : ∀ x, x ∈ opsL → wB (90000 + wo x) = true ∧ (x = 40 ∨ x = 41 ∨ (wfI 1 (90000 + wo x)).toInt = enc x 0) ∧ (wfI 2 (90000 + wo x)).toInt = (if rk x = 7 then 0 else rk x) ∧ (wo x = 22 ↔ x = 20) ∧ (wo x = 21 ↔ x = 21) ∧ (wo x = 20 ↔ x = 22) ∧ (wo x = 35 ↔ x = 3) ∧ (wo x = 33 ↔ x = 2) ∧ (wo x = 19 ↔ x = 8) ∧ (wo x = 34 ↔ x = 41) ∧ (wo x = 36 ↔ x = 40) ∧ wo x < 40 := by decide +kernel
theorem wo_m : wB (90000 + wo (-1)) = true ∧ wo (-1) = 40 ∧ (wfI 2 90040).toInt = 0 := by decide +kernel
theorem ord_k : ∀ o, o < 42 → wB (90000 + o) = true ∧ (wfI 0 (90000 + o)).toInt = (if o ≤ 10 then (o : Int) else -1) ∧ ((10000 ≤ (wfI 1 (90000 + o)).toInt ∧ (wfI 1 (90000 + o)).toInt ≤ 10007) ↔ (10 ≤ o ∧ o ≤ 17)) ∧ (10 ≤ o → o ≤ 17 → (wfI 1 (90000 + o)).toInt = 10000 + ((o : Int) - 10)) ∧ ((wfI 2 (90000 + o)).toInt = 4 ↔ (23 ≤ o ∧ o ≤ 28)) ∧ (5 ≤ (wfI 2 (90000 + o)).toInt ↔ (29 ≤ o ∧ o ≤ 32)) := by decide +kernel
theorem ord_w : (∀ o : Nat, o < 42 → 29 ≤ o → o ≤ 32 → o = wo ((o : Int) - 25) ∧ (wfI 2 (90000 + o)).toInt = rk ((o : Int) - 25)) ∧ (∀ o : Nat, o < 42 → 23 ≤ o → o ≤ 28 → o = wo ((o : Int) - 13)) ∧ (∀ o : Nat, o < 42 → 20 ≤ o → o ≤ 21 → o = wo (42 - (o : Int)) ∧ (wfI 2 (90000 + o)).toInt = rk (42 - (o : Int))) := by decide +kernel
theorem ops_in {x : Int} (h : (2 ≤ x ∧ x ≤ 8) ∨ (10 ≤ x ∧ x ≤ 15) ∨ (20 ≤ x ∧ x ≤ 22) ∨ x = 40 ∨ x = 41) : x ∈ opsL := by
  have : x = 2 ∨ x = 3 ∨ x = 4 ∨ x = 5 ∨ x = 6 ∨ x = 7 ∨ x = 8 ∨ x = 10 ∨ x = 11 ∨ x = 12 ∨ x = 13 ∨ x = 14 ∨ x = 15 ∨ x = 20 ∨ x = 21 ∨ x = 22 ∨ x = 40 ∨ x = 41 := by omega
  rcases this with rfl | rfl | rfl | rfl | rfl | rfl | rfl | rfl | rfl | rfl | rfl | rfl | rfl | rfl | rfl | rfl | rfl | rfl <;> decide
theorem ops_sv {l : Nat} {st : List Int} (h : Sv l st) {x : Int} (hx : x ∈ st) : x ∈ opsL := ops_in (Sv_mem st h hx)
/-- a text's own things -/
theorem tx_o {t : Nat} (ht : t < 4) (σ : Sg) : (isO 7 (88 + 5 * t) && lvx true σ (88 + 5 * t)) = true ∧ rfx true σ (88 + 5 * t) 0 = 89 + 5 * t ∧ rfx true σ (88 + 5 * t) 2 = 90 + 5 * t ∧ rfx true σ (88 + 5 * t) 3 = 91 + 5 * t ∧ rfx true σ (88 + 5 * t) 4 = 92 + 5 * t := by
  have : t = 0 ∨ t = 1 ∨ t = 2 ∨ t = 3 := by omega
  rcases this with rfl | rfl | rfl | rfl <;> exact ⟨rfl, rfl, rfl, rfl, rfl⟩
theorem ast_tx {t : Nat} (ht : t < 4) {c : Ct} {ls r : List Value} {x j : Int32} {σ : Sg} : o_iast true c ls (.int x :: .int j :: .ref (89 + 5 * t) :: r) σ = (inb j 300 ∧ c ls r (sI σ (89 + 5 * t) (ix j) x)) ∧ o_iast true c ls (.int x :: .int j :: .ref (90 + 5 * t) :: r) σ = (inb j 5 ∧ c ls r (sI σ (90 + 5 * t) (ix j) x)) ∧ o_iast true c ls (.int x :: .int j :: .ref (91 + 5 * t) :: r) σ = (inb j 5 ∧ c ls r (sI σ (91 + 5 * t) (ix j) x)) ∧ o_iast true c ls (.int x :: .int j :: .ref (92 + 5 * t) :: r) σ = (inb j 96 ∧ c ls r (sI σ (92 + 5 * t) (ix j) x)) ∧ o_alen true c ls (.ref (89 + 5 * t) :: r) σ = c ls (.int 300 :: r) σ := by
  have : t = 0 ∨ t = 1 ∨ t = 2 ∨ t = 3 := by omega
  rcases this with rfl | rfl | rfl | rfl <;> exact ⟨rfl, rfl, rfl, rfl, rfl⟩
theorem sT_put {d : Nat} {Φ : Po} {σ : Sg} {t n : Nat} {x : Int32} (ht : t < 4) (hn : rd σ (88 + 5 * t) 1 = n) (h300 : n < 300) (h : ∀ v : Int32, v.toInt = (n + 1 : Nat) → Φ none (sI (sI σ (89 + 5 * t) n x) (88 + 5 * t) 1 v)) : wp true (d + 1) nT_put [.ref (88 + 5 * t), .int x] σ Φ := by
  have k300 : (300 : Int32).toInt = 300 := rfl
  have g1 : (gI σ (88 + 5 * t) 1).toInt = n := hn
  have i1 : ix (gI σ (88 + 5 * t) 1) = n := ix_of g1
  obtain ⟨o1, o2, -⟩ := tx_o ht σ
  apply wT_put
  simp only [pI, pL, pR, pV, i10, ↓reduceIte, eT_put_0]
  rw [o1, o2]
  simp only [cond]
  rw [(ast_tx ht (x := 0) (j := 0)).2.2.2.2]
  simp only [pI, pL, pR, pV, i10, ↓reduceIte, eT_put_9]
  simp only [ile, g1, k300]
  rw [if_neg (by omega), o1, o2]
  simp only [cond]
  rw [(ast_tx ht).1, i1]
  refine ⟨⟨by omega, by omega⟩, ?_⟩
  obtain ⟨p1, -⟩ := tx_o ht (sI σ (89 + 5 * t) n x)
  simp only [pI, pL, pR, pV, i10, ↓reduceIte, eT_put_22]
  rw [p1]
  simp only [cond]
  simp only [pI, pL, pR, pV, i10, ↓reduceIte, eT_put_32]
  rw [gIne (by omega)]
  exact h _ (by rw [tq1 _ (by omega), g1]; omega)
theorem sT_endLaw {d : Nat} {Φ : Po} {σ : Sg} {t : Nat} {l : Int32} (ht : t < 4) (hl : 0 ≤ l.toInt ∧ l.toInt < 5) (h : Φ none (sI σ (91 + 5 * t) (ix l) (gI σ (88 + 5 * t) 1))) : wp true (d + 1) nT_endLaw [.ref (88 + 5 * t), .int l] σ Φ := by
  obtain ⟨o1, -, -, o4, -⟩ := tx_o ht σ
  apply wT_endLaw
  simp only [pI, pL, pR, pV, i10, ↓reduceIte, eT_endLaw_0]
  rw [o1, o4]
  simp only [cond]
  rw [(ast_tx ht).2.2.1]
  refine ⟨⟨by omega, by omega⟩, ?_⟩
  simp only [pI, pL, pR, pV, i10, ↓reduceIte, eT_endLaw_10]
  exact h
theorem sT_beginLaw {d : Nat} {Φ : Po} {σ : Sg} {t : Nat} {l : Int32} (ht : t < 4) (hl : 0 ≤ l.toInt ∧ l.toInt < 5) (h : Φ none (sI (sI σ (90 + 5 * t) (ix l) (gI σ (88 + 5 * t) 1)) (91 + 5 * t) (ix l) (gI σ (88 + 5 * t) 1))) : wp true (d + 1) nT_beginLaw [.ref (88 + 5 * t), .int l] σ Φ := by
  obtain ⟨o1, -, o3, -⟩ := tx_o ht σ
  apply wT_beginLaw
  simp only [pI, pL, pR, pV, i10, ↓reduceIte, eT_beginLaw_0]
  rw [o1, o3]
  simp only [cond]
  rw [(ast_tx ht).2.1]
  refine ⟨⟨by omega, by omega⟩, ?_⟩
  obtain ⟨p1, -, -, p4, -⟩ := tx_o ht (sI σ (90 + 5 * t) (ix l) (gI σ (88 + 5 * t) 1))
  simp only [pI, pL, pR, pV, i10, ↓reduceIte, eT_beginLaw_10]
  rw [p1, p4]
  simp only [cond]
  rw [(ast_tx ht).2.2.1]
  refine ⟨⟨by omega, by omega⟩, ?_⟩
  simp only [pI, pL, pR, pV, i10, ↓reduceIte, eT_beginLaw_20]
  rw [gIne (by omega)]
  exact h
theorem sT_addClause {d : Nat} {Φ : Po} {σ : Sg} {t : Nat} {x1 x2 x3 x4 : Int32} (ht : t < 4) (hn : 0 ≤ rd σ (88 + 5 * t) 5) (h1 : 24 ≤ rd σ (88 + 5 * t) 5 → Φ none σ) (h : ∀ n : Nat, rd σ (88 + 5 * t) 5 = n → n < 24 → ∀ v : Int32, v.toInt = (n + 1 : Nat) → Φ none (sI (sI (sI (sI (sI σ (92 + 5 * t) (4 * n) x1) (92 + 5 * t) (4 * n + 1) x2) (92 + 5 * t) (4 * n + 2) x3) (92 + 5 * t) (4 * n + 3) x4) (88 + 5 * t) 5 v)) : wp true (d + 1) nT_addClause [.ref (88 + 5 * t), .int x1, .int x2, .int x3, .int x4] σ Φ := by
  have k24 : (24 : Int32).toInt = 24 := rfl
  obtain ⟨n, hnn⟩ : ∃ n : Nat, rd σ (88 + 5 * t) 5 = n := ⟨(rd σ (88 + 5 * t) 5).toNat, by omega⟩
  have g5 : (gI σ (88 + 5 * t) 5).toInt = n := hnn
  obtain ⟨o1, -, -, -, o5⟩ := tx_o ht σ
  apply wT_addClause
  simp only [pI, pL, pR, pV, i10, ↓reduceIte, eT_addClause_0]
  rw [o1, o5]
  simp only [cond, ile, g5, k24]
  by_cases q : 24 ≤ n
  · rw [if_pos (by omega)]
    simp only [pI, pL, pR, pV, i10, ↓reduceIte, eT_addClause_66]
    exact h1 (by omega)
  · rw [if_neg (by omega), (ast_tx ht).2.2.2.1]
    have l4 : (4 : Int32).toInt = 4 := rfl
    have y0 : (gI σ (88 + 5 * t) 5 * 4).toInt = ((4 * n : Nat) : Int) := by rw [tX (by rw [g5, l4]; omega), g5, l4]; omega
    generalize gI σ (88 + 5 * t) 5 * 4 = x5 at *
    have yj : ∀ (z : Int32) (j : Nat), j < 4 → z.toInt = j → (x5 + z).toInt = ((4 * n + j : Nat) : Int) := fun z j hj hz => by rw [tP (by rw [y0, hz]; omega), y0, hz]; omega
    have i0 : ix x5 = 4 * n := ix_of y0
    have z1 := yj 1 1 (by omega) rfl
    have z2 := yj 2 2 (by omega) rfl
    have z3 := yj 3 3 (by omega) rfl
    have i1 : ix (x5 + 1) = 4 * n + 1 := ix_of z1
    have i2 : ix (x5 + 2) = 4 * n + 2 := ix_of z2
    have i3 : ix (x5 + 3) = 4 * n + 3 := ix_of z3
    rw [i0]
    refine ⟨⟨by omega, by omega⟩, ?_⟩
    simp only [pI, pL, pR, pV, i10, ↓reduceIte, eT_addClause_25]
    rw [(tx_o ht _).1, (tx_o ht _).2.2.2.2]
    simp only [cond]
    rw [(ast_tx ht).2.2.2.1, i1]
    refine ⟨⟨by omega, by omega⟩, ?_⟩
    simp only [pI, pL, pR, pV, i10, ↓reduceIte, eT_addClause_35]
    rw [(tx_o ht _).1, (tx_o ht _).2.2.2.2]
    simp only [cond]
    rw [(ast_tx ht).2.2.2.1, i2]
    refine ⟨⟨by omega, by omega⟩, ?_⟩
    simp only [pI, pL, pR, pV, i10, ↓reduceIte, eT_addClause_45]
    rw [(tx_o ht _).1, (tx_o ht _).2.2.2.2]
    simp only [cond]
    rw [(ast_tx ht).2.2.2.1, i3]
    refine ⟨⟨by omega, by omega⟩, ?_⟩
    simp only [pI, pL, pR, pV, i10, ↓reduceIte, eT_addClause_56]
    rw [(tx_o ht _).1]
    simp only [cond]
    simp only [pI, pL, pR, pV, i10, ↓reduceIte, eT_addClause_66]
    rw [gIne (by omega), gIne (by omega), gIne (by omega), gIne (by omega)]
    exact h n hnn (by omega) _ (by rw [tq1 _ (by omega), g5]; omega)
/-- what a law's reading may write -/
abbrev FLw (t : Nat) : Ls := [(83, 2, 15), (84, 0, 64), (88 + 5 * t, 1, 2), (89 + 5 * t, 0, 300)]
theorem FLw_no {t a k : Nat} (h : (a ≠ 83 ∨ k < 2 ∨ 15 ≤ k) ∧ a ≠ 84 ∧ (a ≠ 88 + 5 * t ∨ k ≠ 1) ∧ (a ≠ 89 + 5 * t ∨ 300 ≤ k)) : inS (FLw t) a k = false := not_inS (fun e he z => by
  simp only [List.mem_cons, List.not_mem_nil, or_false] at he
  rcases he with rfl | rfl | rfl | rfl
  · have z1 : 83 = a := z.1
    have z2 : 2 ≤ k := z.2.1
    have z3 : k < 15 := z.2.2
    omega
  · have z1 : 84 = a := z.1
    omega
  · have z1 : 88 + 5 * t = a := z.1
    have z2 : 1 ≤ k := z.2.1
    have z3 : k < 2 := z.2.2
    omega
  · have z1 : 89 + 5 * t = a := z.1
    have z3 : k < 300 := z.2.2
    omega)
/-- the token, the fault, the law stay -/
def Kp (t : Nat) (σ σ' : Sg) : Prop := Fr (FLw t) σ σ' ∧ (∀ k, (k < 8 ∨ k = 9 ∨ k = 10 ∨ 13 ≤ k) → gI σ' 83 k = gI σ 83 k) ∧ (∀ k, gR σ' 83 k = gR σ 83 k)
theorem Kp.rf {t : Nat} {σ : Sg} : Kp t σ σ := ⟨Fr.rf, fun _ _ => rfl, fun _ => rfl⟩
theorem Kp.tr {t : Nat} {a b c : Sg} (h : Kp t a b) (g : Kp t b c) : Kp t a c := ⟨h.1.tr g.1, fun k q => (g.2.1 k q).trans (h.2.1 k q), fun k => (g.2.2 k).trans (h.2.2 k)⟩
theorem Kp.i {t k : Nat} {σ : Sg} {v : Int32} (h : k = 8 ∨ k = 11 ∨ k = 12) : Kp t σ (sI σ 83 k v) := ⟨Fr.sI (inS_r (lo := 2) (hi := 15) (by simp) (by omega)), fun j hj => gIne2 (by omega), fun _ => rfl⟩
theorem Kp.r {t k : Nat} {σ : Sg} {v : Nat} (h : k < 64) : Kp t σ (sR σ 84 k v) := ⟨Fr.sR (inS_r (lo := 0) (hi := 64) (by simp) (by omega)), fun _ _ => rfl, fun j => by rw [gR_sR, if_neg (by omega)]⟩
theorem Kp.c {t k : Nat} {σ : Sg} {v : Int32} (ht : t < 4) (h : k < 300) : Kp t σ (sI σ (89 + 5 * t) k v) := ⟨Fr.sI (inS_r (lo := 0) (hi := 300) (by simp) (by omega)), fun j _ => gIne (by omega), fun _ => rfl⟩
theorem Kp.s {t : Nat} {σ : Sg} {v : Int32} (ht : t < 4) : Kp t σ (sI σ (88 + 5 * t) 1 v) := ⟨Fr.sI (inS_r (lo := 1) (hi := 2) (by simp) (by omega)), fun j _ => gIne (by omega), fun _ => rfl⟩
theorem Kp.tpc {t L : Nat} {B : Nat → Int} {σ σ' : Sg} (h : Kp t σ σ') (g : TpC L B σ) : TpC L B σ' := ⟨g.1, by
  show (gI σ' 83 1).toInt = L
  rw [h.2.1 1 (by omega)]
  exact g.2.1, fun i hi => by
  rw [h.1.rd (FLw_no (by omega))]
  exact g.2.2 i hi⟩
theorem Kp.tok {t L i : Nat} {B : Nat → Int} {σ σ' : Sg} (h : Kp t σ σ') (g : CTk L B i σ) : CTk L B i σ' := by
  obtain ⟨g1, g2, g3, g4, g5⟩ := g
  have e : ∀ k, k < 8 → rd σ' 83 k = rd σ 83 k := fun k hk => by
    show (gI σ' 83 k).toInt = _
    rw [h.2.1 k (by omega)]
    rfl
  exact ⟨by rw [e _ (by omega)]; exact g1, by rw [e _ (by omega)]; exact g2, by rw [h.2.2]; exact g3, by rw [e _ (by omega)]; exact g4, by rw [e _ (by omega)]; exact g5⟩
theorem Kp.rd {t k : Nat} {σ σ' : Sg} (h : Kp t σ σ') (hk : k < 8 ∨ k = 9 ∨ k = 10 ∨ 13 ≤ k) : rd σ' 83 k = rd σ 83 k := by
  show (gI σ' 83 k).toInt = _
  rw [h.2.1 k hk]
  rfl
def Stk (σ : Sg) : List Int → Prop
  | [] => True
  | o :: r => gR σ 84 r.length = 90000 + wo o ∧ Stk σ r
theorem Stk.of {σ σ' : Sg} : ∀ st : List Int, (∀ k, k < st.length → gR σ' 84 k = gR σ 84 k) → Stk σ st → Stk σ' st
  | [], _, _ => trivial
  | o :: r, h, ⟨h1, h2⟩ => ⟨(h _ (Nat.lt_succ_self _)).trans h1, Stk.of r (fun k hk => h k (Nat.lt_succ_of_lt hk)) h2⟩
theorem CodeAt_app {σ : Sg} {t : Nat} : ∀ (a b : List (Int × Int)) (i : Nat), CodeAt σ t i (a ++ b) = (CodeAt σ t i a ∧ CodeAt σ t (i + a.length) b)
  | [], b, i => by
    show CodeAt σ t i b = (True ∧ CodeAt σ t (i + 0) b)
    rw [true_and, Nat.add_zero]
  | (o, v) :: r, b, i => by
    show (rd σ (89 + 5 * t) i = enc o v ∧ CodeAt σ t (i + 1) (r ++ b)) = ((rd σ (89 + 5 * t) i = enc o v ∧ CodeAt σ t (i + 1) r) ∧ CodeAt σ t (i + (r.length + 1)) b)
    rw [CodeAt_app r b (i + 1), and_assoc, show i + 1 + r.length = i + (r.length + 1) from by omega]
theorem CodeAt_lt {σ σ' : Sg} {t : Nat} : ∀ (ops : List (Int × Int)) (i : Nat), (∀ k, i ≤ k → k < i + ops.length → rd σ' (89 + 5 * t) k = rd σ (89 + 5 * t) k) → CodeAt σ t i ops → CodeAt σ' t i ops
  | [], _, _, _ => trivial
  | (o, v) :: r, i, h, ⟨h1, h2⟩ => ⟨(h i (Nat.le_refl _) (by simp)).trans h1, CodeAt_lt r (i + 1) (fun k k1 k2 => h k (by omega) (by simp at *; omega)) h2⟩
/-- the state while a law is read: stack, code -/
def CP (t F : Nat) (st : List Int) (cd : List (Int × Int)) (σ : Sg) : Prop := gR σ 83 6 = 88 + 5 * t ∧ rd σ 83 11 = st.length ∧ Stk σ st ∧ rd σ 83 12 = dep st ∧ rd σ (88 + 5 * t) 1 = ((F + cd.length : Nat) : Int) ∧ CodeAt σ t F cd
theorem CP.put {t F : Nat} {st : List Int} {cd : List (Int × Int)} {σ : Sg} {x v' : Int32} {o v : Int} (ht : t < 4) (h : CP t F st cd σ) (h300 : F + cd.length < 300) (hx : x.toInt = enc o v) (hv : v'.toInt = ((F + cd.length + 1 : Nat) : Int)) : Kp t σ (sI (sI σ (89 + 5 * t) (F + cd.length) x) (88 + 5 * t) 1 v') ∧ CP t F st (cd ++ [(o, v)]) (sI (sI σ (89 + 5 * t) (F + cd.length) x) (88 + 5 * t) 1 v') := by
  obtain ⟨h1, h2, h3, h4, h5, h6⟩ := h
  refine ⟨(Kp.c ht h300).tr (Kp.s ht), h1, ?_, ?_, ?_, ?_, ?_⟩
  · rw [rdne (by omega), rdne (by omega)]; exact h2
  · exact Stk.of (σ := σ) st (fun _ _ => rfl) h3
  · rw [rdne (by omega), rdne (by omega)]; exact h4
  · rw [rdeq, hv, List.length_append, List.length_singleton]
    omega
  · rw [CodeAt_app]
    refine ⟨CodeAt_lt cd F (fun k k1 k2 => ?_) h6, ?_, trivial⟩
    · rw [rdne (by omega), rdne2 (by omega)]
    · rw [rdne (by omega), rdeq, hx]
/-- a change of the stack -/
theorem CP.st {t F : Nat} {st s2 : List Int} {cd : List (Int × Int)} {σ σ' : Sg} (h : CP t F st cd σ) (e1 : ∀ a k, a = 88 + 5 * t ∨ a = 89 + 5 * t → rd σ' a k = rd σ a k) (e2 : gR σ' 83 6 = gR σ 83 6) (h2 : rd σ' 83 11 = s2.length) (h3 : Stk σ' s2) (h4 : rd σ' 83 12 = dep s2) : CP t F s2 cd σ' := ⟨e2.trans h.1, h2, h3, h4, by rw [e1 _ _ (Or.inl rfl)]; exact h.2.2.2.2.1, CodeAt_lt cd F (fun k _ _ => e1 _ _ (Or.inr rfl)) h.2.2.2.2.2⟩
