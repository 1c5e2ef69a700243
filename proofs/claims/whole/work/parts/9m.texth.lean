/-! TEXTS: the class's steps -/
theorem sR_isAtAsk {d : Nat} {Φ : Po} {σ : Sg} {st : List Int} {l : Nat} (h11 : rd σ 83 11 = st.length) (hl : st.length ≤ 64) (hS : Stk σ st) (hv : ∀ x, x ∈ st → x ∈ opsL) (h7 : rd σ 83 7 = l) (h1 : l = 0 ∧ (tp st = -1 ∨ (20 ≤ tp st ∧ tp st ≤ 22)) → Φ (some (.int 1)) σ) (h0 : ¬ (l = 0 ∧ (tp st = -1 ∨ (20 ≤ tp st ∧ tp st ≤ 22))) → Φ (some (.int 0)) σ) : wp true (d + 2) nR_isAtAsk [.ref 83] σ Φ := by
  have c7 : (gI σ 83 7 = 0) = (l = 0) := by
    simp only [ieq, show (gI σ 83 7).toInt = rd σ 83 7 from rfl, h7, tl0]
    exact propext (by omega)
  have c11 : (gI σ 83 11 = 0) = (st.length = 0) := by
    simp only [ieq, show (gI σ 83 11).toInt = rd σ 83 11 from rfl, h11, tl0]
    exact propext (by omega)
  apply wR_isAtAsk
  simp only [pI, pL, pR, pV, i10, ↓reduceIte, eR_isAtAsk_0]
  refine sR_top h11 hl hS ?_
  simp only [pI, pL, pR, pV, i10, ↓reduceIte, eR_isAtAsk_4]
  simp only [c7, c11]
  by_cases q : l = 0
  · rw [if_pos q]
    cases st with
    | nil =>
      try rw [if_pos rfl]
      simp only [pI, pL, pR, pV, i10, ↓reduceIte, eR_isAtAsk_40, eR_isAtAsk_45]
      simp only [cond, zB_1]
      exact h1 ⟨q, Or.inl rfl⟩
    | cons o r =>
      rw [if_neg (by simp), tp_cons] at *
      obtain ⟨k1, k2, k3, k4, k5, k6, -⟩ := wo_k o (hv o List.mem_cons_self)
      have w22 : (90000 + wo o = 90022) = (o = 20) := propext ⟨fun q => k4.1 (by omega), fun q => by rw [k4.2 q]⟩
      have w21 : (90000 + wo o = 90021) = (o = 21) := propext ⟨fun q => k5.1 (by omega), fun q => by rw [k5.2 q]⟩
      have w20 : (90000 + wo o = 90020) = (o = 22) := propext ⟨fun q => k6.1 (by omega), fun q => by rw [k6.2 q]⟩
      have hv2 := hv o List.mem_cons_self
      have yes : 20 ≤ o ∧ o ≤ 22 → ∀ w : Nat, bR_isAtAsk_40 true NOB (wp true (d + 1)) Φ (kR_isAtAsk (d + 1) Φ) [.ref 83, .ref w] [] σ := fun z w => by
        simp only [pI, pL, pR, pV, i10, ↓reduceIte, eR_isAtAsk_40, eR_isAtAsk_45]
        simp only [cond, zB_1]
        exact h1 ⟨q, Or.inr z⟩
      simp only [k1, cond, w22, w21, w20]
      split
      next z => exact yes (by omega) _
      next z1 =>
        split
        next z => exact yes (by omega) _
        next z2 =>
          split
          next z => exact yes (by omega) _
          next z3 =>
            simp only [pI, pL, pR, pV, i10, ↓reduceIte, eR_isAtAsk_44, eR_isAtAsk_45]
            simp only [cond, zB_0]
            refine h0 (fun z => ?_)
            have hne : o ≠ -1 := fun e => by
              subst e
              revert hv2
              decide
            omega
  · rw [if_neg q]
    simp only [pI, pL, pR, pV, i10, ↓reduceIte, eR_isAtAsk_44, eR_isAtAsk_45]
    simp only [cond, zB_0]
    exact h0 (fun z => q z.1)
theorem sR_open {d : Nat} {Φ : Po} {t F : Nat} {σ : Sg} {st : List Int} {cd : List (Int × Int)} {x : Int} {w : Nat} {p : Int} (ht : t < 4) (hC : CP t F st cd σ) (hl : st.length < 64) (hx : x = 2 ∨ x = 3 ∨ x = 20 ∨ x = 40 ∨ x = 41) (hw : w = 90000 + wo x) (h13 : rd σ 83 13 = 0) (hp : rd σ 83 2 = p) (h0 : (opn x st).1 = 0 → ∀ σ' : Sg, Kp t σ σ' → CP t F (opn x st).2.1 (cd ++ (opn x st).2.2.1) σ' → rd σ' 83 8 = 1 → Φ none σ') (hf : (opn x st).1 ≠ 0 → ∀ σ' : Sg, Flt t (opn x st).1 p σ σ' → Φ none σ') : wp true (d + 2) nR_openOne [.ref 83, .ref w] σ Φ := by
  obtain ⟨c1, c2, c3, c4, c5, c6⟩ := hC
  have hC : CP t F st cd σ := ⟨c1, c2, c3, c4, c5, c6⟩
  have g12 : (gI σ 83 12).toInt = dep st := c4
  have k8 : (8 : Int32).toInt = 8 := rfl
  have hdl := dep_le st
  have hxo : x ∈ opsL := by rcases hx with rfl | rfl | rfl | rfl | rfl <;> decide
  have hrx : rk x = 0 ∨ rk x = 3 ∨ rk x = 7 := by rcases hx with rfl | rfl | rfl | rfl | rfl <;> decide
  apply wR_openOne
  simp only [pI, pL, pR, pV, i10, ↓reduceIte, eR_openOne_0]
  simp only [ieq, g12, k8]
  unfold opn at h0 hf
  by_cases q : dep st = 8
  · rw [if_pos q] at h0 hf
    rw [if_pos (by omega)]
    refine sR_blame (t := t) h13 hp (fun hb => ?_)
    generalize hτ : sI (sI σ 83 13 3) 83 14 (gI (sI σ 83 13 3) 83 2) = τ at *
    have hCτ : CP t F st cd τ := by rw [← hτ]; exact blame_cp ht hC
    simp only [pI, pL, pR, pV, i10, ↓reduceIte, eR_openOne_14]
    refine sR_push (t := t) (x := x) ht (by rw [rdne2 (by omega)]; exact hCτ.2.1) (Stk.of (σ := τ) st (fun _ _ => rfl) hCτ.2.2.1) hl (wo_k x hxo).1 hw (fun σ' hK _ _ _ _ _ => ?_)
    simp only [pI, pL, pR, pV, i10, ↓reduceIte, eR_openOne_29]
    exact hf (show ¬ (3 : Int) = 0 by decide) σ' ((hb.kp (Kp.i (by omega))).kp hK)
  · rw [if_neg q] at h0 hf
    rw [if_neg (by omega)]
    simp only [pI, pL, pR, pV, i10, ↓reduceIte, eR_openOne_14]
    refine sR_push (t := t) (x := x) ht (by rw [rdne2 (by omega)]; exact c2) (Stk.of (σ := σ) st (fun _ _ => rfl) c3) hl (wo_k x hxo).1 hw (fun σ' hK k1 k2 k3 k4 k5 => ?_)
    simp only [pI, pL, pR, pV, i10, ↓reduceIte, eR_openOne_29]
    refine h0 rfl σ' ((Kp.i (by omega)).tr hK) ?_ k5
    show CP t F (x :: st) (cd ++ []) σ'
    rw [List.append_nil]
    refine hC.st (fun a k ha => by rw [k4 a k ha, rdne (by omega)]) (hK.2.2 6) k2 k1 ?_
    rw [k3, rdeq, tq1 _ (by omega), g12, dep_c, if_pos hrx]
    omega
theorem sK_isName {d o : Nat} {Φ : Po} {σ : Sg} (ho : o < 42) (h1 : 10 ≤ o ∧ o ≤ 17 → Φ (some (.int 1)) σ) (h0 : ¬ (10 ≤ o ∧ o ≤ 17) → Φ (some (.int 0)) σ) : wp true (d + 1) nK_isName [.ref (90000 + o)] σ Φ := by
  obtain ⟨k1, -, k3, -⟩ := ord_k o ho
  have kA : (10000 : Int32).toInt = 10000 := rfl
  have kB : (10007 : Int32).toInt = 10007 := rfl
  apply wK_isName
  simp only [pI, pL, pR, pV, i10, ↓reduceIte, eK_isName_0]
  rw [k1]
  simp only [cond, ilt, kA, kB]
  split
  next z =>
    simp only [pI, pL, pR, pV, i10, ↓reduceIte, eK_isName_24, eK_isName_25]
    simp only [cond, zB_0]
    exact h0 (fun q => by have := k3.2 q; omega)
  next z =>
    split
    next y =>
      simp only [pI, pL, pR, pV, i10, ↓reduceIte, eK_isName_24, eK_isName_25]
      simp only [cond, zB_0]
      exact h0 (fun q => by have := k3.2 q; omega)
    next y =>
      simp only [pI, pL, pR, pV, i10, ↓reduceIte, eK_isName_25]
      simp only [cond, zB_1]
      exact h1 (k3.1 (by omega))
theorem sK_isNameOf {d o l : Nat} {Φ : Po} {σ : Sg} {x : Int32} (ho : o < 42) (hn : 10 ≤ o ∧ o ≤ 17) (hx : x.toInt = l) (h1 : ¬ (16 ≤ o ∧ l ≠ 2 ∧ l ≠ 3) → Φ (some (.int 1)) σ) (h0 : 16 ≤ o ∧ l ≠ 2 ∧ l ≠ 3 → Φ (some (.int 0)) σ) : wp true (d + 1) nK_isNameOf [.ref (90000 + o), .int x] σ Φ := by
  obtain ⟨k1, -, -, k4, -⟩ := ord_k o ho
  have k4 := k4 hn.1 hn.2
  have kA : (10006 : Int32).toInt = 10006 := rfl
  have k2 : (2 : Int32).toInt = 2 := rfl
  have k3 : (3 : Int32).toInt = 3 := rfl
  apply wK_isNameOf
  simp only [pI, pL, pR, pV, i10, ↓reduceIte, eK_isNameOf_0]
  rw [k1]
  simp only [cond, ieq, ile, kA, k2, k3, hx, k4]
  split
  next z =>
    simp only [pI, pL, pR, pV, i10, ↓reduceIte, eK_isNameOf_20, eK_isNameOf_25]
    simp only [cond, zB_1]
    exact h1 (by omega)
  next z =>
    split
    next y =>
      simp only [pI, pL, pR, pV, i10, ↓reduceIte, eK_isNameOf_20, eK_isNameOf_25]
      simp only [cond, zB_1]
      exact h1 (by omega)
    next y =>
      split
      next u =>
        simp only [pI, pL, pR, pV, i10, ↓reduceIte, eK_isNameOf_24, eK_isNameOf_25]
        simp only [cond, zB_0]
        exact h0 (by omega)
      next u =>
        simp only [pI, pL, pR, pV, i10, ↓reduceIte, eK_isNameOf_20, eK_isNameOf_25]
        simp only [cond, zB_1]
        exact h1 (by omega)
theorem sK_compares {d o : Nat} {Φ : Po} {σ : Sg} (ho : o < 42) (h1 : 23 ≤ o ∧ o ≤ 28 → Φ (some (.int 1)) σ) (h0 : ¬ (23 ≤ o ∧ o ≤ 28) → Φ (some (.int 0)) σ) : wp true (d + 1) nK_compares [.ref (90000 + o)] σ Φ := by
  obtain ⟨k1, -, -, -, k5, -⟩ := ord_k o ho
  have kA : (4 : Int32).toInt = 4 := rfl
  apply wK_compares
  simp only [pI, pL, pR, pV, i10, ↓reduceIte, eK_compares_0]
  rw [k1]
  simp only [cond, ieq, kA]
  split
  next z =>
    simp only [pI, pL, pR, pV, i10, ↓reduceIte, eK_compares_0, eK_compares_12, eK_compares_13]
    simp only [cond, zB_1]
    exact h1 (k5.1 z)
  next z =>
    simp only [pI, pL, pR, pV, i10, ↓reduceIte, eK_compares_0, eK_compares_12, eK_compares_13]
    simp only [cond, zB_0]
    exact h0 (fun q => z (k5.2 q))
/-- what is asked of the stack -/
def Iw (l F i : Nat) (st : List Int) (cd : List (Int × Int)) (fl : Int) : Prop := Sv l st ∧ dep st ≤ 8 ∧ (fl = 0 ∨ (fl = 1 ∧ Wv st)) ∧ F + cd.length + st.length ≤ i ∧ True
/-- all that stands while a law is read -/
def CSt (t L : Nat) (B : Nat → Int) (l F i : Nat) (st : List Int) (cd : List (Int × Int)) (σ : Sg) : Prop := TpC L B σ ∧ CTk L B i σ ∧ CP t F st cd σ ∧ rd σ 83 7 = l ∧ rd σ 83 13 = 0
theorem sR_readOne {d : Nat} {Φ : Po} {t L : Nat} {B : Nat → Int} {l F i : Nat} {st : List Int} {cd : List (Int × Int)} {σ : Sg} (ht : t < 4) (hl5 : l < 5) (h : CSt t L B l F i st cd σ) (hI : Iw l F i st cd 0) (hi : i ≤ 300 ∧ (tokO L B i = 40 ∨ i < 300)) (h0 : (oneF l (tokO L B i) (tokN L B i) st).1 = 0 → ∀ σ' : Sg, Kp t σ σ' → CP t F (oneF l (tokO L B i) (tokN L B i) st).2.1 (cd ++ (oneF l (tokO L B i) (tokN L B i) st).2.2.1) σ' → rd σ' 83 8 = 1 - (oneF l (tokO L B i) (tokN L B i) st).2.2.2 → Φ none σ') (hf : (oneF l (tokO L B i) (tokN L B i) st).1 ≠ 0 → ∀ σ' : Sg, Flt t (oneF l (tokO L B i) (tokN L B i) st).1 (tokP L B i) σ σ' → Φ none σ') : wp true (d + 4) nR_readOne [.ref 83] σ Φ := by
  obtain ⟨hT, hk, hC, h7, h13⟩ := h
  obtain ⟨t1', t2', t3', t4', t5'⟩ := hk
  have ho : tokO L B i < 42 := ordP_b
  generalize tokO L B i = o at *
  generalize tokN L B i = n at *
  generalize tokP L B i = p at *
  obtain ⟨i1, i2, i3, i4, i5⟩ := hI
  have hl53 := i1.len8 i2
  have hv : ∀ x, x ∈ st → x ∈ opsL := fun x hx => ops_sv i1 hx
  obtain ⟨k1, -, -, k4, -⟩ := ord_k o ho
  have w : ∀ k : Nat, (90000 + o = 90000 + k) = (o = k) := fun k => propext ⟨fun q => by omega, fun q => by omega⟩
  have g5 : (gI σ 83 5).toInt = rd σ 83 5 := rfl
  have kX : (9999 : Int32).toInt = 9999 := rfl
  unfold oneF at h0 hf
  apply wR_readOne
  simp only [pI, pL, pR, pV, i10, ↓reduceIte, eR_readOne_0]
  rw [t3', k1]
  simp only [cond, ile, g5, kX]
  by_cases c1 : o = 39
  · have t5' := t5' c1
    rw [if_pos c1] at h0 hf
    rw [if_pos (by omega), t5']
    -- the number
    have go : ∀ τ : Sg, CP t F st cd τ → gI τ 83 5 = gI σ 83 5 → (∀ σ' : Sg, Kp t τ σ' → CP t F (setl 7 st).1 (cd ++ (0, n) :: (setl 7 st).2) σ' → rd σ' 83 8 = 0 → Φ none σ') → bR_readOne_25 true NOB (wp true (d + 3)) Φ (kR_readOne (d + 3) Φ) [.ref 83] [] τ := by
      intro τ hCτ e5 K
      simp only [pI, pL, pR, pV, i10, ↓reduceIte, eR_readOne_25]
      rw [hCτ.1, (tx_o ht τ).1, e5]
      simp only [cond]
      refine sT_put ht hCτ.2.2.2.2.1 (by omega) (fun v hv2 => ?_)
      obtain ⟨p1, p2⟩ := hCτ.put (x := gI σ 83 5) (o := 0) (v := n) ht (by omega) t5' hv2
      simp only [pI, pL, pR, pV, i10, ↓reduceIte, eR_readOne_36]
      refine sR_close ht hv (by rw [List.length_append, List.length_singleton]; omega) (by omega) p2 (fun σ' h1 h2 h3 => ?_)
      simp only [pI, pL, pR, pV, i10, ↓reduceIte, eR_readOne_40, eR_readOne_187]
      rw [List.append_assoc] at h2
      exact K σ' (p1.tr h1) h2 h3
    by_cases c2 : 9999 < n
    · rw [if_pos c2] at h0 hf
      rw [if_neg (by omega)]
      refine sR_blame (t := t) h13 t1' (fun hb => ?_)
      refine go _ (blame_cp ht hC) (by rw [gIne2 (by omega), gIne2 (by omega)]) (fun σ' h1 _ _ => ?_)
      exact hf (show ¬ (2 : Int) = 0 by decide) σ' (hb.kp h1)
    · rw [if_neg c2] at h0 hf
      rw [if_pos (by omega)]
      exact go σ hC rfl (fun σ' h1 h2 h3 => h0 rfl σ' h1 h2 h3)
  rw [if_neg c1] at h0 hf
  rw [if_neg (by omega)]
  simp only [pI, pL, pR, pV, i10, ↓reduceIte, eR_readOne_43]
  rw [t3', k1]
  simp only [cond]
  refine sK_isName ho (fun c2 => ?_) (fun c2 => ?_)
  · rw [if_pos c2] at h0 hf
    have k4 := k4 c2.1 c2.2
    simp only [pI, pL, pR, pV, i10, ↓reduceIte, eR_readOne_50]
    rw [t3', k1]
    simp only [cond]
    have go : ∀ τ : Sg, CP t F st cd τ → gR τ 83 4 = gR σ 83 4 → (∀ σ' : Sg, Kp t τ σ' → CP t F (setl 7 st).1 (cd ++ (1, (o : Int) - 10) :: (setl 7 st).2) σ' → rd σ' 83 8 = 0 → Φ none σ') → bR_readOne_72 true NOB (wp true (d + 3)) Φ (kR_readOne (d + 3) Φ) [.ref 83] [] τ := by
      intro τ hCτ e4 K
      simp only [pI, pL, pR, pV, i10, ↓reduceIte, eR_readOne_72]
      rw [hCτ.1, (tx_o ht τ).1, e4, t3', k1]
      simp only [cond]
      refine sT_put ht hCτ.2.2.2.2.1 (by omega) (fun v hv2 => ?_)
      obtain ⟨p1, p2⟩ := hCτ.put (x := wfI 1 (90000 + o)) (o := 1) (v := (o : Int) - 10) ht (by omega) (by rw [k4]; rfl) hv2
      simp only [pI, pL, pR, pV, i10, ↓reduceIte, eR_readOne_86]
      refine sR_close ht hv (by rw [List.length_append, List.length_singleton]; omega) (by omega) p2 (fun σ' h1 h2 h3 => ?_)
      simp only [pI, pL, pR, pV, i10, ↓reduceIte, eR_readOne_90, eR_readOne_187]
      rw [List.append_assoc] at h2
      exact K σ' (p1.tr h1) h2 h3
    refine sK_isNameOf (l := l) ho c2 h7 (fun c3 => ?_) (fun c3 => ?_)
    · rw [if_neg c3] at h0 hf
      simp only [pI, pL, pR, pV, i10, ↓reduceIte, eR_readOne_64]
      exact go σ hC rfl (fun σ' h1 h2 h3 => h0 rfl σ' h1 h2 h3)
    · rw [if_pos c3] at h0 hf
      simp only [pI, pL, pR, pV, i10, ↓reduceIte, eR_readOne_64]
      refine sR_blame (t := t) h13 t1' (fun hb => ?_)
      simp only [pI, pL, pR, pV, i10, ↓reduceIte, eR_readOne_72]
      have := go _ (blame_cp ht hC) rfl (fun σ' h1 _ _ => hf (show ¬ (5 : Int) = 0 by decide) σ' (hb.kp h1))
      exact this
  · rw [if_neg c2] at h0 hf
    simp only [pI, pL, pR, pV, i10, ↓reduceIte, eR_readOne_50, eR_readOne_93]
    rw [t3', k1]
    simp only [cond, w 36, w 33, w 34]
    -- what opens
    have op : ∀ x : Int, (x = 2 ∨ x = 3 ∨ x = 20 ∨ x = 40 ∨ x = 41) → ∀ W : Nat, W = 90000 + wo x → ((opn x st).1 = 0 → ∀ σ' : Sg, Kp t σ σ' → CP t F (opn x st).2.1 (cd ++ (opn x st).2.2.1) σ' → rd σ' 83 8 = 1 - (opn x st).2.2.2 → Φ none σ') → ((opn x st).1 ≠ 0 → ∀ σ' : Sg, Flt t (opn x st).1 p σ σ' → Φ none σ') → ∀ Ψ : Po, (∀ σ' : Sg, Φ none σ' → Ψ none σ') → wp true (d + 3) nR_openOne [.ref 83, .ref W] σ Ψ := fun x hx W hW g0 gf Ψ hΨ => by
      refine sR_open ht hC (by omega) hx hW h13 t1' (fun q σ' a b c => hΨ σ' (g0 q σ' a b ?_)) (fun q σ' a => hΨ σ' (gf q σ' a))
      rw [c, (opn_0 q).2]
      rfl
    have three : ∀ W : Nat, ∀ x : Int, (x = 2 ∨ x = 3 ∨ x = 20 ∨ x = 40 ∨ x = 41) → o = wo x → ((opn x st).1 = 0 → ∀ σ' : Sg, Kp t σ σ' → CP t F (opn x st).2.1 (cd ++ (opn x st).2.2.1) σ' → rd σ' 83 8 = 1 - (opn x st).2.2.2 → Φ none σ') → ((opn x st).1 ≠ 0 → ∀ σ' : Sg, Flt t (opn x st).1 p σ σ' → Φ none σ') → bR_readOne_123 true NOB (wp true (d + 3)) Φ (kR_readOne (d + 3) Φ) [.ref 83] [] σ := fun _ x hx hox g0 gf => by
      simp only [pI, pL, pR, pV, i10, ↓reduceIte, eR_readOne_123]
      refine op x hx _ (by rw [t3', hox]) g0 gf _ (fun σ' q => ?_)
      simp only [pI, pL, pR, pV, i10, ↓reduceIte, eR_readOne_131, eR_readOne_187]
      exact q
    by_cases c36 : o = 36
    · rw [if_pos c36] at h0 hf ⊢
      exact three 0 40 (by omega) c36 h0 hf
    rw [if_neg c36] at h0 hf ⊢
    by_cases c33 : o = 33
    · rw [if_neg (by omega), if_pos c33] at h0 hf
      rw [if_pos c33]
      exact three 0 2 (by omega) c33 h0 hf
    rw [if_neg c33]
    by_cases c34 : o = 34
    · rw [if_neg (by omega), if_neg c33, if_pos c34] at h0 hf
      rw [if_pos c34]
      exact three 0 41 (by omega) c34 h0 hf
    rw [if_neg c34]
    simp only [pI, pL, pR, pV, i10, ↓reduceIte, eR_readOne_134]
    rw [t3', k1]
    simp only [cond, w 30]
    by_cases c30 : o = 30
    · rw [if_pos c30] at h0 hf ⊢
      refine op 3 (by omega) _ rfl h0 hf _ (fun σ' q => ?_)
      simp only [pI, pL, pR, pV, i10, ↓reduceIte, eR_readOne_151, eR_readOne_187]
      exact q
    rw [if_neg c30, if_neg c33, if_neg c34] at h0 hf
    rw [if_neg c30]
    simp only [pI, pL, pR, pV, i10, ↓reduceIte, eR_readOne_154]
    rw [t3', k1]
    simp only [cond, w 22]
    have no : ¬ (o = 22 ∧ l = 0 ∧ (tp st = -1 ∨ (20 ≤ tp st ∧ tp st ≤ 22))) → bR_readOne_182 true NOB (wp true (d + 3)) Φ (kR_readOne (d + 3) Φ) [.ref 83] [] σ := fun q => by
      rw [if_neg q] at h0 hf
      simp only [pI, pL, pR, pV, i10, ↓reduceIte, eR_readOne_182]
      refine sR_blame (t := t) h13 t1' (fun hb => ?_)
      simp only [pI, pL, pR, pV, i10, ↓reduceIte, eR_readOne_187]
      exact hf (show ¬ (1 : Int) = 0 by decide) _ hb
    by_cases c22 : o = 22
    · rw [if_pos c22]
      refine sR_isAtAsk hC.2.1 (by omega) hC.2.2.1 hv h7 (fun q => ?_) (fun q => ?_)
      · rw [if_pos ⟨c22, q⟩] at h0 hf
        simp only [pI, pL, pR, pV, i10, ↓reduceIte, eR_readOne_168]
        refine op 20 (by omega) _ (by rw [t3', c22]; rfl) h0 hf _ (fun σ' q => ?_)
        simp only [pI, pL, pR, pV, i10, ↓reduceIte, eR_readOne_179, eR_readOne_187]
        exact q
      · simp only [pI, pL, pR, pV, i10, ↓reduceIte, eR_readOne_168]
        exact no (fun z => q z.2)
    · rw [if_neg c22]
      exact no (fun z => c22 z.1)
