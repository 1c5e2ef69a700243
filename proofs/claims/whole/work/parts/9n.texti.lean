/-! TEXTS: the class behind a ONE -/
theorem sR_readBehind {d : Nat} {Φ : Po} {t L : Nat} {B : Nat → Int} {l F i : Nat} {st : List Int} {cd : List (Int × Int)} {σ : Sg} (ht : t < 4) (hl5 : l < 5) (h : CSt t L B l F i st cd σ) (hI : Iw l F i st cd 1) (hi : i ≤ 300) (h8 : rd σ 83 8 = 0) (h9 : rd σ 83 9 = 0) (h0 : (bhF l (tokO L B i) st).1 = 0 → ∀ σ' : Sg, Fr (FLw t) σ σ' → (∀ k, (k < 8 ∨ k = 10 ∨ 13 ≤ k) → gI σ' 83 k = gI σ 83 k) → (∀ k, gR σ' 83 k = gR σ 83 k) → CP t F (bhF l (tokO L B i) st).2.1 (cd ++ (bhF l (tokO L B i) st).2.2.1) σ' → ((bhF l (tokO L B i) st).2.2.2 = 2 ∧ rd σ' 83 9 = 1 ∨ (bhF l (tokO L B i) st).2.2.2 ≠ 2 ∧ rd σ' 83 9 = 0 ∧ rd σ' 83 8 = 1 - (bhF l (tokO L B i) st).2.2.2) → Φ none σ') (hf : (bhF l (tokO L B i) st).1 ≠ 0 → ∀ σ' : Sg, Flt t (bhF l (tokO L B i) st).1 (tokP L B i) σ σ' → Φ none σ') : wp true (d + 5) nR_readBehindOne [.ref 83] σ Φ := by
  obtain ⟨hT, hk, hC, h7, h13⟩ := h
  obtain ⟨t1', t2', t3', t4', t5'⟩ := hk
  have ho : tokO L B i < 42 := ordP_b
  generalize tokO L B i = o at *
  generalize tokP L B i = p at *
  obtain ⟨i1, i2, i3, i4, i5⟩ := hI
  have hW : Wv st := by
    rcases i3 with i3 | i3
    · exact absurd i3 (by decide)
    · exact i3.2
  have hl53 := i1.len8 i2
  have hv : ∀ x, x ∈ st → x ∈ opsL := fun x hx => ops_sv i1 hx
  obtain ⟨k1, -, -, -, k5, k6⟩ := ord_k o ho
  obtain ⟨ow1, ow2, ow3⟩ := ord_w
  have w : ∀ k : Nat, (90000 + o = 90000 + k) = (o = k) := fun k => propext ⟨fun q => by omega, fun q => by omega⟩
  have kp : ∀ (σ' : Sg), Kp t σ σ' → Fr (FLw t) σ σ' ∧ (∀ k, (k < 8 ∨ k = 10 ∨ 13 ≤ k) → gI σ' 83 k = gI σ 83 k) ∧ (∀ k, gR σ' 83 k = gR σ 83 k) ∧ rd σ' 83 9 = 0 := fun σ' q => ⟨q.1, fun k hk => q.2.1 k (by omega), q.2.2, by rw [q.rd (by omega)]; exact h9⟩
  -- what the top is
  have wt : ∀ s : List Int, (∀ x, x ∈ s → x ∈ opsL) → wB (90000 + wo (tp s)) = true ∧ ((90000 + wo (tp s) = 90034) = (tp s = 41)) ∧ ((90000 + wo (tp s) = 90036) = (tp s = 40)) ∧ wo (tp s) < 42 ∧ ((23 ≤ wo (tp s) ∧ wo (tp s) ≤ 28) ↔ (10 ≤ tp s ∧ tp s ≤ 15)) := fun s hs => by
    have key : ∀ x, x ∈ opsL → wo x < 42 ∧ ((23 ≤ wo x ∧ wo x ≤ 28) ↔ (10 ≤ x ∧ x ≤ 15)) := by decide +kernel
    cases s with
    | nil => exact ⟨rfl, propext ⟨fun q => absurd q (by decide), fun q => absurd q (by decide)⟩, propext ⟨fun q => absurd q (by decide), fun q => absurd q (by decide)⟩, by decide, ⟨fun q => absurd q (by decide), fun q => absurd q (by decide)⟩⟩
    | cons x r =>
      have hx := hs x List.mem_cons_self
      obtain ⟨a1, -, -, -, -, -, -, -, -, a10, a11, -⟩ := wo_k x hx
      exact ⟨a1, propext ⟨fun q => a10.1 (by rw [tp_cons] at q; omega), fun q => by have := a10.2 q; rw [tp_cons]; omega⟩, propext ⟨fun q => a11.1 (by rw [tp_cons] at q; omega), fun q => by have := a11.2 q; rw [tp_cons]; omega⟩, (key x hx).1, (key x hx).2⟩
  unfold bhF at h0 hf
  apply wR_readBehindOne
  simp only [pI, pL, pR, pV, i10, ↓reduceIte, eR_readBehindOne_0]
  refine sR_top hC.2.1 (by omega) hC.2.2.1 ?_
  obtain ⟨wt1, wt2, -⟩ := wt st hv
  simp only [pI, pL, pR, pV, i10, ↓reduceIte, eR_readBehindOne_4]
  rw [wt1, t3', k1]
  simp only [cond, wt2, w 19]
  by_cases c1 : tp st = 41
  · rw [if_pos c1] at h0 hf ⊢
    by_cases c2 : o = 19
    · rw [if_pos c2] at h0 hf ⊢
      cases st with
      | nil =>
        rw [tp_nil] at c1
        exact absurd c1 (by decide)
      | cons x r =>
        have c1 : x = 41 := c1
        subst c1
        have g11 : (gI σ 83 11).toInt = ((r.length + 1 : Nat) : Int) := hC.2.1
        rw [List.length_cons] at hl53
        refine sR_push (t := t) (x := 8) (st := r) ht (by rw [rdeq, tM (by rw [g11, tl1]; omega), g11, tl1]; omega) (Stk.of (σ := σ) r (fun _ _ => rfl) hC.2.2.1.2) (by omega) (wo_k 8 (by decide)).1 rfl (fun σ' hK e1 e2 e3 e4 e5 => ?_)
        simp only [pI, pL, pR, pV, i10, ↓reduceIte, eR_readBehindOne_37, eR_readBehindOne_90]
        have hK2 : Kp t σ σ' := Kp.tr (Kp.i (by omega)) hK
        obtain ⟨a1, a2, a3, a4⟩ := kp σ' hK2
        refine h0 rfl σ' a1 a2 a3 ?_ (Or.inr ⟨show ¬ (0 : Int) = 2 by decide, a4, e5⟩)
        show CP t F (8 :: r) (cd ++ []) σ'
        rw [List.append_nil]
        refine hC.st (fun a k ha => by rw [e4 a k ha, rdne (by omega)]) (hK2.2.2 6) e2 e1 ?_
        rw [e3, rdne2 (by omega)]
        exact hC.2.2.2.1
    · rw [if_neg c2] at h0 hf ⊢
      simp only [pI, pL, pR, pV, i10, ↓reduceIte, eR_readBehindOne_40]
      refine sR_blame (t := t) h13 t1' (fun hb => ?_)
      simp only [pI, pL, pR, pV, i10, ↓reduceIte, eR_readBehindOne_45, eR_readBehindOne_90]
      exact hf (show ¬ (1 : Int) = 0 by decide) _ hb
  rw [if_neg c1] at h0 hf ⊢
  simp only [pI, pL, pR, pV, i10, ↓reduceIte, eR_readBehindOne_48]
  have kk5 : (5 : Int32).toInt = 5 := rfl
  rw [t3', k1]
  simp only [cond, ilt, kk5]
  by_cases c2 : 29 ≤ o ∧ o ≤ 32
  · have hlv := k6.2 c2
    rw [if_pos c2] at h0 hf
    rw [if_neg (by omega)]
    obtain ⟨ow, olv⟩ := ow1 o ho c2.1 c2.2
    have hx : (o : Int) - 25 ∈ opsL := ops_in (by omega)
    have hkx : rk ((o : Int) - 25) = 5 ∨ rk ((o : Int) - 25) = 6 := by
      have : (o : Int) - 25 = 4 ∨ (o : Int) - 25 = 5 ∨ (o : Int) - 25 = 6 ∨ (o : Int) - 25 = 7 := by omega
      rcases this with e | e | e | e <;> rw [e] <;> decide
    generalize (o : Int) - 25 = x at *
    refine sR_down (l := l) ht olv (by omega) i1 hW (by omega) (by omega) hC (fun σ1 hK1 hC1 e8 => ?_)
    have hlen := setl_len (k := rk x) st
    simp only [pI, pL, pR, pV, i10, ↓reduceIte, eR_readBehindOne_70]
    refine sR_push (t := t) (x := x) ht hC1.2.1 hC1.2.2.1 (by omega) (wo_k x hx).1 (by rw [hK1.2.2, t3', ← ow]) (fun σ' hK e1 e2 e3 e4 e5 => ?_)
    simp only [pI, pL, pR, pV, i10, ↓reduceIte, eR_readBehindOne_78, eR_readBehindOne_90]
    obtain ⟨a1, a2, a3, a4⟩ := kp σ' (hK1.tr hK)
    refine h0 rfl σ' a1 a2 a3 (hC1.st e4 (hK.2.2 6) e2 e1 ?_) (Or.inr ⟨show ¬ (0 : Int) = 2 by decide, a4, e5⟩)
    rw [e3, hC1.2.2.2.1, dep_c, if_neg (by omega), Nat.add_zero]
  rw [if_neg c2] at h0 hf
  have hlv : ¬ 5 ≤ (wfI 2 (90000 + o)).toInt := fun q => c2 (k6.1 q)
  rw [if_pos (by omega)]
  simp only [pI, pL, pR, pV, i10, ↓reduceIte, eR_readBehindOne_81]
  refine sR_down (l := l) ht kk5 (by decide) i1 hW (by omega) (by omega) hC (fun σ1 hK1 hC1 e8 => ?_)
  have hlen := setl_len (k := 5) st
  obtain ⟨s5, d5⟩ := setl_sv (k := 5) st i1
  obtain ⟨t5, -⟩ := set5_top st i1 hW c1
  generalize hs1 : (setl 5 st).1 = s at *
  generalize hs2 : (setl 5 st).2 = sc at *
  have hvs : ∀ x, x ∈ s → x ∈ opsL := fun x hx => ops_sv s5 hx
  have f4 : gR σ1 83 4 = 90000 + o := by rw [hK1.2.2]; exact t3'
  have f7 : rd σ1 83 7 = l := by rw [hK1.rd (by omega)]; exact h7
  have f13 : rd σ1 83 13 = 0 := by rw [hK1.rd (by omega)]; exact h13
  have f2 : rd σ1 83 2 = p := by rw [hK1.rd (by omega)]; exact t1'
  have f8 : rd σ1 83 8 = 0 := e8.trans h8
  obtain ⟨ws1, ws2, ws3, ws4, ws5⟩ := wt s hvs
  have wW : Wv s := by unfold Wv; omega
  have h300 : F + (cd ++ sc).length + s.length ≤ 300 := by rw [List.length_append]; omega
  simp only [pI, pL, pR, pV, i10, ↓reduceIte, eR_readBehindOne_86]
  have fin : ∀ σ' : Sg, Φ none σ' → bR_readBehindOne_90 true NOB (wp true (d + 4)) Φ (kR_readBehindOne (d + 4) Φ) [.ref 83] [] σ' := fun σ' q => by
    simp only [pI, pL, pR, pV, i10, ↓reduceIte, eR_readBehindOne_90]
    exact q
  apply wR_readBehindSum
  have done : ∀ σ' : Sg, Φ none σ' → bR_readBehindSum_182 true NOB (wp true (d + 3)) (pV (bR_readBehindOne_90 true NOB (wp true (d + 4)) Φ (kR_readBehindOne (d + 4) Φ)) [.ref 83] []) (kR_readBehindSum (d + 3) (pV (bR_readBehindOne_90 true NOB (wp true (d + 4)) Φ (kR_readBehindOne (d + 4) Φ)) [.ref 83] [])) [.ref 83] [] σ' := fun σ' q => by
    simp only [pI, pL, pR, pV, i10, ↓reduceIte, eR_readBehindSum_182]
    exact fin σ' q
  -- the last question
  have q127 : ¬ (o = 37 ∧ tp s = 40) → ¬ ((23 ≤ o ∧ o ≤ 28) ∧ l = 0 ∧ (tp s = -1 ∨ (20 ≤ tp s ∧ tp s ≤ 22))) → ¬ ((o = 20 ∨ o = 21) ∧ (10 ≤ tp s ∧ tp s ≤ 15)) → bR_readBehindSum_127 true NOB (wp true (d + 3)) (pV (bR_readBehindOne_90 true NOB (wp true (d + 4)) Φ (kR_readBehindOne (d + 4) Φ)) [.ref 83] []) (kR_readBehindSum (d + 3) (pV (bR_readBehindOne_90 true NOB (wp true (d + 4)) Φ (kR_readBehindOne (d + 4) Φ)) [.ref 83] [])) [.ref 83] [] σ1 := by
    intro n1 n2 n3
    rw [if_neg n1, if_neg n2, if_neg n3] at h0 hf
    have no : ¬ (o = 38 ∧ (l = 0 ∧ (10 ≤ tp s ∧ tp s ≤ 15) ∨ l ≠ 0 ∧ tp s = -1)) → bR_readBehindSum_177 true NOB (wp true (d + 3)) (pV (bR_readBehindOne_90 true NOB (wp true (d + 4)) Φ (kR_readBehindOne (d + 4) Φ)) [.ref 83] []) (kR_readBehindSum (d + 3) (pV (bR_readBehindOne_90 true NOB (wp true (d + 4)) Φ (kR_readBehindOne (d + 4) Φ)) [.ref 83] [])) [.ref 83] [] σ1 := fun q => by
      rw [if_neg q] at hf
      simp only [pI, pL, pR, pV, i10, ↓reduceIte, eR_readBehindSum_177]
      refine sR_blame (t := t) f13 f2 (fun hb => ?_)
      exact done _ (hf (show ¬ (1 : Int) = 0 by decide) _ (Flt.pk hK1 hb))
    have yes : o = 38 ∧ (l = 0 ∧ (10 ≤ tp s ∧ tp s ≤ 15) ∨ l ≠ 0 ∧ tp s = -1) → bR_readBehindSum_164 true NOB (wp true (d + 3)) (pV (bR_readBehindOne_90 true NOB (wp true (d + 4)) Φ (kR_readBehindOne (d + 4) Φ)) [.ref 83] []) (kR_readBehindSum (d + 3) (pV (bR_readBehindOne_90 true NOB (wp true (d + 4)) Φ (kR_readBehindOne (d + 4) Φ)) [.ref 83] [])) [.ref 83] [] σ1 := fun q => by
      rw [if_pos q] at h0
      simp only [pI, pL, pR, pV, i10, ↓reduceIte, eR_readBehindSum_164]
      refine sR_down (l := l) ht tl1 (by decide) s5 wW h300 (by omega) hC1 (fun σ2 hK2 hC2 e8' => ?_)
      simp only [pI, pL, pR, pV, i10, ↓reduceIte, eR_readBehindSum_169]
      refine done _ (h0 rfl _ (((hK1.tr hK2).1).tr (Fr.sI (inS_r (lo := 2) (hi := 15) (by simp) (by omega)))) (fun k hk => by rw [gIne2 (by omega)]; exact (hK1.tr hK2).2.1 k (by omega)) (fun k => (hK1.tr hK2).2.2 k) ?_ (Or.inl ⟨rfl, rdeq⟩))
      rw [← List.append_assoc]
      exact hC2.st (fun a k ha => rdne (by omega)) rfl (by rw [rdne2 (by omega)]; exact hC2.2.1) (Stk.of (σ := σ2) _ (fun _ _ => rfl) hC2.2.2.1) (by rw [rdne2 (by omega)]; exact hC2.2.2.2.1)
    have c7 : (gI σ1 83 7 = 0) = (l = 0) := by
      simp only [ieq, show (gI σ1 83 7).toInt = rd σ1 83 7 from rfl, f7, tl0]
      exact propext (by omega)
    have c11 : (gI σ1 83 11 = 0) = (tp s = -1) := by
      simp only [ieq, show (gI σ1 83 11).toInt = rd σ1 83 11 from rfl, hC1.2.1, tl0]
      refine propext ⟨fun q => ?_, fun q => ?_⟩
      · have : s = [] := List.eq_nil_of_length_eq_zero (by omega)
        rw [this]
        rfl
      · rw [tp_0 s5 q]
        rfl
    simp only [pI, pL, pR, pV, i10, ↓reduceIte, eR_readBehindSum_127]
    rw [f4, k1]
    simp only [cond, w 38, c7]
    by_cases e38 : o = 38
    · rw [if_pos e38]
      by_cases el : l = 0
      · rw [if_pos el]
        refine sR_top hC1.2.1 (by omega) hC1.2.2.1 ?_
        simp only [pI, pL, pR, pV, i10, ↓reduceIte, eR_readBehindSum_148]
        rw [ws1]
        simp only [cond]
        refine sK_compares ws4 (fun q => ?_) (fun q => ?_)
        · simp only [pI, pL, pR, pV, i10, ↓reduceIte, eR_readBehindSum_151]
          exact yes ⟨e38, Or.inl ⟨el, ws5.1 q⟩⟩
        · simp only [pI, pL, pR, pV, i10, ↓reduceIte, eR_readBehindSum_151]
          exact no (fun z => by rcases z.2 with z | z
                                · exact q (ws5.2 z.2)
                                · exact z.1 el)
      · rw [if_neg el]
        simp only [pI, pL, pR, pV, i10, ↓reduceIte, eR_readBehindSum_157]
        simp only [c11]
        split
        next q => exact yes ⟨e38, Or.inr ⟨el, q⟩⟩
        next q => exact no (fun z => by rcases z.2 with z | z
                                        · exact el z.1
                                        · exact q z.2)
    · rw [if_neg e38]
      exact no (fun z => e38 z.1)
  have q75 : ¬ (o = 37 ∧ tp s = 40) → ¬ ((23 ≤ o ∧ o ≤ 28) ∧ l = 0 ∧ (tp s = -1 ∨ (20 ≤ tp s ∧ tp s ≤ 22))) → bR_readBehindSum_75 true NOB (wp true (d + 3)) (pV (bR_readBehindOne_90 true NOB (wp true (d + 4)) Φ (kR_readBehindOne (d + 4) Φ)) [.ref 83] []) (kR_readBehindSum (d + 3) (pV (bR_readBehindOne_90 true NOB (wp true (d + 4)) Φ (kR_readBehindOne (d + 4) Φ)) [.ref 83] [])) [.ref 83] [] σ1 := by
    intro n1 n2
    have yes : o = 20 ∨ o = 21 → bR_readBehindSum_95 true NOB (wp true (d + 3)) (pV (bR_readBehindOne_90 true NOB (wp true (d + 4)) Φ (kR_readBehindOne (d + 4) Φ)) [.ref 83] []) (kR_readBehindSum (d + 3) (pV (bR_readBehindOne_90 true NOB (wp true (d + 4)) Φ (kR_readBehindOne (d + 4) Φ)) [.ref 83] [])) [.ref 83] [] σ1 := fun e => by
      simp only [pI, pL, pR, pV, i10, ↓reduceIte, eR_readBehindSum_95]
      refine sR_top hC1.2.1 (by omega) hC1.2.2.1 ?_
      simp only [pI, pL, pR, pV, i10, ↓reduceIte, eR_readBehindSum_99]
      rw [ws1]
      simp only [cond]
      refine sK_compares ws4 (fun q => ?_) (fun q => ?_)
      · have c5 : (o = 20 ∨ o = 21) ∧ (10 ≤ tp s ∧ tp s ≤ 15) := ⟨e, ws5.1 q⟩
        rw [if_neg n1, if_neg n2, if_pos c5] at h0
        obtain ⟨ow, olv⟩ := ow3 o ho (by omega) (by omega)
        have hx : 42 - (o : Int) ∈ opsL := ops_in (by omega)
        have hkx : rk (42 - (o : Int)) = 2 ∨ rk (42 - (o : Int)) = 1 := by rcases e with rfl | rfl <;> decide
        generalize 42 - (o : Int) = x at *
        simp only [pI, pL, pR, pV, i10, ↓reduceIte, eR_readBehindSum_102]
        rw [f4, k1]
        simp only [cond]
        refine sR_down (l := l) ht olv (by omega) s5 wW h300 (by omega) hC1 (fun σ2 hK2 hC2 e8' => ?_)
        have hlen2 := setl_len (k := rk x) s
        simp only [pI, pL, pR, pV, i10, ↓reduceIte, eR_readBehindSum_116]
        refine sR_push (t := t) (x := x) ht hC2.2.1 hC2.2.2.1 (by omega) (wo_k x hx).1 (by rw [hK2.2.2, f4, ← ow]) (fun σ' hK e1 e2 e3 e4 e5 => ?_)
        simp only [pI, pL, pR, pV, i10, ↓reduceIte, eR_readBehindSum_124]
        obtain ⟨a1, a2, a3, a4⟩ := kp σ' ((hK1.tr hK2).tr hK)
        refine done σ' (h0 rfl σ' a1 a2 a3 ?_ (Or.inr ⟨show ¬ (0 : Int) = 2 by decide, a4, e5⟩))
        rw [← List.append_assoc]
        refine hC2.st e4 (hK.2.2 6) e2 e1 ?_
        rw [e3, hC2.2.2.2.1, dep_c, if_neg (by omega), Nat.add_zero]
      · simp only [pI, pL, pR, pV, i10, ↓reduceIte, eR_readBehindSum_102]
        exact q127 n1 n2 (fun z => q (ws5.2 z.2))
    simp only [pI, pL, pR, pV, i10, ↓reduceIte, eR_readBehindSum_75]
    rw [f4, k1]
    simp only [cond, w 21, w 20]
    split
    next e => exact yes (Or.inr e)
    next e1 =>
      split
      next e => exact yes (Or.inl e)
      next e2 => exact q127 n1 n2 (fun z => by omega)
  have q47 : ¬ (o = 37 ∧ tp s = 40) → bR_readBehindSum_47 true NOB (wp true (d + 3)) (pV (bR_readBehindOne_90 true NOB (wp true (d + 4)) Φ (kR_readBehindOne (d + 4) Φ)) [.ref 83] []) (kR_readBehindSum (d + 3) (pV (bR_readBehindOne_90 true NOB (wp true (d + 4)) Φ (kR_readBehindOne (d + 4) Φ)) [.ref 83] [])) [.ref 83] [] σ1 := by
    intro n1
    simp only [pI, pL, pR, pV, i10, ↓reduceIte, eR_readBehindSum_47]
    rw [f4, k1]
    simp only [cond]
    refine sK_compares ho (fun q => ?_) (fun q => ?_)
    · simp only [pI, pL, pR, pV, i10, ↓reduceIte, eR_readBehindSum_54]
      refine sR_isAtAsk hC1.2.1 (by omega) hC1.2.2.1 hvs f7 (fun q2 => ?_) (fun q2 => ?_)
      · rw [if_neg n1, if_pos ⟨q, q2⟩] at h0
        have ow := ow2 o ho q.1 q.2
        have hx : (o : Int) - 13 ∈ opsL := ops_in (by omega)
        have hkx := (rk_t (o := (o : Int) - 13)).2.2.2.2.1 (by omega)
        generalize (o : Int) - 13 = x at *
        simp only [pI, pL, pR, pV, i10, ↓reduceIte, eR_readBehindSum_61]
        refine sR_push (t := t) (x := x) ht hC1.2.1 hC1.2.2.1 (by omega) (wo_k x hx).1 (by rw [f4, ← ow]) (fun σ' hK e1 e2 e3 e4 e5 => ?_)
        simp only [pI, pL, pR, pV, i10, ↓reduceIte, eR_readBehindSum_72]
        obtain ⟨a1, a2, a3, a4⟩ := kp σ' (hK1.tr hK)
        refine done σ' (h0 rfl σ' a1 a2 a3 (hC1.st e4 (hK.2.2 6) e2 e1 ?_) (Or.inr ⟨show ¬ (0 : Int) = 2 by decide, a4, e5⟩))
        rw [e3, hC1.2.2.2.1, dep_c, if_neg (by omega), Nat.add_zero]
      · simp only [pI, pL, pR, pV, i10, ↓reduceIte, eR_readBehindSum_61]
        exact q75 n1 (fun z => q2 z.2)
    · simp only [pI, pL, pR, pV, i10, ↓reduceIte, eR_readBehindSum_54]
      exact q75 n1 (fun z => q z.1)
  simp only [pI, pL, pR, pV, i10, ↓reduceIte, eR_readBehindSum_0]
  rw [f4, k1]
  simp only [cond, w 37]
  by_cases e37 : o = 37
  · rw [if_pos e37]
    refine sR_top hC1.2.1 (by omega) hC1.2.2.1 ?_
    simp only [pI, pL, pR, pV, i10, ↓reduceIte, eR_readBehindSum_14]
    rw [ws1]
    simp only [cond, ws3]
    by_cases e40 : tp s = 40
    · rw [if_pos e40]
      rw [if_pos ⟨e37, e40⟩] at h0
      cases hs : s with
      | nil =>
        rw [hs, tp_nil] at e40
        exact absurd e40 (by decide)
      | cons x r =>
        rw [hs] at e40 hC1 s5 hvs hlen h300
        have e40 : x = 40 := e40
        subst e40
        have g11 : (gI σ1 83 11).toInt = ((r.length + 1 : Nat) : Int) := hC1.2.1
        have hdep : dep (40 :: r) = dep r + 1 := by
          rw [dep_c, if_pos (Or.inl (rk_t.2.1 (by omega)))]
        have g12 : (gI σ1 83 12).toInt = ((dep r + 1 : Nat) : Int) := by
          have := hC1.2.2.2.1
          rw [hdep] at this
          exact this
        have hdl := dep_le r
        rw [List.length_cons] at hlen h300
        have hCr : CP t F r (cd ++ sc) (sI (sI σ1 83 11 (gI σ1 83 11 - 1)) 83 12 (gI (sI σ1 83 11 (gI σ1 83 11 - 1)) 83 12 - 1)) := hC1.pop ht (fun a k ha => by rw [rdne (by omega), rdne (by omega)]) (fun _ _ => rfl) (by rw [rdne2 (by omega), rdeq, tM (by rw [g11, tl1]; omega), g11, tl1]; omega) (by rw [rdeq, gIne2 (by omega), tM (by rw [g12, tl1]; omega), g12, tl1]; omega)
        refine sR_close ht (fun x hx => hvs x (List.mem_cons_of_mem _ hx)) (by omega) (by omega) hCr (fun σ' hK hC' e8' => ?_)
        simp only [pI, pL, pR, pV, i10, ↓reduceIte, eR_readBehindSum_44]
        obtain ⟨a1, a2, a3, a4⟩ := kp σ' ((hK1.tr ((Kp.i (by omega)).tr (Kp.i (by omega)))).tr hK)
        rw [hs] at h0
        refine done σ' (h0 rfl σ' a1 a2 a3 ?_ (Or.inr ⟨show ¬ (1 : Int) = 2 by decide, a4, e8'⟩))
        rw [← List.append_assoc]
        exact hC'
    · rw [if_neg e40]
      exact q47 (fun z => e40 z.2)
  · rw [if_neg e37]
    exact q47 (fun z => e37 z.1)
