/-! TEXTS: the class reads one -/
theorem sI_comm {σ : Sg} {a b k j : Nat} {v w : Int32} (h : a ≠ b) : sI (sI σ a k v) b j w = sI (sI σ b j w) a k v := by
  unfold sI
  refine Prod.ext ?_ rfl
  funext x y
  dsimp only
  by_cases e1 : x = b ∧ y = j
  · rw [if_pos e1, if_neg (by omega), if_pos e1]
  · rw [if_neg e1]
    by_cases e2 : x = a ∧ y = k
    · rw [if_pos e2, if_pos e2]
    · rw [if_neg e2, if_neg e2, if_neg e1]
theorem sR_top {d : Nat} {Φ : Po} {σ : Sg} {st : List Int} (h11 : rd σ 83 11 = st.length) (hl : st.length ≤ 64) (hS : Stk σ st) (h : Φ (some (.ref (90000 + wo (tp st)))) σ) : wp true (d + 1) nR_top [.ref 83] σ Φ := by
  have g11 : (gI σ 83 11).toInt = st.length := h11
  apply wR_top
  simp only [pI, pL, pR, pV, i10, ↓reduceIte, eR_top_0]
  simp only [ile, g11, tl0]
  cases st with
  | nil =>
    rw [if_pos (by simp)]
    simp only [pI, pL, pR, pV, i10, ↓reduceIte, eR_top_21, eR_top_24]
    exact h
  | cons o r =>
    rw [List.length_cons] at g11 hl
    have hm : (gI σ 83 11 - 1).toInt = ((r.length : Nat) : Int) := by rw [tM (by rw [g11, tl1]; omega), g11, tl1]; omega
    have im : ix (gI σ 83 11 - 1) = r.length := ix_of hm
    rw [if_neg (by rw [List.length_cons]; omega), im]
    refine ⟨⟨by omega, by omega⟩, ?_⟩
    simp only [pI, pL, pR, pV, i10, ↓reduceIte, eR_top_24]
    rw [hS.1]
    exact h
theorem sR_push {d : Nat} {Φ : Po} {t : Nat} {σ : Sg} {st : List Int} {x : Int} {w : Nat} (ht : t < 4) (h2 : rd σ 83 11 = st.length) (h3 : Stk σ st) (hl : st.length < 64) (hx : wB (90000 + wo x) = true) (hw : w = 90000 + wo x) (h : ∀ σ' : Sg, Kp t σ σ' → Stk σ' (x :: st) → rd σ' 83 11 = (x :: st).length → rd σ' 83 12 = rd σ 83 12 → (∀ a k, a = 88 + 5 * t ∨ a = 89 + 5 * t → rd σ' a k = rd σ a k) → rd σ' 83 8 = 1 → Φ none σ') : wp true (d + 1) nR_push [.ref 83, .ref w] σ Φ := by
  have g11 : (gI σ 83 11).toInt = st.length := h2
  have k64 : (64 : Int32).toInt = 64 := rfl
  have i11 : ix (gI σ 83 11) = st.length := ix_of g11
  subst hw
  apply wR_push
  simp only [pI, pL, pR, pV, i10, ↓reduceIte, eR_push_0]
  have e84 : (fixL.getD 84 []).isEmpty = true := rfl
  have el : lvx true σ 84 = true := rfl
  simp only [ile, g11, k64, hx, e84, el, Bool.and_true, cond]
  rw [if_neg (by omega), i11]
  refine ⟨⟨by omega, by omega⟩, ?_⟩
  simp only [pI, pL, pR, pV, i10, ↓reduceIte, eR_push_32]
  have e1 : (gI (sR σ 84 st.length (90000 + wo x)) 83 11 + 1).toInt = ((st.length + 1 : Nat) : Int) := by
    rw [gI_sR, tq1 _ (by omega), g11]
    omega
  refine h _ (((Kp.r hl).tr (Kp.i (by omega))).tr (Kp.i (by omega))) ⟨?_, ?_⟩ ?_ ?_ (fun a k ha => ?_) rdeq
  · rw [gR_sI, gR_sI, gR_sR, if_pos ⟨rfl, rfl⟩]
  · exact Stk.of (σ := σ) st (fun k hk => by rw [gR_sI, gR_sI, gR_sR, if_neg (by omega)]) h3
  · rw [rdne2 (by omega), rdeq, e1]
    rfl
  · rw [rdne2 (by omega), rdne2 (by omega)]
    rfl
  · rw [rdne (by omega), rdne (by omega)]
    rfl
/-- a fault, its place -/
def Flt (t : Nat) (f p : Int) (σ σ' : Sg) : Prop := Fr (FLw t) σ σ' ∧ rd σ' 83 13 = f ∧ rd σ' 83 14 = p ∧ gR σ' 83 6 = gR σ 83 6 ∧ rd σ' 83 7 = rd σ 83 7
theorem Flt.kp {t : Nat} {f p : Int} {a b c : Sg} (h : Flt t f p a b) (g : Kp t b c) : Flt t f p a c := ⟨h.1.tr g.1, by rw [g.rd (by omega)]; exact h.2.1, by rw [g.rd (by omega)]; exact h.2.2.1, (g.2.2 6).trans h.2.2.2.1, by rw [g.rd (by omega)]; exact h.2.2.2.2⟩
theorem Flt.pk {t : Nat} {f p : Int} {a b c : Sg} (g : Kp t a b) (h : Flt t f p b c) : Flt t f p a c := ⟨g.1.tr h.1, h.2.1, h.2.2.1, h.2.2.2.1.trans (g.2.2 6), by rw [h.2.2.2.2, g.rd (by omega)]⟩
theorem sR_blame {d t : Nat} {Φ : Po} {σ : Sg} {x : Int32} {p : Int} (h0 : rd σ 83 13 = 0) (hp : rd σ 83 2 = p) (h : Flt t x.toInt p σ (sI (sI σ 83 13 x) 83 14 (gI (sI σ 83 13 x) 83 2)) → Φ none (sI (sI σ 83 13 x) 83 14 (gI (sI σ 83 13 x) 83 2))) : wp true (d + 1) nR_blame [.ref 83, .int x] σ Φ := by
  have c0 : (gI σ 83 13 = 0) = (rd σ 83 13 = 0) := by rw [ieq]; rfl
  apply wR_blame
  simp only [pI, pL, pR, pV, i10, ↓reduceIte, eR_blame_0]
  simp only [c0]
  rw [if_pos h0]
  simp only [pI, pL, pR, pV, i10, ↓reduceIte, eR_blame_20]
  refine h ⟨(Fr.sI (inS_r (lo := 2) (hi := 15) (by simp) (by omega))).tr (Fr.sI (inS_r (lo := 2) (hi := 15) (by simp) (by omega))), ?_, ?_, rfl, ?_⟩
  · rw [rdne2 (by omega), rdeq]
  · rw [rdeq, gIne2 (by omega)]
    exact hp
  · rw [rdne2 (by omega), rdne2 (by omega)]
theorem blame_cp {t F : Nat} {st : List Int} {cd : List (Int × Int)} {σ : Sg} {x : Int32} (ht : t < 4) (h : CP t F st cd σ) : CP t F st cd (sI (sI σ 83 13 x) 83 14 (gI (sI σ 83 13 x) 83 2)) := h.st (fun a k ha => by rw [rdne (by omega), rdne (by omega)]) rfl (by rw [rdne2 (by omega), rdne2 (by omega)]; exact h.2.1) (Stk.of (σ := σ) st (fun _ _ => rfl) h.2.2.1) (by rw [rdne2 (by omega), rdne2 (by omega)]; exact h.2.2.2.1)
/-- a word's word taken off -/
theorem CP.pop {t F : Nat} {o : Int} {r : List Int} {cd : List (Int × Int)} {σ σ' : Sg} (ht : t < 4) (h : CP t F (o :: r) cd σ) (e1 : ∀ a k, a = 88 + 5 * t ∨ a = 89 + 5 * t → rd σ' a k = rd σ a k) (e2 : ∀ a k, gR σ' a k = gR σ a k) (h2 : rd σ' 83 11 = r.length) (h4 : rd σ' 83 12 = dep r) : CP t F r cd σ' := h.st e1 (e2 _ _) h2 (Stk.of r (fun k _ => e2 _ _) h.2.2.1.2) h4
theorem dep_le : ∀ st : List Int, dep st ≤ st.length
  | [] => Nat.le_refl _
  | o :: r => by
    have := dep_le r
    rw [dep_c, List.length_cons]
    split <;> omega
theorem lR_close {d : Nat} {Φ : Po} {t F : Nat} {σ0 : Sg} (ht : t < 4) : ∀ (st : List Int) (cd : List (Int × Int)) (σ : Sg), (∀ x, x ∈ st → x ∈ opsL) → F + cd.length + st.length ≤ 300 → st.length ≤ 64 → Kp t σ0 σ → CP t F st cd σ → rd σ 83 8 = 0 → (∀ σ' : Sg, Kp t σ0 σ' → CP t F (setl 7 st).1 (cd ++ (setl 7 st).2) σ' → rd σ' 83 8 = 0 → Φ none σ') → bR_closeOne_5 true NOB (wp true (d + 1)) Φ (kR_closeOne (d + 1) Φ) [.ref 83] [] σ := by
  intro st
  induction st with
  | nil =>
    intro cd σ hv h300 h64 hK hC h8 h
    have g11 : (gI σ 83 11).toInt = 0 := hC.2.1
    simp only [pI, pL, pR, pV, i10, ↓reduceIte, eR_closeOne_5]
    simp only [ile, g11, tl0]
    rw [if_pos (by omega)]
    simp only [pI, pL, pR, pV, i10, ↓reduceIte, eR_closeOne_79]
    exact h σ hK (by show CP t F [] (cd ++ []) σ; rw [List.append_nil]; exact hC) h8
  | cons o r ih =>
    intro cd σ hv h300 h64 hK hC h8 h
    obtain ⟨k1, k2, k3, k4, k5, k6, k7, k8, k9, k10, k11, k12⟩ := wo_k o (hv o List.mem_cons_self)
    have g11 : (gI σ 83 11).toInt = ((r.length + 1 : Nat) : Int) := hC.2.1
    have g12 : (gI σ 83 12).toInt = ((dep (o :: r) : Nat) : Int) := hC.2.2.2.1
    have hdl := dep_le r
    have e : setl 7 (o :: r) = if 7 ≤ rk o then ((setl 7 r).1, (o, 0) :: (setl 7 r).2) else (o :: r, []) := rfl
    have c7 : 7 ≤ rk o ↔ (o = 2 ∨ o = 3 ∨ o = 8) := by
      unfold rk
      repeat' split
      all_goals omega
    have top : ∀ Ψ : Po, Ψ (some (.ref (90000 + wo o))) σ → wp true (d + 1) nR_top [.ref 83] σ Ψ := fun Ψ q => sR_top hC.2.1 h64 hC.2.2.1 q
    rw [List.length_cons] at h300 h64
    have go : (o = 2 ∨ o = 3 ∨ o = 8) → bR_closeOne_42 true NOB (wp true (d + 1)) Φ (kR_closeOne (d + 1) Φ) [.ref 83] [] σ := fun q => by
      rw [e, if_pos (c7.2 q)] at h
      have hdep : dep (o :: r) = dep r + 1 := by
        rw [dep_c, if_pos (Or.inr (Or.inr ((rk_t (o := o)).1 (by omega))))]
      rw [hdep] at g12
      simp only [pI, pL, pR, pV, i10, ↓reduceIte, eR_closeOne_42]
      refine top _ ?_
      simp only [pI, pL, pR, pV, i10, ↓reduceIte, eR_closeOne_50]
      rw [k1, hC.1, (tx_o ht σ).1]
      simp only [cond]
      refine sT_put ht hC.2.2.2.2.1 (by omega) (fun v hv2 => ?_)
      obtain ⟨p1, p2⟩ := hC.put (x := wfI 1 (90000 + wo o)) (o := o) (v := 0) ht (by omega) (Or.elim k2 (fun z => absurd z (by omega)) (fun k2 => Or.elim k2 (fun z => absurd z (by omega)) id)) hv2
      generalize hτ : sI (sI σ (89 + 5 * t) (F + cd.length) (wfI 1 (90000 + wo o))) (88 + 5 * t) 1 v = τ at *
      have t11 : (gI τ 83 11).toInt = ((r.length + 1 : Nat) : Int) := p2.2.1
      have t12 : (gI τ 83 12).toInt = ((dep r + 1 : Nat) : Int) := by
        have := p2.2.2.2.1
        rw [hdep] at this
        exact this
      have t8 : rd τ 83 8 = 0 := by
        rw [← hτ, rdne (by omega), rdne (by omega)]
        exact h8
      simp only [pI, pL, pR, pV, i10, ↓reduceIte, eR_closeOne_56]
      refine hR_closeOne_5 _ _ _ _ _ (ih (cd ++ [(o, 0)]) _ (fun x hx => hv x (List.mem_cons_of_mem _ hx)) (by rw [List.length_append, List.length_singleton]; omega) (by omega) ((hK.tr p1).tr ((Kp.i (by omega)).tr (Kp.i (by omega)))) (p2.pop ht (fun a k ha => by rw [rdne (by omega), rdne (by omega)]) (fun _ _ => rfl) ?_ ?_) ?_ (fun σ' h1 h2 h3 => ?_))
      · rw [rdne2 (by omega), rdeq, tM (by rw [t11, tl1]; omega), t11, tl1]; omega
      · rw [rdeq, gIne2 (by omega), tM (by rw [t12, tl1]; omega), t12, tl1]; omega
      · rw [rdne2 (by omega), rdne2 (by omega)]; exact t8
      · refine h σ' h1 ?_ h3
        rw [List.append_assoc] at h2
        exact h2
    simp only [pI, pL, pR, pV, i10, ↓reduceIte, eR_closeOne_5]
    simp only [ile, g11, tl0]
    rw [if_neg (by omega)]
    refine top _ ?_
    have w35 : (90000 + wo o = 90035) = (o = 3) := propext ⟨fun q => k7.1 (by omega), fun q => by rw [k7.2 q]⟩
    have w33 : (90000 + wo o = 90033) = (o = 2) := propext ⟨fun q => k8.1 (by omega), fun q => by rw [k8.2 q]⟩
    have w19 : (90000 + wo o = 90019) = (o = 8) := propext ⟨fun q => k9.1 (by omega), fun q => by rw [k9.2 q]⟩
    simp only [pI, pL, pR, pV, i10, ↓reduceIte, eR_closeOne_16]
    rw [k1]
    simp only [cond, w35]
    split
    next q => exact go (by omega)
    next q1 =>
      refine top _ ?_
      simp only [pI, pL, pR, pV, i10, ↓reduceIte, eR_closeOne_26]
      rw [k1]
      simp only [cond, w33]
      split
      next q => exact go (by omega)
      next q2 =>
        refine top _ ?_
        simp only [pI, pL, pR, pV, i10, ↓reduceIte, eR_closeOne_36]
        rw [k1]
        simp only [cond, w19]
        split
        next q => exact go (by omega)
        next q3 =>
          rw [e, if_neg (fun z => by have := c7.1 z; omega)] at h
          simp only [pI, pL, pR, pV, i10, ↓reduceIte, eR_closeOne_79]
          exact h σ hK (by show CP t F (o :: r) (cd ++ []) σ; rw [List.append_nil]; exact hC) h8
theorem sR_close {d : Nat} {Φ : Po} {t F : Nat} {σ : Sg} {st : List Int} {cd : List (Int × Int)} (ht : t < 4) (hv : ∀ x, x ∈ st → x ∈ opsL) (h300 : F + cd.length + st.length ≤ 300) (h64 : st.length ≤ 64) (hC : CP t F st cd σ) (h : ∀ σ' : Sg, Kp t σ σ' → CP t F (setl 7 st).1 (cd ++ (setl 7 st).2) σ' → rd σ' 83 8 = 0 → Φ none σ') : wp true (d + 2) nR_closeOne [.ref 83] σ Φ := by
  apply wR_closeOne
  simp only [pI, pL, pR, pV, i10, ↓reduceIte, eR_closeOne_0]
  exact lR_close ht st cd _ hv h300 h64 (Kp.i (by omega)) (hC.st (fun a k ha => rdne (by omega)) rfl (by rw [rdne2 (by omega)]; exact hC.2.1) (Stk.of (σ := σ) st (fun _ _ => rfl) hC.2.2.1) (by rw [rdne2 (by omega)]; exact hC.2.2.2.1)) rdeq h
theorem hR_putDownTo_0 (d : Nat) (Φ : Po) (ls st : List Value) (σ : Sg) (h : bR_putDownTo_0 true NOB (wp true d) Φ (kR_putDownTo d Φ) ls st σ) : kR_putDownTo d Φ 0 ls st σ := Ev.i h
/-- words put down to a level; none that bears on one ONE is met -/
theorem lR_down {d : Nat} {Φ : Po} {t F l : Nat} {σ0 : Sg} {x1 : Int32} {k : Int} (ht : t < 4) (hx : x1.toInt = k) (hk : 1 ≤ k) : ∀ (st : List Int) (cd : List (Int × Int)) (σ : Sg), Sv l st → Wv st → F + cd.length + st.length ≤ 300 → st.length ≤ 64 → Kp t σ0 σ → CP t F st cd σ → rd σ 83 8 = rd σ0 83 8 → (∀ σ' : Sg, Kp t σ0 σ' → CP t F (setl k st).1 (cd ++ (setl k st).2) σ' → rd σ' 83 8 = rd σ0 83 8 → Φ none σ') → bR_putDownTo_0 true NOB (wp true (d + 1)) Φ (kR_putDownTo (d + 1) Φ) [.ref 83, .int x1] [] σ := by
  intro st
  induction st with
  | nil =>
    intro cd σ hS hW h300 h64 hK hC h8 h
    have g11 : (gI σ 83 11).toInt = 0 := hC.2.1
    simp only [pI, pL, pR, pV, i10, ↓reduceIte, eR_putDownTo_0]
    simp only [ile, g11, tl0]
    rw [if_pos (by omega)]
    simp only [pI, pL, pR, pV, i10, ↓reduceIte, eR_putDownTo_65]
    exact h σ hK (by show CP t F [] (cd ++ []) σ; rw [List.append_nil]; exact hC) h8
  | cons o r ih =>
    intro cd σ hS hW h300 h64 hK hC h8 h
    obtain ⟨k1, k2, k3, k4, k5, k6, k7, k8, k9, k10, k11, k12⟩ := wo_k o (ops_sv hS List.mem_cons_self)
    unfold Wv at hW
    rw [tp_cons] at hW
    have r7 : rk o ≠ 7 := by
      unfold rk
      repeat' split
      all_goals omega
    rw [if_neg r7] at k3
    have g11 : (gI σ 83 11).toInt = ((r.length + 1 : Nat) : Int) := hC.2.1
    have g12 : (gI σ 83 12).toInt = ((dep (o :: r) : Nat) : Int) := hC.2.2.2.1
    have hdl := dep_le r
    have e : setl k (o :: r) = if k ≤ rk o then ((setl k r).1, (o, 0) :: (setl k r).2) else (o :: r, []) := rfl
    have top : ∀ Ψ : Po, Ψ (some (.ref (90000 + wo o))) σ → wp true (d + 1) nR_top [.ref 83] σ Ψ := fun Ψ q => sR_top hC.2.1 h64 hC.2.2.1 q
    rw [List.length_cons] at h300 h64
    simp only [pI, pL, pR, pV, i10, ↓reduceIte, eR_putDownTo_0]
    simp only [ile, g11, tl0]
    rw [if_neg (by omega)]
    refine top _ ?_
    simp only [pI, pL, pR, pV, i10, ↓reduceIte, eR_putDownTo_11]
    rw [k1]
    simp only [cond, ilt, k3, hx]
    split
    next q =>
      rw [e, if_neg (by omega)] at h
      simp only [pI, pL, pR, pV, i10, ↓reduceIte, eR_putDownTo_65]
      exact h σ hK (by show CP t F (o :: r) (cd ++ []) σ; rw [List.append_nil]; exact hC) h8
    next q =>
      rw [e, if_pos (by omega)] at h
      have ho : 4 ≤ o ∧ o ≤ 22 := by
        have hm := Sv_mem (o :: r) hS List.mem_cons_self
        have h40 : o = 40 ∨ o = 41 → rk o = 0 := (rk_t (o := o)).2.1
        omega
      have hWr : Wv r := by
        have h1 := hS.1
        unfold Wv
        rcases h1 with h1 | ⟨h1, h2⟩ | ⟨h1, h2⟩ | ⟨h1, -, h2⟩ | ⟨h1, -, h2⟩ | ⟨h1, -, h2⟩ | ⟨h1, -, h2⟩ <;> omega
      have fin : ∀ τ : Sg, Kp t σ0 τ → CP t F (o :: r) cd τ ∨ True → rd τ 83 12 = ((dep r : Nat) : Int) → (∀ a k, a = 88 + 5 * t ∨ a = 89 + 5 * t → rd τ a k = rd σ a k) → (∀ a k, gR τ a k = gR σ a k) → rd τ 83 11 = rd σ 83 11 → rd τ 83 8 = rd σ0 83 8 → bR_putDownTo_38 true NOB (wp true (d + 1)) Φ (kR_putDownTo (d + 1) Φ) [.ref 83, .int x1] [] τ := by
        intro τ hKτ _ h12 e1 e2 e11 e8
        have hCs : CP t F (o :: r) cd σ := hC
        have s11 : rd τ 83 11 = ((o :: r).length : Nat) := e11.trans hC.2.1
        have hSt : Stk τ (o :: r) := Stk.of (o :: r) (fun k _ => e2 _ _) hC.2.2.1
        have sz : rd τ (88 + 5 * t) 1 = ((F + cd.length : Nat) : Int) := (e1 _ _ (Or.inl rfl)).trans hC.2.2.2.2.1
        simp only [pI, pL, pR, pV, i10, ↓reduceIte, eR_putDownTo_38]
        refine sR_top s11 (by rw [List.length_cons]; omega) hSt ?_
        rw [tp_cons]
        simp only [pI, pL, pR, pV, i10, ↓reduceIte, eR_putDownTo_46]
        rw [k1, e2, hC.1, (tx_o ht τ).1]
        simp only [cond]
        refine sT_put ht sz (by omega) (fun v hv2 => ?_)
        -- the rest of the stack
        have hCr : CP t F r cd (sI τ 83 11 (gI τ 83 11 - 1)) := by
          have t11 : (gI τ 83 11).toInt = ((r.length + 1 : Nat) : Int) := s11
          refine hCs.pop ht (fun a k ha => by rw [rdne (by omega)]; exact e1 a k ha) (fun a k => e2 a k) ?_ ?_
          · rw [rdeq, tM (by rw [t11, tl1]; omega), t11, tl1]; omega
          · rw [rdne2 (by omega)]; exact h12
        obtain ⟨p1, p2⟩ := hCr.put (x := wfI 1 (90000 + wo o)) (o := o) (v := 0) ht (by omega) (Or.elim k2 (fun z => absurd z (by omega)) (fun k2 => Or.elim k2 (fun z => absurd z (by omega)) id)) hv2
        simp only [pI, pL, pR, pV, i10, ↓reduceIte, eR_putDownTo_52]
        have comm : sI (sI (sI τ (89 + 5 * t) (F + cd.length) (wfI 1 (90000 + wo o))) (88 + 5 * t) 1 v) 83 11 (gI (sI (sI τ (89 + 5 * t) (F + cd.length) (wfI 1 (90000 + wo o))) (88 + 5 * t) 1 v) 83 11 - 1) = sI (sI (sI τ 83 11 (gI τ 83 11 - 1)) (89 + 5 * t) (F + cd.length) (wfI 1 (90000 + wo o))) (88 + 5 * t) 1 v := by
          rw [gIne (by omega), gIne (by omega), sI_comm (a := 88 + 5 * t) (b := 83) (by omega), sI_comm (a := 89 + 5 * t) (b := 83) (by omega)]
        rw [comm]
        refine hR_putDownTo_0 _ _ _ _ _ (ih (cd ++ [(o, 0)]) _ hS.2 hWr (by rw [List.length_append, List.length_singleton]; omega) (by omega) ((hKτ.tr (Kp.i (by omega))).tr p1) p2 ?_ (fun σ' h1 h2 h3 => ?_))
        · rw [rdne (by omega), rdne (by omega), rdne2 (by omega)]; exact e8
        · refine h σ' h1 ?_ h3
          rw [List.append_assoc] at h2
          exact h2
      refine top _ ?_
      have w22 : (90000 + wo o = 90022) = (o = 20) := propext ⟨fun q => k4.1 (by omega), fun q => by rw [k4.2 q]⟩
      simp only [pI, pL, pR, pV, i10, ↓reduceIte, eR_putDownTo_22]
      rw [k1]
      simp only [cond, w22]
      split
      next q2 =>
        have hdep : dep (o :: r) = dep r + 1 := by
          rw [dep_c, if_pos (Or.inr (Or.inl ((rk_t (o := o)).2.2.2.2.2.1 q2)))]
        rw [hdep] at g12
        refine fin _ (hK.tr (Kp.i (by omega))) (Or.inr trivial) ?_ (fun a k ha => rdne (by omega)) (fun _ _ => rfl) (rdne2 (by omega)) (by rw [rdne2 (by omega)]; exact h8)
        rw [rdeq, tM (by rw [g12, tl1]; omega), g12, tl1]; omega
      next q2 =>
        have hdep : dep (o :: r) = dep r := by
          have hm := Sv_mem (o :: r) hS List.mem_cons_self
          have a3 : 4 ≤ o ∧ o ≤ 7 → rk o = 5 ∨ rk o = 6 := fun z => by
            have : o = 4 ∨ o = 5 ∨ o = 6 ∨ o = 7 := by omega
            rcases this with rfl | rfl | rfl | rfl <;> decide
          have a4 := (rk_t (o := o)).2.2.2.2.1
          have a5 : o = 21 ∨ o = 22 → rk o = 2 ∨ rk o = 1 := fun z => by
            rcases z with rfl | rfl <;> decide
          rw [dep_c, if_neg (by omega), Nat.add_zero]
        rw [hdep] at g12
        exact fin σ hK (Or.inr trivial) g12 (fun _ _ _ => rfl) (fun _ _ => rfl) rfl h8
theorem sR_down {d : Nat} {Φ : Po} {t F l : Nat} {σ : Sg} {x1 : Int32} {k : Int} {st : List Int} {cd : List (Int × Int)} (ht : t < 4) (hx : x1.toInt = k) (hk : 1 ≤ k) (hS : Sv l st) (hW : Wv st) (h300 : F + cd.length + st.length ≤ 300) (h64 : st.length ≤ 64) (hC : CP t F st cd σ) (h : ∀ σ' : Sg, Kp t σ σ' → CP t F (setl k st).1 (cd ++ (setl k st).2) σ' → rd σ' 83 8 = rd σ 83 8 → Φ none σ') : wp true (d + 2) nR_putDownTo [.ref 83, .int x1] σ Φ := by
  apply wR_putDownTo
  exact lR_down ht hx hk st cd σ hS hW h300 h64 Kp.rf hC rfl h
