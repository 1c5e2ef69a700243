/-! TEXTS: the reference begins a ONE -/
def ST (t L : Nat) (B : Nat → Int) (l : Nat) (Φ : Po) (σ0 : Sg) (i : Nat) (st : List Int) (cd : List (Int × Int)) (fl : Int) : Prop := ∀ σ' : Sg, Fr (FMl t) σ0 σ' → PS t L B l i st cd fl σ' → Φ (some (.int 0)) σ'
def FTe (t : Nat) (Φ : Po) (σ0 : Sg) (f : Int) (p : Nat) : Prop := ∀ (σ' : Sg) (v : Int32), Fr (FMl t) σ0 σ' → rd σ' 120 8 = (p : Nat) → v.toInt = f → Φ (some (.int v)) σ'
def Eo (t L : Nat) (B : Nat → Int) (l : Nat) (Φ : Po) (σ0 : Sg) (i : Nat) (st : List Int) (cd : List (Int × Int)) : Prop := (tp st ≠ 41 → ST t L B l Φ σ0 i st cd 1) ∧ (tp st = 41 → tokO L B i ≠ 19 → FTe t Φ σ0 1 (tokP L B i)) ∧ (tp st = 41 → tokO L B i = 19 → ST t L B l Φ σ0 (tokE L B i) (8 :: st.tail) cd 0)
theorem sM_isOf {d : Nat} {Φ : Po} {σ : Sg} {l : Nat} {x1 : Int32} (h14 : rd σ 120 14 = (l : Nat)) (h1 : x1.toInt < 6 ∨ l = 2 ∨ l = 3 → Φ (some (.int 1)) σ) (h0 : ¬ (x1.toInt < 6 ∨ l = 2 ∨ l = 3) → Φ (some (.int 0)) σ) : wp true (d + 1) nM_isOf [.ref 120, .int x1] σ Φ := by
  have k6 : (6 : Int32).toInt = 6 := rfl
  have k2 : (2 : Int32).toInt = 2 := rfl
  have k3 : (3 : Int32).toInt = 3 := rfl
  have g14 : (gI σ 120 14).toInt = (l : Nat) := h14
  apply wM_isOf
  simp only [pI, pL, pR, pV, i10, ↓reduceIte, eM_isOf_0, eM_isOf_22, eM_isOf_26, eM_isOf_27]
  simp only [ilt, ieq, k6, k2, k3, g14, cond, zB_1, zB_0]
  repeat' split
  all_goals first
    | exact h1 (by omega)
    | exact h0 (by omega)
theorem Sv_ops {l : Nat} {st : List Int} (h : Sv l st) : ∀ x, x ∈ st → x ∈ opsL := fun _ hx => ops_sv h hx
theorem sM_beginOne {d : Nat} {Φ : Po} {t L l i : Nat} {B : Nat → Int} {st : List Int} {cd : List (Int × Int)} {σ : Sg} (ht : t < 4) (g : PS t L B l i st cd 0 σ) (hI : Iw l 0 i st cd 0)
    (hf : (oneF l (tokO L B i) (tokN L B i) st).1 ≠ 0 → FTe t Φ σ (oneF l (tokO L B i) (tokN L B i) st).1 (tokP L B i))
    (h0 : (oneF l (tokO L B i) (tokN L B i) st).1 = 0 → (oneF l (tokO L B i) (tokN L B i) st).2.2.2 = 0 → ST t L B l Φ σ (tokE L B i) (oneF l (tokO L B i) (tokN L B i) st).2.1 (cd ++ (oneF l (tokO L B i) (tokN L B i) st).2.2.1) 0)
    (he : (oneF l (tokO L B i) (tokN L B i) st).1 = 0 → (oneF l (tokO L B i) (tokN L B i) st).2.2.2 = 1 → Eo t L B l Φ σ (tokE L B i) (oneF l (tokO L B i) (tokN L B i) st).2.1 (cd ++ (oneF l (tokO L B i) (tokN L B i) st).2.2.1)) : wp true (d + 7) nM_beginOne [.ref 120] σ Φ := by
  have k1 : (1 : Int32).toInt = 1 := rfl
  have k0 : (0 : Int32).toInt = 0 := rfl
  have k40 : (40 : Int32).toInt = 40 := rfl
  have k45 : (45 : Int32).toInt = 45 := rfl
  have k9 : (9999 : Int32).toInt = 9999 := rfl
  obtain ⟨hT, hk, hi, hP, h18⟩ := id g
  obtain ⟨hS, h8, -, hlen, -⟩ := hI
  have hL := hT.1.1
  have hl53 := hS.len8 h8
  have hv := Sv_ops hS
  have e9 : (gI σ 120 9).toInt = rd σ 120 9 := rfl
  have e10 : (gI σ 120 10).toInt = rd σ 120 10 := rfl
  obtain ⟨s0, s1, ss⟩ := KW_sign hk.2.2.1
  have eO : ordP L B (tokP L B i) = tokO L B i := rfl
  rw [eO] at s0 s1
  have s40 : (rd σ 120 9 = 40) = (tokO L B i = 36) := propext (ss 36 (by decide))
  have s45 : (rd σ 120 9 = 45) = (tokO L B i = 30) := propext (ss 30 (by decide))
  have s1' : (rd σ 120 9 = 1) = (tokO L B i = 39) := propext s1
  have hN := hk.2.2.2
  have hTe := tokE_L hT.1 hi
  have h14 : rd σ 120 14 = (l : Nat) := hP.2.2.1
  have h8p : rd σ 120 8 = (tokP L B i : Nat) := hk.1
  -- opened
  have opd : ∀ (x1 : Int32) (x : Int) (Ψ : Po), x1.toInt = x → (rk x = 0 ∨ rk x = 3 ∨ rk x = 7) → oneF l (tokO L B i) (tokN L B i) st = opn x st → (∀ (σ' : Sg) (v : Int32), Φ (some (.int v)) σ' → Ψ (some (.int v)) σ') → wp true (d + 6) nM_opened [.ref 120, .int x1] σ Ψ := fun x1 x Ψ q1 q2 q3 q4 => by
    rw [q3] at hf h0
    unfold opn at hf h0
    refine sM_opened q1 q2 g (by omega) (by omega) (fun c => ?_) (fun c σ' a b => ?_)
    · rw [if_pos c] at hf
      exact q4 _ _ (hf (show ¬ (3 : Int) = 0 by decide) σ 3 Fr.rf h8p rfl)
    · rw [if_neg c] at h0
      refine q4 _ _ (h0 rfl rfl σ' a ?_)
      show PS t L B l (tokE L B i) (x :: st) (cd ++ []) 0 σ'
      rw [List.append_nil]
      exact b
  -- a value
  have val : ∀ (x1 : Int32) (a b : Int32) (o v : Int), a.toInt = o → b.toInt = v → oneF l (tokO L B i) (tokN L B i) st = emi (o, v) st → bM_beginOne_81 true NOB (wp true (d + 6)) Φ (kM_beginOne (d + 6) Φ) [.ref 120, .int x1] [.int b, .int a, .ref 120] σ := fun x1 a b o v q1 q2 q3 => by
    have hei : i < tokE L B i := by
      have o40 : tokO L B i ≠ 40 := fun z => by
        have : (oneF l (tokO L B i) (tokN L B i) st).1 = 0 := by rw [q3]; rfl
        rw [z] at this
        exact oneF_40 this
      exact (tok_go hT.1 hi o40).1
    rw [q3] at he
    have he := he rfl rfl
    simp only [pI, pL, pR, pV, i10, ↓reduceIte, eM_beginOne_81]
    refine sM_emit ht ⟨hP.1, hP.2.1, hP.2.2.2.2.2.2.1⟩ (by omega) q1 q2 (fun σ1 hF1 r1 r2 r3 => ?_)
    have hT1 := TpM_s hF1 hT
    have hk1 := MTk_s hF1 hk
    have e : ∀ k, k ≠ 13 → rd σ1 120 k = rd σ 120 k := fun k q => by
      show (gI σ1 120 k).toInt = _
      rw [r3 k q]
      rfl
    have hP1 : MPt t l st (cd ++ [(o, v)]) σ1 := ⟨by rw [e _ (by omega)]; exact hP.1, r1, by rw [e _ (by omega)]; exact hP.2.2.1, by rw [e _ (by omega)]; exact hP.2.2.2.1, MStk.of (σ := σ) st (fun k _ => hF1.rd (FMs_no (by omega))) hP.2.2.2.2.1, by rw [e _ (by omega)]; exact hP.2.2.2.2.2.1, r2, by rw [e _ (by omega)]; exact hP.2.2.2.2.2.2.2⟩
    have hl1 : (cd ++ [(o, v)]).length = cd.length + 1 := by rw [List.length_append, List.length_singleton]
    simp only [pI, pL, pR, pV, i10, ↓reduceIte, eM_beginOne_84]
    refine sM_nextP (i := tokE L B i) hT1 hk1.2.1 hTe hP1 (show rd σ1 120 18 = rd σ1 120 18 from rfl) (by omega) (by omega) (fun σ2 a2 b2 => ?_)
    have hFa := (Fr_sl hF1).tr a2
    have ea : cd ++ (emi (o, v) st).2.2.1 = cd ++ [(o, v)] ++ (setl 7 st).2 := by
      show cd ++ (o, v) :: (setl 7 st).2 = _
      rw [List.append_assoc]
      rfl
    rw [ea] at he
    obtain ⟨he1, he2, he3⟩ := he
    have es : (emi (o, v) st).2.1 = (setl 7 st).1 := rfl
    rw [es] at he1 he2 he3
    simp only [pI, pL, pR, pV, i10, ↓reduceIte, eM_beginOne_88]
    refine sM_endOne (d := d + 3) ht b2.1 b2.2.1 hTe b2.2.2.2.1 hv (by omega) (by omega) (fun c σ' x y => ?_) (fun c1 c2 σ' x y => ?_) (fun c1 c2 σ' x y => ?_)
    · simp only [pI, pL, pR, pV, i10, ↓reduceIte, eM_beginOne_92]
      exact he1 c σ' (hFa.tr x) y
    · simp only [pI, pL, pR, pV, i10, ↓reduceIte, eM_beginOne_92]
      exact he2 c1 c2 σ' 1 (hFa.tr x) y rfl
    · simp only [pI, pL, pR, pV, i10, ↓reduceIte, eM_beginOne_92]
      exact he3 c1 c2 σ' (hFa.tr x) y
  apply wM_beginOne
  simp only [pI, pL, pR, pV, i10, ↓reduceIte, eM_beginOne_0]
  simp only [ieq, ile, e9, e10, k1, k9, s1']
  -- behind the number
  have next : (tokO L B i = 39 → tokN L B i ≤ 9999) → bM_beginOne_20 true NOB (wp true (d + 6)) Φ (kM_beginOne (d + 6) Φ) [.ref 120, .retAddr 0] [] σ := fun hnum => by
    simp only [pI, pL, pR, pV, i10, ↓reduceIte, eM_beginOne_20]
    refine sM_nameOf hT hi hk (fun v hv1 => ?_)
    simp only [pI, pL, pR, pV, i10, ↓reduceIte, eM_beginOne_24]
    simp only [ilt, hv1, k0]
    by_cases cn : 10 ≤ tokO L B i ∧ tokO L B i ≤ 17
    · rw [if_pos cn] at hv1 ⊢
      have e1 : oneF l (tokO L B i) (tokN L B i) st = if 16 ≤ tokO L B i ∧ l ≠ 2 ∧ l ≠ 3 then (5, st, [], 0) else emi (1, ((tokO L B i : Nat) : Int) - 10) st := by
        unfold oneF
        rw [if_neg (by omega), if_pos cn]
      rw [if_neg (by omega)]
      refine sM_isOf h14 (fun q => ?_) (fun q => ?_)
      · rw [hv1] at q
        rw [if_neg (by omega)] at e1
        simp only [pI, pL, pR, pV, i10, ↓reduceIte, eM_beginOne_34]
        try rw [if_neg (by decide)]
        simp only [pI, pL, pR, pV, i10, ↓reduceIte, eM_beginOne_39]
        simp only [ieq, ilt, e9, k1, k0, s1', hv1]
        rw [if_neg (by omega), if_neg (by omega)]
        simp only [pI, pL, pR, pV, i10, ↓reduceIte, eM_beginOne_51]
        simp only [ieq, e9, k1, s1']
        rw [if_neg (by omega)]
        simp only [pI, pL, pR, pV, i10, ↓reduceIte, eM_beginOne_64, eM_beginOne_65]
        simp only [ieq, e9, k1, s1']
        rw [if_neg (by omega)]
        simp only [pI, pL, pR, pV, i10, ↓reduceIte, eM_beginOne_80]
        exact val v 1 v 1 _ rfl hv1 e1
      · rw [hv1] at q
        rw [if_pos (by omega)] at e1
        rw [e1] at hf
        simp only [pI, pL, pR, pV, i10, ↓reduceIte, eM_beginOne_34]
        try simp only [if_true]
        exact hf (show ¬ (5 : Int) = 0 by decide) σ 5 Fr.rf h8p rfl
    · rw [if_neg cn] at hv1 ⊢
      rw [if_pos (by omega)]
      simp only [pI, pL, pR, pV, i10, ↓reduceIte, eM_beginOne_39]
      simp only [ieq, ilt, e9, k1, k0, s1', hv1]
      by_cases c39 : tokO L B i = 39
      · rw [if_pos c39]
        obtain ⟨n1, n2⟩ := hN c39
        have hn := hnum c39
        have e1 : oneF l (tokO L B i) (tokN L B i) st = emi (0, tokN L B i) st := by
          unfold oneF
          rw [if_pos c39, if_neg (by omega)]
        simp only [pI, pL, pR, pV, i10, ↓reduceIte, eM_beginOne_51]
        simp only [ieq, e9, k1, s1']
        rw [if_pos c39]
        simp only [pI, pL, pR, pV, i10, ↓reduceIte, eM_beginOne_65]
        simp only [ieq, e9, k1, s1']
        rw [if_pos c39]
        exact val v 0 _ 0 _ rfl (by rw [e10]; omega) e1
      · rw [if_neg c39, if_pos (by omega)]
        have e0 : oneF l (tokO L B i) (tokN L B i) st = if tokO L B i = 36 then opn 40 st else if tokO L B i = 30 then opn 3 st else if tokO L B i = 33 then opn 2 st else if tokO L B i = 34 then opn 41 st else if tokO L B i = 22 ∧ l = 0 ∧ (tp st = -1 ∨ (20 ≤ tp st ∧ tp st ≤ 22)) then opn 20 st else (1, st, [], 0) := by
          unfold oneF
          rw [if_neg c39, if_neg cn]
        simp only [pI, pL, pR, pV, i10, ↓reduceIte, eM_beginOne_93]
        simp only [ieq, e9, k40, s40]
        by_cases c36 : tokO L B i = 36
        · rw [if_pos c36] at e0 ⊢
          refine opd 40 40 _ rfl (by decide) e0 (fun σ' w q => ?_)
          simp only [pI, pL, pR, pV, i10, ↓reduceIte, eM_beginOne_108]
          exact q
        rw [if_neg c36] at e0 ⊢
        simp only [pI, pL, pR, pV, i10, ↓reduceIte, eM_beginOne_109]
        simp only [ieq, e9, k45, s45]
        by_cases c30 : tokO L B i = 30
        · rw [if_pos c30] at e0 ⊢
          refine opd 3 3 _ rfl (by decide) e0 (fun σ' w q => ?_)
          simp only [pI, pL, pR, pV, i10, ↓reduceIte, eM_beginOne_123]
          exact q
        rw [if_neg c30] at e0 ⊢
        simp only [pI, pL, pR, pV, i10, ↓reduceIte, eM_beginOne_124]
        refine sM_w4 ?_
        simp only [pI, pL, pR, pV, i10, ↓reduceIte, eM_beginOne_136]
        refine sM_isWord (o := 33) (by decide) wd33 hk (fun c33 => ?_) (fun c33 => ?_)
        · rw [if_pos c33] at e0
          simp only [pI, pL, pR, pV, i10, ↓reduceIte, eM_beginOne_139]
          try rw [if_neg (by decide)]
          refine opd 2 2 _ rfl (by decide) e0 (fun σ' w q => ?_)
          simp only [pI, pL, pR, pV, i10, ↓reduceIte, eM_beginOne_147]
          exact q
        rw [if_neg c33] at e0
        simp only [pI, pL, pR, pV, i10, ↓reduceIte, eM_beginOne_139]
        try simp only [if_true]
        simp only [pI, pL, pR, pV, i10, ↓reduceIte, eM_beginOne_148]
        refine sM_w5 ?_
        simp only [pI, pL, pR, pV, i10, ↓reduceIte, eM_beginOne_162]
        refine sM_isWord (o := 34) (by decide) wd34 hk (fun c34 => ?_) (fun c34 => ?_)
        · rw [if_pos c34] at e0
          simp only [pI, pL, pR, pV, i10, ↓reduceIte, eM_beginOne_165]
          try rw [if_neg (by decide)]
          refine opd 41 41 _ rfl (by decide) e0 (fun σ' w q => ?_)
          simp only [pI, pL, pR, pV, i10, ↓reduceIte, eM_beginOne_174]
          exact q
        rw [if_neg c34] at e0
        simp only [pI, pL, pR, pV, i10, ↓reduceIte, eM_beginOne_165]
        try simp only [if_true]
        have no : ¬ (tokO L B i = 22 ∧ l = 0 ∧ (tp st = -1 ∨ (20 ≤ tp st ∧ tp st ≤ 22))) → bM_beginOne_207 true NOB (wp true (d + 6)) Φ (kM_beginOne (d + 6) Φ) [.ref 120, .int v] [] σ := fun q => by
          rw [if_neg q] at e0
          rw [e0] at hf
          simp only [pI, pL, pR, pV, i10, ↓reduceIte, eM_beginOne_207, eM_beginOne_208]
          exact hf (show ¬ (1 : Int) = 0 by decide) σ 1 Fr.rf h8p rfl
        simp only [pI, pL, pR, pV, i10, ↓reduceIte, eM_beginOne_175]
        refine sM_w3 ?_
        simp only [pI, pL, pR, pV, i10, ↓reduceIte, eM_beginOne_185]
        refine sM_isWord (o := 22) (by decide) wd22 hk (fun c22 => ?_) (fun c22 => ?_)
        · simp only [pI, pL, pR, pV, i10, ↓reduceIte, eM_beginOne_188]
          try rw [if_neg (by decide)]
          refine sM_isAskAhead hP hS (by omega) (fun q => ?_) (fun q => ?_)
          · rw [if_pos ⟨c22, q⟩] at e0
            simp only [pI, pL, pR, pV, i10, ↓reduceIte, eM_beginOne_195]
            try rw [if_neg (by decide)]
            refine opd 20 20 _ rfl (by decide) e0 (fun σ' w z => ?_)
            simp only [pI, pL, pR, pV, i10, ↓reduceIte, eM_beginOne_204, eM_beginOne_208]
            exact z
          · simp only [pI, pL, pR, pV, i10, ↓reduceIte, eM_beginOne_195]
            try simp only [if_true]
            exact no (fun z => q z.2)
        · simp only [pI, pL, pR, pV, i10, ↓reduceIte, eM_beginOne_188]
          try simp only [if_true]
          exact no (fun z => c22 z.1)
  by_cases c39 : tokO L B i = 39
  · rw [if_pos c39]
    obtain ⟨n1, n2⟩ := hN c39
    by_cases c : rd σ 120 10 ≤ 9999
    · rw [if_pos c]
      exact next (fun _ => by omega)
    · rw [if_neg c]
      have e1 : oneF l (tokO L B i) (tokN L B i) st = (2, st, [], 0) := by
        unfold oneF
        rw [if_pos c39, if_pos (by omega)]
      rw [e1] at hf
      exact hf (show ¬ (2 : Int) = 0 by decide) σ 2 Fr.rf h8p rfl
  · rw [if_neg c39]
    exact next (fun q => absurd q c39)
