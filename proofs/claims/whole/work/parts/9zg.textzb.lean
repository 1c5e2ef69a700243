/-! TEXTS: the reference reads a law -/
theorem oneF_pos {l o : Nat} {n : Int} {st : List Int} : 0 ≤ (oneF l o n st).1 := by
  unfold oneF opn emi
  repeat' split
  all_goals first
    | exact (show (0 : Int) ≤ 2 by decide)
    | exact (show (0 : Int) ≤ 0 by decide)
    | exact (show (0 : Int) ≤ 5 by decide)
    | exact (show (0 : Int) ≤ 3 by decide)
    | exact (show (0 : Int) ≤ 1 by decide)
theorem bhF_pos {l o : Nat} {st : List Int} : 0 ≤ (bhF l o st).1 := by
  unfold bhF
  repeat' split
  all_goals first
    | exact (show (0 : Int) ≤ 0 by decide)
    | exact (show (0 : Int) ≤ 1 by decide)
theorem bhF_ne2 {l : Nat} {st : List Int} (h : tp st = 41) : (bhF l 19 st) = (0, 8 :: st.tail, [], 0) := by
  unfold bhF
  rw [if_pos h]
  try rw [if_pos rfl]
theorem bhF_41 {l o : Nat} {st : List Int} (h : tp st = 41) (ho : o ≠ 19) : (bhF l o st) = (1, st, [], 1) := by
  unfold bhF
  rw [if_pos h, if_neg ho]
/-- the reference stands behind a law that it didn't refuse -/
def PZ (t L : Nat) (B : Nat → Int) (pr : List (Int × Int)) (R : Int × Nat × Nat × List (Int × Int)) (σ0 : Sg) (i : Nat) (σ : Sg) : Prop := Fr (FMl t) σ0 σ ∧ TpM L B σ ∧ MTk L B i σ ∧ i ≤ L ∧ rd σ 120 12 = ((705 * t : Nat) : Int) ∧ (tokO L B i = 38 → R.1 = 0 ∧ R.2.2.1 = tokE L B i ∧ rd σ 120 13 = ((pr ++ R.2.2.2).length : Nat) ∧ MCode σ t 0 (pr ++ R.2.2.2)) ∧ (tokO L B i ≠ 38 → R.1 = 1 ∧ R.2.1 = tokP L B i)
theorem lawF_s {L l k i : Nat} {B : Nat → Int} {st : List Int} {cd : List (Int × Int)} {fl : Int} : lawF L B l (k + 1) i st cd fl = if (stF l (tokO L B i) (tokN L B i) fl st).1 ≠ 0 then ((stF l (tokO L B i) (tokN L B i) fl st).1, tokP L B i, 0, []) else if (stF l (tokO L B i) (tokN L B i) fl st).2.2.2 = 2 then (0, 0, tokE L B i, cd ++ (stF l (tokO L B i) (tokN L B i) fl st).2.2.1) else lawF L B l k (tokE L B i) (stF l (tokO L B i) (tokN L B i) fl st).2.1 (cd ++ (stF l (tokO L B i) (tokN L B i) fl st).2.2.1) (stF l (tokO L B i) (tokN L B i) fl st).2.2.2 := rfl
theorem lM_parsed {d : Nat} {Φ : Po} {t L : Nat} {B : Nat → Int} {l F : Nat} {pr : List (Int × Int)} {x1 : Int32} {σ0 : Sg} (ht : t < 4) (hp : pr.length = F) (hx1 : x1.toInt = if l = 0 then 1 else 0) : ∀ (K k i : Nat) (st : List Int) (cd : List (Int × Int)) (fl : Int) (σ : Sg) (v2 : Value), k ≤ K → L + 2 ≤ k + i → i ≤ L → Fr (FMl t) σ0 σ → PS t L B l i st (pr ++ cd) fl σ → Iv l F i st cd fl → (fl = 1 → tp st ≠ 41) → (∀ (σ' : Sg) (i2 : Nat), PZ t L B pr (lawF L B l k i st cd fl) σ0 i2 σ' → Φ (some (.int 0)) σ') → ((lawF L B l k i st cd fl).1 ≠ 0 → FTe t Φ σ0 (lawF L B l k i st cd fl).1 (lawF L B l k i st cd fl).2.1) → bM_parsed_20 true NOB (wp true (d + 7)) Φ (kM_parsed (d + 7) Φ) [.ref 120, .int x1, v2] [] σ := by
  have k0 : (0 : Int32).toInt = 0 := rfl
  have km : (-1 : Int32).toInt = -1 := rfl
  intro K
  induction K with
  | zero =>
    intro k i st cd fl σ v2 hkK hk hi
    omega
  | succ K ih =>
    intro k i st cd fl σ v2 hkK hk hi hF g hI h41 hz hf
    cases k with
    | zero => omega
    | succ k =>
      obtain ⟨hT, hk1, -, hP, h18⟩ := id g
      have hTp := hT.1
      have hL := hTp.1
      have z38 : ∀ (σ' : Sg) (w : Value), bM_parsed_20 true NOB (wp true (d + 7)) Φ (kM_parsed (d + 7) Φ) [.ref 120, .int x1, .int 0] [] σ' → bM_parsed_38 true NOB (wp true (d + 7)) Φ (kM_parsed (d + 7) Φ) [.ref 120, .int x1, w] [.int 0] σ' := fun σ' w q => by
        simp only [pI, pL, pR, pV, i10, ↓reduceIte, eM_parsed_38]
        try rw [if_pos (by decide)]
        simp only [pI, pL, pR, pV, i10, ↓reduceIte, eM_parsed_45]
        try simp only [if_true]
        exact hM_parsed_20 _ _ _ _ _ q
      have f38 : ∀ (σ' : Sg) (v : Int32) (w : Value), 0 < v.toInt → Φ (some (.int v)) σ' → bM_parsed_38 true NOB (wp true (d + 7)) Φ (kM_parsed (d + 7) Φ) [.ref 120, .int x1, w] [.int v] σ' := fun σ' v w q1 q2 => by
        simp only [pI, pL, pR, pV, i10, ↓reduceIte, eM_parsed_38]
        simp only [ile, k0]
        rw [if_neg (by omega)]
        exact q2
      have eo : ∀ (Ψ : Po) (i2 : Nat) (st2 : List Int) (cd2 : List (Int × Int)), (∀ σ' : Sg, bM_parsed_20 true NOB (wp true (d + 7)) Φ (kM_parsed (d + 7) Φ) [.ref 120, .int x1, .int 0] [] σ' → Ψ (some (.int 0)) σ') → (∀ (σ' : Sg) (v : Int32), 0 < v.toInt → Φ (some (.int v)) σ' → Ψ (some (.int v)) σ') → L + 2 ≤ k + i2 → i2 ≤ L → Iv l F i2 st2 cd2 1 → (∀ (σ' : Sg) (i3 : Nat), PZ t L B pr (lawF L B l k i2 st2 cd2 1) σ0 i3 σ' → Φ (some (.int 0)) σ') → ((lawF L B l k i2 st2 cd2 1).1 ≠ 0 → FTe t Φ σ0 (lawF L B l k i2 st2 cd2 1).1 (lawF L B l k i2 st2 cd2 1).2.1) → Eo t L B l Ψ σ i2 st2 (pr ++ cd2) := fun Ψ i2 st2 cd2 hΨ0 hΨf hk2 hi2 hI2 hz2 hf2 => by
        refine ⟨fun c σ' a b => hΨ0 σ' (ih k i2 st2 cd2 1 σ' _ (by omega) hk2 hi2 (hF.tr a) b hI2 (fun _ => c) hz2 hf2), fun c1 c2 σ' v a b e => ?_, fun c1 c2 σ' a b => ?_⟩
        · cases k with
          | zero => omega
          | succ k =>
            rw [lawF_s] at hf2
            have eS : stF l (tokO L B i2) (tokN L B i2) 1 st2 = (1, st2, [], 1) := (if_neg (by decide)).trans (bhF_41 c1 c2)
            rw [eS] at hf2
            exact hΨf σ' v (by omega) (hf2 (show ¬ (1 : Int) = 0 by decide) σ' v (hF.tr a) b e)
        · cases k with
          | zero => omega
          | succ k =>
            rw [lawF_s] at hz2 hf2
            have eB : bhF l (tokO L B i2) st2 = (0, 8 :: st2.tail, [], 0) := by
              rw [c2]
              exact bhF_ne2 c1
            have eS : stF l (tokO L B i2) (tokN L B i2) 1 st2 = (0, 8 :: st2.tail, [], 0) := (if_neg (by decide)).trans eB
            rw [eS] at hz2 hf2
            have e40 : tokO L B i2 ≠ 40 := by omega
            obtain ⟨e1, e2⟩ := tok_go hTp hi2 e40
            have hIv := (Iv_bh hI2 e1 (o := tokO L B i2) (by rw [eB])).1
            rw [eB] at hIv
            have hIv := hIv (show ¬ (0 : Int) = 2 by decide)
            have hI3 : Iv l F (tokE L B i2) (8 :: st2.tail) (cd2 ++ []) 0 := hIv
            rw [List.append_nil] at hI3
            have hz3 : ∀ (σ' : Sg) (i3 : Nat), PZ t L B pr (lawF L B l k (tokE L B i2) (8 :: st2.tail) (cd2 ++ []) 0) σ0 i3 σ' → Φ (some (.int 0)) σ' := hz2
            have hf3 : (lawF L B l k (tokE L B i2) (8 :: st2.tail) (cd2 ++ []) 0).1 ≠ 0 → FTe t Φ σ0 (lawF L B l k (tokE L B i2) (8 :: st2.tail) (cd2 ++ []) 0).1 (lawF L B l k (tokE L B i2) (8 :: st2.tail) (cd2 ++ []) 0).2.1 := hf2
            rw [List.append_nil] at hz3 hf3
            exact hΨ0 σ' (ih k (tokE L B i2) (8 :: st2.tail) cd2 0 σ' _ (by omega) (by omega) e2 (hF.tr a) b hI3 (fun z => absurd z (by decide)) hz3 hf3)
      rw [lawF_s] at hz hf
      have e18 : (gI σ 120 18).toInt = fl := h18
      have hPl := hP.2.2.1
      have o40 : (stF l (tokO L B i) (tokN L B i) fl st).1 = 0 → tokO L B i ≠ 40 := fun q z => by
        rw [z] at q
        exact stF_40 q
      simp only [pI, pL, pR, pV, i10, ↓reduceIte, eM_parsed_20]
      simp only [ieq, e18, k0]
      rcases hI.2.2.1 with hfl | ⟨hfl, hW⟩
      · subst hfl
        try rw [if_pos rfl]
        have eS : stF l (tokO L B i) (tokN L B i) 0 st = oneF l (tokO L B i) (tokN L B i) st := if_pos rfl
        rw [eS] at hz hf o40
        simp only [pI, pL, pR, pV, i10, ↓reduceIte, eM_parsed_34]
        refine sM_beginOne (d := d) ht g (hI.w hp) (fun q σ' v a b c => ?_) (fun q1 q2 σ' a b => ?_) (fun q1 q2 => ?_)
        · rw [if_pos q] at hf
          have := oneF_pos (l := l) (o := tokO L B i) (n := tokN L B i) (st := st)
          exact f38 σ' v _ (by omega) (hf q σ' v (hF.tr a) b c)
        · rw [if_neg (fun z => z q1), if_neg (by omega)] at hz hf
          obtain ⟨e1, e2⟩ := tok_go hTp hi (o40 q1)
          have hIv := Iv_one hI e1 tokN_0.1 q1
          rw [q2] at hIv hz hf
          rw [List.append_assoc] at b
          exact z38 σ' _ (ih k (tokE L B i) _ _ 0 σ' _ (by omega) (by omega) e2 (hF.tr a) b hIv (fun z => absurd z (by decide)) hz hf)
        · rw [if_neg (fun z => z q1), if_neg (by omega)] at hz hf
          obtain ⟨e1, e2⟩ := tok_go hTp hi (o40 q1)
          have hIv := Iv_one hI e1 tokN_0.1 q1
          rw [q2] at hIv hz hf
          rw [List.append_assoc]
          exact eo _ (tokE L B i) _ _ (fun σ' q => z38 σ' _ q) (fun σ' v y q => f38 σ' v _ y q) (by omega) e2 hIv hz hf
      · subst hfl
        try rw [if_neg (by decide)]
        have h41 := h41 rfl
        have eS : stF l (tokO L B i) (tokN L B i) 1 st = bhF l (tokO L B i) st := if_neg (by decide)
        rw [eS] at hz hf o40
        have hS := hI.1
        have h8 := hI.2.1
        have hl53 := hS.len8 h8
        have hlen := hI.2.2.2.1
        obtain ⟨q1', q2', q3'⟩ := s5F hS hW h41
        refine sM_behindOne (d := d + 3) ht g (hI.w hp) h41 (fun q1 q2 σ' a b => ?_) (fun q1 q2 => ?_) (fun q1 q2 => ?_)
        · rw [if_neg (fun z => z q1), if_neg (by omega)] at hz hf
          obtain ⟨e1, e2⟩ := tok_go hTp hi (o40 q1)
          have hIv := (Iv_bh hI e1 q1).1 (by omega)
          rw [q2] at hIv hz hf
          rw [List.append_assoc] at b
          simp only [pI, pL, pR, pV, i10, ↓reduceIte, eM_parsed_31]
          exact z38 σ' _ (ih k (tokE L B i) _ _ 0 σ' _ (by omega) (by omega) e2 (hF.tr a) b hIv (fun z => absurd z (by decide)) hz hf)
        · rw [if_neg (fun z => z q1), if_neg (by omega)] at hz hf
          obtain ⟨e1, e2⟩ := tok_go hTp hi (o40 q1)
          have hIv := (Iv_bh hI e1 q1).1 (by omega)
          rw [q2] at hIv hz hf
          rw [List.append_assoc]
          refine eo _ (tokE L B i) _ _ (fun σ' q => ?_) (fun σ' v y q => ?_) (by omega) e2 hIv hz hf
          · simp only [pI, pL, pR, pV, i10, ↓reduceIte, eM_parsed_31]
            exact z38 σ' _ q
          · simp only [pI, pL, pR, pV, i10, ↓reduceIte, eM_parsed_31]
            exact f38 σ' v _ y q
        · obtain ⟨-, b2⟩ := bh_no hS hW h41 q1
          obtain ⟨b3, b4⟩ := b2 q2
          have bad : (bhF l (tokO L B i) st).1 = 1 → Φ (some (.int 1)) σ := fun y => by
            rw [if_pos (by omega), y] at hf
            exact hf (by decide) σ 1 hF hk1.1 rfl
          have good : (tp (setl 5 st).1 ≠ 40 ∧ (l ≠ 0 ∨ (10 ≤ tp (setl 5 st).1 ∧ tp (setl 5 st).1 ≤ 15))) → bM_parsed_72 true NOB (wp true (d + 7)) Φ (kM_parsed (d + 7) Φ) [.ref 120, .int x1, .int (-1)] [] σ := fun y => by
            have hlp : (pr ++ cd).length = pr.length + cd.length := List.length_append
            simp only [pI, pL, pR, pV, i10, ↓reduceIte, eM_parsed_72]
            refine sM_settle (d := d + 5) (k := 1) ht rfl (Sv_ops hS) (by decide) (by omega) (by omega) hP (fun σ1 hF1 hP1 => ?_)
            simp only [pI, pL, pR, pV, i10, ↓reduceIte, eM_parsed_77]
            refine hz σ1 i ⟨hF.tr (Fr_sl hF1), TpM_s hF1 hT, MTk_s hF1 hk1, hi, hP1.1, fun w => ?_, fun w => ?_⟩
            · have eb := b3 ⟨w, y.1, y.2⟩
              rw [eb]
              try rw [if_neg (by decide)]
              try rw [if_pos rfl]
              refine ⟨rfl, rfl, ?_, ?_⟩
              · have := hP1.2.1
                rw [List.append_assoc] at this
                exact this
              · have := hP1.2.2.2.2.2.2.1
                rw [List.append_assoc] at this
                exact this
            · have eb := b4 (fun z => w z.1)
              rw [if_pos (by omega)]
              exact ⟨eb, rfl⟩
          simp only [pI, pL, pR, pV, i10, ↓reduceIte, eM_parsed_31, eM_parsed_38]
          try rw [if_pos (by decide)]
          simp only [pI, pL, pR, pV, i10, ↓reduceIte, eM_parsed_45]
          try rw [if_neg (by decide)]
          simp only [pI, pL, pR, pV, i10, ↓reduceIte, eM_parsed_52]
          refine sM_isOpen (d := d + 6) hP (by omega) (fun z => ?_) (fun z => ?_)
          · simp only [pI, pL, pR, pV, i10, ↓reduceIte, eM_parsed_56]
            try rw [if_neg (by decide)]
            simp only [pI, pL, pR, pV, i10, ↓reduceIte, eM_parsed_70]
            exact bad (b4 (fun w => w.2.1 (q2'.mp z)))
          · have z' : tp (setl 5 st).1 ≠ 40 := fun y => z (q2'.mpr y)
            simp only [pI, pL, pR, pV, i10, ↓reduceIte, eM_parsed_56]
            try simp only [if_true]
            simp only [ieq, hx1, k0]
            by_cases c : l = 0
            · rw [if_pos c]
              try rw [if_neg (by decide)]
              refine sM_isCompared (d := d + 5) hP (Sv_ops hS) (by omega) (fun y => ?_) (fun y => ?_)
              · simp only [pI, pL, pR, pV, i10, ↓reduceIte, eM_parsed_67]
                try rw [if_neg (by decide)]
                exact good ⟨z', Or.inr y⟩
              · simp only [pI, pL, pR, pV, i10, ↓reduceIte, eM_parsed_67]
                try simp only [if_true]
                simp only [pI, pL, pR, pV, i10, ↓reduceIte, eM_parsed_70]
                exact bad (b4 (fun w => by
                  rcases w.2.2 with v | v
                  · exact v c
                  · exact y v))
            · rw [if_neg c]
              try rw [if_pos rfl]
              exact good ⟨z', Or.inl c⟩
