/-! TEXTS: the class reads a deed -/
theorem Fr.cov {S T : Ls} {σ σ' : Sg} (h : Fr S σ σ') (hs : ∀ e, e ∈ S → ∃ f, f ∈ T ∧ f.1 = e.1 ∧ f.2.1 ≤ e.2.1 ∧ e.2.2 ≤ f.2.2) : Fr T σ σ' := by
  have key : ∀ a k, inS T a k = false → inS S a k = false := fun a k q => not_inS (fun e he z => by
    obtain ⟨f, hf, f1, f2, f3⟩ := hs e he
    obtain ⟨x, lo, hi⟩ := f
    have f1 : x = e.1 := f1
    have f2 : lo ≤ e.2.1 := f2
    have f3 : e.2.2 ≤ hi := f3
    obtain ⟨z1, z2, z3⟩ := z
    have : inS T x k = true := inS_r hf (by omega)
    rw [f1, z1] at this
    rw [this] at q
    cases q)
  exact ⟨fun a k q => h.1 a k (key a k q), fun a k q => h.2.1 a k (key a k q), fun a k q => h.2.2.1 a k (key a k q), h.2.2.2⟩
abbrev F83 : Ls := [(83, 2, 15)]
theorem F83_no {a k : Nat} (h : a ≠ 83 ∨ k < 2 ∨ 15 ≤ k) : inS F83 a k = false := not_inS (fun e he z => by
  rw [List.mem_singleton] at he
  subst he
  have z1 : 83 = a := z.1
  have z2 : 2 ≤ k := z.2.1
  have z3 : k < 15 := z.2.2
  omega)
abbrev Tr : Type := Int × Nat × Nat
noncomputable def wrdT (L : Nat) (B : Nat → Int) (w : Nat) (r : Tr) : Tr := if r.1 ≠ 0 then r else if tokO L B r.2.2 = w then (0, 0, tokE L B r.2.2) else (1, tokP L B r.2.2, 0)
noncomputable def numT (L : Nat) (B : Nat → Int) (lo hi : Int) (r : Tr) : Tr := if r.1 ≠ 0 then r else if tokO L B r.2.2 ≠ 39 then (1, tokP L B r.2.2, 0) else if tokN L B r.2.2 < lo ∨ hi < tokN L B r.2.2 then (2, tokP L B r.2.2, 0) else (0, 0, tokE L B r.2.2)
theorem wrdT_0 {L : Nat} {B : Nat → Int} {w : Nat} {r : Tr} (h : (wrdT L B w r).1 = 0) : r.1 = 0 ∧ tokO L B r.2.2 = w ∧ wrdT L B w r = (0, 0, tokE L B r.2.2) := by
  unfold wrdT at h ⊢
  by_cases c : r.1 ≠ 0
  · rw [if_pos c] at h
    exact absurd h c
  · rw [if_neg c] at h ⊢
    by_cases q : tokO L B r.2.2 = w
    · rw [if_pos q]
      exact ⟨by omega, q, rfl⟩
    · rw [if_neg q] at h
      have h : (1 : Int) = 0 := h
      omega
theorem numT_0 {L : Nat} {B : Nat → Int} {lo hi : Int} {r : Tr} (h : (numT L B lo hi r).1 = 0) : r.1 = 0 ∧ tokO L B r.2.2 = 39 ∧ (lo ≤ tokN L B r.2.2 ∧ tokN L B r.2.2 ≤ hi) ∧ numT L B lo hi r = (0, 0, tokE L B r.2.2) := by
  unfold numT at h ⊢
  by_cases c : r.1 ≠ 0
  · rw [if_pos c] at h
    exact absurd h c
  · rw [if_neg c] at h ⊢
    by_cases q : tokO L B r.2.2 ≠ 39
    · rw [if_pos q] at h
      have h : (1 : Int) = 0 := h
      omega
    · rw [if_neg q] at h ⊢
      by_cases z : tokN L B r.2.2 < lo ∨ hi < tokN L B r.2.2
      · rw [if_pos z] at h
        have h : (2 : Int) = 0 := h
        omega
      · rw [if_neg z]
        exact ⟨by omega, by omega, by omega, rfl⟩
/-- where a deed's reading stands -/
def DS (L : Nat) (B : Nat → Int) (σ0 : Sg) (r : Tr) (σ : Sg) : Prop := Fr F83 σ0 σ ∧ TpC L B σ ∧ gR σ 83 6 = gR σ0 83 6 ∧ (r.1 = 0 ∧ rd σ 83 13 = 0 ∧ CTk L B r.2.2 σ ∧ r.2.2 ≤ L ∧ rd σ 83 14 = rd σ0 83 14 ∨ r.1 ≠ 0 ∧ rd σ 83 13 = r.1 ∧ rd σ 83 14 = r.2.1 ∧ wB (gR σ 83 4) = true)
theorem CTk.w {L i : Nat} {B : Nat → Int} {σ : Sg} (h : CTk L B i σ) : wB (gR σ 83 4) = true := by
  rw [h.2.2.1]
  exact (ord_k _ ordP_b).1
theorem DS.w {L : Nat} {B : Nat → Int} {σ0 σ : Sg} {r : Tr} (h : DS L B σ0 r σ) : wB (gR σ 83 4) = true := by
  rcases h.2.2.2 with q | q
  · exact q.2.2.1.w
  · exact q.2.2.2
theorem TpC_83 {L : Nat} {B : Nat → Int} {σ σ' : Sg} (h : Fr F83 σ σ') (g : TpC L B σ) : TpC L B σ' := ⟨g.1, by rw [h.rd (F83_no (by omega))]; exact g.2.1, fun i hi => by rw [h.rd (F83_no (by omega))]; exact g.2.2 i hi⟩
theorem Fr_av {σ σ' : Sg} (h : Fr FAv σ σ') : Fr F83 σ σ' := h.cov (fun e he => by
  rw [List.mem_singleton] at he
  subst he
  exact ⟨(83, 2, 15), by simp, rfl, by decide, by decide⟩)
theorem sR_blame_on {d : Nat} {Φ : Po} {σ : Sg} {x : Int32} (h0 : rd σ 83 13 ≠ 0) (h : Φ none σ) : wp true (d + 1) nR_blame [.ref 83, .int x] σ Φ := by
  have c0 : (gI σ 83 13 = 0) = (rd σ 83 13 = 0) := by rw [ieq]; rfl
  apply wR_blame
  simp only [pI, pL, pR, pV, i10, ↓reduceIte, eR_blame_0]
  simp only [c0]
  first
    | rw [if_neg h0]
      simp only [pI, pL, pR, pV, i10, ↓reduceIte, eR_blame_20]
      exact h
    | (split <;> (simp only [pI, pL, pR, pV, i10, ↓reduceIte, eR_blame_20]); exact h)
theorem sR_blameD {d : Nat} {Φ : Po} {L : Nat} {B : Nat → Int} {σ0 σ : Sg} {i : Nat} {x : Int32} {f : Int} (hx : x.toInt = f) (hf : f ≠ 0) (g : DS L B σ0 (0, 0, i) σ) (h : ∀ σ' : Sg, DS L B σ0 (f, tokP L B i, 0) σ' → (∀ k, k < 13 → gI σ' 83 k = gI σ 83 k) → Φ none σ') : wp true (d + 1) nR_blame [.ref 83, .int x] σ Φ := by
  obtain ⟨g1, g2, g3, g4⟩ := g
  rcases g4 with ⟨-, g5, g6, g7⟩ | ⟨z, -⟩
  · refine sR_blame (t := 0) (p := tokP L B i) g5 g6.1 (fun _ => ?_)
    have hF : Fr F83 σ (sI (sI σ 83 13 x) 83 14 (gI (sI σ 83 13 x) 83 2)) := (Fr.sI (inS_r (lo := 2) (hi := 15) (by simp) (by omega))).tr (Fr.sI (inS_r (lo := 2) (hi := 15) (by simp) (by omega)))
    refine h _ ⟨g1.tr hF, TpC_83 hF g2, g3, Or.inr ⟨hf, ?_, ?_, g6.w⟩⟩ (fun k hk => by rw [gIne2 (by omega), gIne2 (by omega)])
    · rw [rdne2 (by omega), rdeq]
      exact hx
    · rw [rdeq, gIne2 (by omega)]
      exact g6.1
  · exact absurd rfl z
theorem sR_advD {d : Nat} {Φ : Po} {L : Nat} {B : Nat → Int} {σ0 σ : Sg} {i : Nat} (h40 : tokO L B i ≠ 40) (g : DS L B σ0 (0, 0, i) σ) (h : ∀ σ' : Sg, DS L B σ0 (0, 0, tokE L B i) σ' → Φ none σ') : wp true (d + 7) nR_advance [.ref 83] σ Φ := by
  obtain ⟨g1, g2, g3, g4⟩ := g
  rcases g4 with ⟨-, g5, g6, g7⟩ | ⟨z, -⟩
  · obtain ⟨g7, g8⟩ := g7
    have g7 : i ≤ L := g7
    have g6 : CTk L B i σ := g6
    have e2 := (tokE_b g2.1 g7).2.1
    refine sR_advance g2 g6.2.1 e2 g6.2.2.2.1 (fun σ' hF hT hk => ?_)
    have no : ∀ a j, a ≠ 83 ∨ 6 ≤ j → inS FAv a j = false := fun a j q => not_inS (fun e he z => by
      rw [List.mem_singleton] at he
      subst he
      have z1 : 83 = a := z.1
      have z3 : j < 6 := z.2.2
      omega)
    exact h σ' ⟨g1.tr (Fr_av hF), hT, by rw [hF.2.2.1 _ _ (no _ _ (by omega))]; exact g3, Or.inl ⟨rfl, by rw [hF.rd (no _ _ (by omega))]; exact g5, hk, e2, by rw [hF.rd (no _ _ (by omega))]; exact g8⟩⟩
  · exact absurd rfl z
theorem sR_expect {d : Nat} {Φ : Po} {L : Nat} {B : Nat → Int} {σ0 σ : Sg} {r : Tr} {w r1 : Nat} (hr : r1 = 90000 + w) (hw : w < 40) (g : DS L B σ0 r σ) (h : ∀ σ' : Sg, DS L B σ0 (wrdT L B w r) σ' → Φ none σ') : wp true (d + 8) nR_expect [.ref 83, .ref r1] σ Φ := by
  have c0 : (gI σ 83 13 = 0) = (rd σ 83 13 = 0) := by rw [ieq]; rfl
  have w1 : wB r1 = true := by rw [hr]; exact (ord_k w (by omega)).1
  have w2 := g.w
  apply wR_expect
  simp only [pI, pL, pR, pV, i10, ↓reduceIte, eR_expect_0]
  simp only [c0]
  obtain ⟨f, p, i⟩ := r
  by_cases z : f = 0
  · subst z
    have g4 := g.2.2.2
    rcases g4 with ⟨-, g5, g6, g7⟩ | ⟨z, -⟩
    · have g6 : CTk L B i σ := g6
      have g' : DS L B σ0 (0, 0, i) σ := ⟨g.1, g.2.1, g.2.2.1, Or.inl ⟨rfl, g5, g6, g7⟩⟩
      have eW : wrdT L B w (0, p, i) = if tokO L B i = w then (0, 0, tokE L B i) else (1, tokP L B i, 0) := if_neg (by simp)
      rw [eW] at h
      rw [if_pos g5, w1, w2]
      simp only [cond]
      by_cases q : tokO L B i = w
      · rw [if_pos q] at h
        rw [if_pos (by rw [g6.2.2.1, hr, q])]
        refine sR_advD (by omega) g' (fun σ' a => ?_)
        simp only [pI, pL, pR, pV, i10, ↓reduceIte, eR_expect_19, eR_expect_27]
        exact h σ' a
      · rw [if_neg q] at h
        rw [if_neg (by rw [g6.2.2.1, hr]; omega)]
        simp only [pI, pL, pR, pV, i10, ↓reduceIte, eR_expect_22]
        refine sR_blameD (f := 1) rfl (by decide) g' (fun σ' a _ => ?_)
        simp only [pI, pL, pR, pV, i10, ↓reduceIte, eR_expect_27]
        exact h σ' a
    · exact absurd rfl z
  · have eW : wrdT L B w (f, p, i) = (f, p, i) := if_pos z
    rw [eW] at h
    have g4 := g.2.2.2
    rcases g4 with ⟨y, -⟩ | ⟨-, g5, g6, g7⟩
    · exact absurd y z
    · have g5 : rd σ 83 13 = f := g5
      rw [if_neg (by omega)]
      simp only [pI, pL, pR, pV, i10, ↓reduceIte, eR_expect_22]
      refine sR_blame_on (by omega) ?_
      simp only [pI, pL, pR, pV, i10, ↓reduceIte, eR_expect_27]
      exact h σ g
theorem sR_number {d : Nat} {Φ : Po} {L : Nat} {B : Nat → Int} {σ0 σ : Sg} {r : Tr} {x1 x2 : Int32} {lo hi : Int} (h1 : x1.toInt = lo) (h2 : x2.toInt = hi) (g : DS L B σ0 r σ) (h : ∀ (σ' : Sg) (v : Int32), DS L B σ0 (numT L B lo hi r) σ' → ((numT L B lo hi r).1 = 0 → v.toInt = tokN L B r.2.2) → Φ (some (.int v)) σ') : wp true (d + 8) nR_expectNumber [.ref 83, .int x1, .int x2] σ Φ := by
  have c0 : ∀ τ : Sg, (gI τ 83 13 = 0) = (rd τ 83 13 = 0) := fun τ => by rw [ieq]; rfl
  have w2 := g.w
  apply wR_expectNumber
  simp only [pI, pL, pR, pV, i10, ↓reduceIte, eR_expectNumber_0]
  rw [w2]
  simp only [cond]
  obtain ⟨f, p, i⟩ := r
  by_cases z : f = 0
  · subst z
    have g4 := g.2.2.2
    rcases g4 with ⟨-, g5, g6, g7⟩ | ⟨z, -⟩
    · have g6 : CTk L B i σ := g6
      have g' : DS L B σ0 (0, 0, i) σ := ⟨g.1, g.2.1, g.2.2.1, Or.inl ⟨rfl, g5, g6, g7⟩⟩
      have eW : numT L B lo hi (0, p, i) = if tokO L B i ≠ 39 then (1, tokP L B i, 0) else if tokN L B i < lo ∨ hi < tokN L B i then (2, tokP L B i, 0) else (0, 0, tokE L B i) := if_neg (by simp)
      rw [eW] at h
      have bl : ∀ (σ' : Sg) (f : Int), f ≠ 0 → DS L B σ0 (f, tokP L B i, 0) σ' → (∀ v : Int32, Φ (some (.int v)) σ') → bR_expectNumber_39 true NOB (wp true (d + 7)) Φ (kR_expectNumber (d + 7) Φ) [.ref 83, .int x1, .int x2, .retAddr 0] [] σ' := fun σ' f hf a b => by
        have a4 := a.2.2.2
        rcases a4 with ⟨y, -⟩ | ⟨-, a5, -⟩
        · exact absurd y hf
        · have a5 : rd σ' 83 13 = f := a5
          simp only [pI, pL, pR, pV, i10, ↓reduceIte, eR_expectNumber_39]
          simp only [c0]
          rw [if_neg (by omega)]
          simp only [pI, pL, pR, pV, i10, ↓reduceIte, eR_expectNumber_55]
          exact b _
      by_cases q : tokO L B i ≠ 39
      · rw [if_pos q] at h
        rw [if_neg (by rw [g6.2.2.1]; omega)]
        refine sR_blameD (f := 1) rfl (by decide) g' (fun σ' a _ => ?_)
        simp only [pI, pL, pR, pV, i10, ↓reduceIte, eR_expectNumber_15]
        exact bl σ' 1 (by decide) a (fun v => h σ' v a (fun y => absurd y (show ¬ (1 : Int) = 0 by decide)))
      · rw [if_neg q] at h
        have q : tokO L B i = 39 := by omega
        have hn : (gI σ 83 5).toInt = tokN L B i := g6.2.2.2.2 q
        rw [if_pos (by rw [g6.2.2.1, q])]
        simp only [pI, pL, pR, pV, i10, ↓reduceIte, eR_expectNumber_18]
        simp only [ilt, ile, hn, h1, h2]
        by_cases y : tokN L B i < lo ∨ hi < tokN L B i
        · rw [if_pos y] at h
          have fin : bR_expectNumber_34 true NOB (wp true (d + 7)) Φ (kR_expectNumber (d + 7) Φ) [.ref 83, .int x1, .int x2, .retAddr 0] [] σ := by
            simp only [pI, pL, pR, pV, i10, ↓reduceIte, eR_expectNumber_34]
            refine sR_blameD (f := 2) rfl (by decide) g' (fun σ' a _ => ?_)
            exact bl σ' 2 (by decide) a (fun v => h σ' v a (fun y => absurd y (show ¬ (2 : Int) = 0 by decide)))
          by_cases y1 : tokN L B i < lo
          · rw [if_pos y1]
            exact fin
          · rw [if_neg y1, if_neg (by omega)]
            exact fin
        · rw [if_neg y] at h
          rw [if_neg (by omega), if_pos (by omega)]
          simp only [pI, pL, pR, pV, i10, ↓reduceIte, eR_expectNumber_39]
          simp only [c0]
          rw [if_pos g5]
          refine sR_advD (by omega) g' (fun σ' a => ?_)
          simp only [pI, pL, pR, pV, i10, ↓reduceIte, eR_expectNumber_55]
          exact h σ' _ a (fun _ => hn)
    · exact absurd rfl z
  · have eW : numT L B lo hi (f, p, i) = (f, p, i) := if_pos z
    rw [eW] at h
    have g4 := g.2.2.2
    rcases g4 with ⟨y, -⟩ | ⟨-, g5, g6, g7⟩
    · exact absurd y z
    · have g5 : rd σ 83 13 = f := g5
      have fin : bR_expectNumber_39 true NOB (wp true (d + 7)) Φ (kR_expectNumber (d + 7) Φ) [.ref 83, .int x1, .int x2, .retAddr 0] [] σ := by
        simp only [pI, pL, pR, pV, i10, ↓reduceIte, eR_expectNumber_39]
        simp only [c0]
        rw [if_neg (by omega)]
        simp only [pI, pL, pR, pV, i10, ↓reduceIte, eR_expectNumber_55]
        exact h σ _ g (fun y => absurd y z)
      have fin2 : ∀ x : Int32, wp true (d + 7) nR_blame [.ref 83, .int x] σ (pV (fun a b c => bR_expectNumber_39 true NOB (wp true (d + 7)) Φ (kR_expectNumber (d + 7) Φ) a b c) [.ref 83, .int x1, .int x2, .retAddr 0] []) := fun x => sR_blame_on (by omega) fin
      by_cases q : gR σ 83 4 = 90039
      · rw [if_pos q]
        simp only [pI, pL, pR, pV, i10, ↓reduceIte, eR_expectNumber_18]
        split
        · simp only [pI, pL, pR, pV, i10, ↓reduceIte, eR_expectNumber_34]
          exact fin2 _
        · split
          · exact fin
          · simp only [pI, pL, pR, pV, i10, ↓reduceIte, eR_expectNumber_34]
            exact fin2 _
      · rw [if_neg q]
        refine sR_blame_on (by omega) ?_
        simp only [pI, pL, pR, pV, i10, ↓reduceIte, eR_expectNumber_15]
        exact fin
