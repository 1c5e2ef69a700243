/-! THE CLASS'S WORLD IS COPIED -/
theorem wo_sh {b : Nat} (hb : b = 0 ∨ b = 40) : isO 9 (1 + b) = true ∧ shp (3 + b) = (7, 30) ∧ Nat.beq (3 + b) 94000 = false ∧ (∀ τ : Sg, rfx true τ (1 + b) 0 = 2 + b ∧ rfx true τ (1 + b) 1 = 3 + b ∧ rfx true τ (1 + b) 5 = 34 + b ∧ rfx true τ (1 + b) 7 = 35 + b ∧ rfx true τ (1 + b) 8 = 36 + b ∧ rfx true τ (1 + b) 12 = 37 + b ∧ rfx true τ (1 + b) 13 = 38 + b ∧ rfx true τ (1 + b) 15 = 39 + b ∧ rfx true τ (1 + b) 17 = 40 + b) := by
  rcases hb with rfl | rfl
  · exact ⟨rfl, rfl, rfl, fun _ => ⟨rfl, rfl, rfl, rfl, rfl, rfl, rfl, rfl, rfl⟩⟩
  · exact ⟨rfl, rfl, rfl, fun _ => ⟨rfl, rfl, rfl, rfl, rfl, rfl, rfl, rfl, rfl⟩⟩
theorem wo_row {b : Nat} (hb : b = 0 ∨ b = 40) : shp (2 + b) = (2, 75) ∧ (∀ r, r < 30 → shp (4 + r + b) = (2, 75)) ∧ shp (34 + b) = (2, 6) ∧ shp (35 + b) = (2, 6) ∧ shp (36 + b) = (2, 36) ∧ shp (37 + b) = (2, 8) ∧ shp (38 + b) = (2, 8) ∧ shp (39 + b) = (2, 5) ∧ shp (40 + b) = (2, 5) := by
  rcases hb with rfl | rfl
  · exact ⟨rfl, by decide, rfl, rfl, rfl, rfl, rfl, rfl, rfl⟩
  · exact ⟨rfl, by decide, rfl, rfl, rfl, rfl, rfl, rfl, rfl⟩
theorem wo_by {b : Nat} (hb : b = 0 ∨ b = 40) : ∀ x, x < 41 → bB (x + b) = false ∧ Nat.beq (x + b) 94000 = false := by
  rcases hb with rfl | rfl <;> decide
theorem wo_kept {σ : Sg} {b i : Nat} (hb : b = 0 ∨ b = 40) (h : i < 30) : rfx true σ (3 + b) i = 4 + i + b := by
  rcases hb with rfl | rfl
  · exact rfx3 h
  · have hB : Nat.blt i 30 = true := Nat.ble_eq_true_of_le h
    show (keptR 43 i).getD (gR σ 43 i) = 4 + i + 40
    unfold keptR
    have e1 : (Nat.beq 43 idKa && Nat.blt i 30) = false := by rw [hB]; rfl
    have e2 : (Nat.beq 43 idKb && Nat.blt i 30) = true := by rw [hB]; rfl
    rw [e1, e2]
    show idKb + 1 + i = 4 + i + 40
    show 43 + 1 + i = 4 + i + 40
    omega
/-- a row is copied on -/
theorem cp_row {d : Nat} {Φ : Po} {bs bt : Nat} {S : Ls} {σ0 σ : Sg} {x n : Nat} (hb : (bs = 0 ∧ bt = 40) ∨ (bs = 40 ∧ bt = 0)) (hx : 1 ≤ x ∧ x ≤ 40) (hs : ∀ b, b = 0 ∨ b = 40 → shp (x + b) = (2, n)) (hn : n < 1000) (hi : ∀ k, k < n → inS fW x k = true) (h : Cp bs bt S σ0 σ) (next : ∀ σ' : Sg, Cp bs bt ((x, 0, n) :: S) σ0 σ' → Φ none σ') : wp true (d + 2) nW_copyRow [.ref (x + bs), .ref (x + bt)] σ Φ := by
  have b1 : bs = 0 ∨ bs = 40 := by omega
  have b2 : bt = 0 ∨ bt = 40 := by omega
  exact sW_copyRow (hs _ b1) (hs _ b2) (wo_by b1 x (by omega)) (wo_by b2 x (by omega)) hn (next _ (h.row hb hx hi))
theorem fW_row {x n : Nat} (hm : (x, 0, n) ∈ fW) : ∀ k, k < n → inS fW x k = true := fun _ hk => inS_r hm ⟨Nat.zero_le _, hk⟩
theorem Cp.mo {bs bt : Nat} {S T : Ls} {σ0 σ : Sg} (h : Cp bs bt S σ0 σ) (hs : ∀ x k, (1 ≤ x ∧ x ≤ 40) → inS T x k = true → inS S x k = true) : Cp bs bt T σ0 σ := ⟨h.1, fun x k hx hk => h.2 x k hx (hs x k hx hk)⟩
abbrev rws (i : Nat) : Ls := [(4, 0, 0), (2, 0, 75)] ++ (List.range i).map (fun r => (4 + r, 0, 75))
theorem sW_copyFrom {d : Nat} {Φ : Po} {σ0 : Sg} {bs bt : Nat} (hb : (bs = 0 ∧ bt = 40) ∨ (bs = 40 ∧ bt = 0)) (h : ∀ σ' : Sg, Cp bs bt fW σ0 σ' → Φ none σ') : wp true (d + 3) nW_copyFrom [.ref (1 + bt), .ref (1 + bs)] σ0 Φ := by
  have b1 : bs = 0 ∨ bs = 40 := by omega
  have b2 : bt = 0 ∨ bt = 40 := by omega
  obtain ⟨o1, k1, z1, r1⟩ := wo_sh b1
  obtain ⟨o2, k2, z2, r2⟩ := wo_sh b2
  have ne : bs ≠ bt := by omega
  have ne1 : 1 + bs ≠ 1 + bt := by omega
  -- from block 40 on
  have tail : ∀ (τ : Sg) (x : Int32), Cp bs bt (rws 30) σ0 τ → bW_copyFrom_40 true NOB (wp true (d + 2)) Φ (kW_copyFrom (d + 2) Φ) [.ref (1 + bt), .ref (1 + bs), .int x] [] τ := by
    intro τ x c
    simp only [pI, pL, pR, pV, i10, ↓reduceIte, eW_copyFrom_40]
    simp only [o1, o2, lvx, Bool.true_or, Bool.and_true, cond, (r1 _).2.2.1, (r2 _).2.2.1]
    have c := c.fld (j := 2) hb (by decide)
    have c := c.fld (j := 3) hb (by decide)
    have c := c.fld (j := 4) hb (by decide)
    refine cp_row (x := 34) (n := 6) hb (by omega) (fun b q => (wo_row q).2.2.1) (by omega) (fW_row (by decide)) c (fun τ1 c => ?_)
    simp only [pI, pL, pR, pV, i10, ↓reduceIte, eW_copyFrom_75]
    simp only [o1, o2, lvx, Bool.true_or, Bool.and_true, cond, (r1 _).2.2.2.1, (r2 _).2.2.2.1]
    have c := c.fld (j := 6) hb (by decide)
    refine cp_row (x := 35) (n := 6) hb (by omega) (fun b q => (wo_row q).2.2.2.1) (by omega) (fW_row (by decide)) c (fun τ2 c => ?_)
    simp only [pI, pL, pR, pV, i10, ↓reduceIte, eW_copyFrom_94]
    simp only [o1, o2, lvx, Bool.true_or, Bool.and_true, cond, (r1 _).2.2.2.2.1, (r2 _).2.2.2.2.1]
    refine cp_row (x := 36) (n := 36) hb (by omega) (fun b q => (wo_row q).2.2.2.2.1) (by omega) (fW_row (by decide)) c (fun τ3 c => ?_)
    simp only [pI, pL, pR, pV, i10, ↓reduceIte, eW_copyFrom_105]
    simp only [o1, o2, lvx, Bool.true_or, Bool.and_true, cond, (r1 _).2.2.2.2.2.1, (r2 _).2.2.2.2.2.1]
    have c := c.fld (j := 9) hb (by decide)
    have c := c.fld (j := 10) hb (by decide)
    have c := c.fld (j := 11) hb (by decide)
    refine cp_row (x := 37) (n := 8) hb (by omega) (fun b q => (wo_row q).2.2.2.2.2.1) (by omega) (fW_row (by decide)) c (fun τ4 c => ?_)
    simp only [pI, pL, pR, pV, i10, ↓reduceIte, eW_copyFrom_140]
    simp only [o1, o2, lvx, Bool.true_or, Bool.and_true, cond, (r1 _).2.2.2.2.2.2.1, (r2 _).2.2.2.2.2.2.1]
    refine cp_row (x := 38) (n := 8) hb (by omega) (fun b q => (wo_row q).2.2.2.2.2.2.1) (by omega) (fW_row (by decide)) c (fun τ5 c => ?_)
    simp only [pI, pL, pR, pV, i10, ↓reduceIte, eW_copyFrom_151]
    simp only [o1, o2, lvx, Bool.true_or, Bool.and_true, cond, (r1 _).2.2.2.2.2.2.2.1, (r2 _).2.2.2.2.2.2.2.1]
    have c := c.fld (j := 14) hb (by decide)
    refine cp_row (x := 39) (n := 5) hb (by omega) (fun b q => (wo_row q).2.2.2.2.2.2.2.1) (by omega) (fW_row (by decide)) c (fun τ6 c => ?_)
    simp only [pI, pL, pR, pV, i10, ↓reduceIte, eW_copyFrom_170]
    simp only [o1, o2, lvx, Bool.true_or, Bool.and_true, cond, (r1 _).2.2.2.2.2.2.2.2, (r2 _).2.2.2.2.2.2.2.2]
    have c := c.fld (j := 16) hb (by decide)
    refine cp_row (x := 40) (n := 5) hb (by omega) (fun b q => (wo_row q).2.2.2.2.2.2.2.2) (by omega) (fW_row (by decide)) c (fun τ7 c => ?_)
    simp only [pI, pL, pR, pV, i10, ↓reduceIte, eW_copyFrom_189]
    refine h τ7 (c.mo (fun x k hx hk => ?_))
    obtain ⟨e, he, e1, e2, e3⟩ := inS_ex hk
    obtain ⟨y, lo, hi⟩ := e
    have e1 : y = x := e1
    subst e1
    have e2 : lo ≤ k := e2
    have e3 : k < hi := e3
    rcases List.mem_append.mp he with q | q
    · exact inS_r (lo := lo) (hi := hi) (by
        simp only [List.mem_cons, rws, List.mem_append]
        right; right; right; right; right; right; right; right; right; right; right; right; right; right; right; right
        exact Or.inr q) ⟨e2, e3⟩
    · simp only [List.mem_cons, List.not_mem_nil, or_false, Prod.mk.injEq] at q
      rcases q with ⟨rfl, rfl, rfl⟩ | ⟨rfl, rfl, rfl⟩ | ⟨rfl, rfl, rfl⟩ | ⟨rfl, rfl, rfl⟩ | ⟨rfl, rfl, rfl⟩ | ⟨rfl, rfl, rfl⟩ | ⟨rfl, rfl, rfl⟩ | ⟨rfl, rfl, rfl⟩ | ⟨rfl, rfl, rfl⟩ | ⟨rfl, rfl, rfl⟩ | ⟨rfl, rfl, rfl⟩ | ⟨rfl, rfl, rfl⟩ | ⟨rfl, rfl, rfl⟩
      · exact inS_r (lo := 0) (hi := 75) (by simp [rws]) ⟨e2, e3⟩
      · have : k = 2 ∨ k = 3 ∨ k = 4 := by omega
        rcases this with rfl | rfl | rfl
        · exact inS_r (lo := 2) (hi := 3) (by simp) (by omega)
        · exact inS_r (lo := 3) (hi := 4) (by simp) (by omega)
        · exact inS_r (lo := 4) (hi := 5) (by simp) (by omega)
      · exact inS_r (lo := 6) (hi := 7) (by simp) (by omega)
      · have : k = 9 ∨ k = 10 ∨ k = 11 := by omega
        rcases this with rfl | rfl | rfl
        · exact inS_r (lo := 9) (hi := 10) (by simp) (by omega)
        · exact inS_r (lo := 10) (hi := 11) (by simp) (by omega)
        · exact inS_r (lo := 11) (hi := 12) (by simp) (by omega)
      · exact inS_r (lo := 14) (hi := 15) (by simp) (by omega)
      · exact inS_r (lo := 16) (hi := 17) (by simp) (by omega)
      · exact inS_r (lo := 0) (hi := 6) (by simp) ⟨e2, e3⟩
      · exact inS_r (lo := 0) (hi := 6) (by simp) ⟨e2, e3⟩
      · exact inS_r (lo := 0) (hi := 36) (by simp) ⟨e2, e3⟩
      · exact inS_r (lo := 0) (hi := 8) (by simp) ⟨e2, e3⟩
      · exact inS_r (lo := 0) (hi := 8) (by simp) ⟨e2, e3⟩
      · exact inS_r (lo := 0) (hi := 5) (by simp) ⟨e2, e3⟩
      · exact inS_r (lo := 0) (hi := 5) (by simp) ⟨e2, e3⟩
  -- the kept rows
  have lp : ∀ (m i : Nat) (τ : Sg) (x : Int32), i + m = 30 → x.toInt = i → Cp bs bt (rws i) σ0 τ → bW_copyFrom_13 true NOB (wp true (d + 2)) Φ (kW_copyFrom (d + 2) Φ) [.ref (1 + bt), .ref (1 + bs), .int x] [] τ := by
    intro m
    induction m with
    | zero =>
      intro i τ x hi hx c
      simp only [pI, pL, pR, pV, i10, ↓reduceIte, eW_copyFrom_13]
      simp only [ile, show (30 : Int32).toInt = 30 from rfl, hx]
      rw [if_pos (by omega)]
      obtain rfl : i = 30 := by omega
      exact tail τ x c
    | succ m ih =>
      intro i τ x hi hx c
      have hi30 : i < 30 := by omega
      have xi : ix x = i := ix_of hx
      simp only [pI, pL, pR, pV, i10, ↓reduceIte, eW_copyFrom_13]
      simp only [ile, show (30 : Int32).toInt = 30 from rfl, hx]
      rw [if_neg (by omega)]
      simp only [o1, lvx, Bool.true_or, Bool.and_true, cond, (r1 _).2.1, o_aald, k1, z1]
      refine ⟨⟨by omega, by omega⟩, ?_⟩
      rw [xi, wo_kept b1 hi30, eW_copyFrom_25]
      simp only [o2, lvx, Bool.true_or, Bool.and_true, cond, (r2 _).2.1, o_aald, k2, z2]
      refine ⟨⟨by omega, by omega⟩, ?_⟩
      rw [xi, wo_kept b2 hi30, eW_copyFrom_31]
      refine cp_row (x := 4 + i) (n := 75) hb (by omega) (fun b q => (wo_row q).2.1 i hi30) (by omega) (fW_row (List.mem_append_left _ (List.mem_map.mpr ⟨i, List.mem_range.mpr hi30, rfl⟩))) c (fun τ1 c => ?_)
      simp only [pI, pL, pR, pV, i10, ↓reduceIte, eW_copyFrom_34]
      refine hW_copyFrom_13 _ _ _ _ _ (ih (i + 1) τ1 (x + 1) (by omega) (by rw [t1 (by omega), hx]; omega) (c.mo (fun y k hy hk => ?_)))
      obtain ⟨e, he, e1, e2, e3⟩ := inS_ex hk
      obtain ⟨w, lo, hi'⟩ := e
      have e1 : w = y := e1
      subst e1
      refine inS_r (lo := lo) (hi := hi') ?_ ⟨e2, e3⟩
      rcases List.mem_append.mp he with q | q
      · exact List.mem_cons_of_mem _ (List.mem_append_left _ q)
      · obtain ⟨r, hr, q⟩ := List.mem_map.mp q
        have hr := List.mem_range.mp hr
        by_cases z : r = i
        · rw [← q, z]
          exact List.mem_cons_self
        · exact List.mem_cons_of_mem _ (List.mem_append_right _ (List.mem_map.mpr ⟨r, List.mem_range.mpr (by omega), q⟩))
  apply wW_copyFrom
  simp only [pI, pL, pR, pV, i10, ↓reduceIte, eW_copyFrom_0]
  simp only [o1, o2, lvx, Bool.true_or, Bool.and_true, cond, (r1 _).1, (r2 _).1]
  have c0 : Cp bs bt [(4, 0, 0)] σ0 σ0 := ⟨Fr.rf, fun x k _ hk => by
    obtain ⟨e, he, e1, e2, e3⟩ := inS_ex hk
    rw [List.mem_singleton] at he
    subst he
    have e3 : k < 0 := e3
    exact absurd e3 (by omega)⟩
  refine cp_row (x := 2) (n := 75) hb (by omega) (fun b q => (wo_row q).1) (by omega) (fW_row (by decide)) c0 (fun τ1 c => ?_)
  simp only [pI, pL, pR, pV, i10, ↓reduceIte, eW_copyFrom_11]
  refine lp 30 0 τ1 0 (by omega) rfl (c.mo (fun x k hx hk => ?_))
  obtain ⟨e, he, e1, e2, e3⟩ := inS_ex hk
  obtain ⟨w, lo, hi'⟩ := e
  have e1 : w = x := e1
  subst e1
  refine inS_r (lo := lo) (hi := hi') ?_ ⟨e2, e3⟩
  simp [rws] at he ⊢
  omega
