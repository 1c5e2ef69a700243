/-! THE CLASS'S LAWS -/
def CodeAt (σ : Sg) (t : Nat) : Nat → List (Int × Int) → Prop
  | _, [] => True
  | i, (o, v) :: r => rd σ (89 + 5 * t) i = enc o v ∧ CodeAt σ t (i + 1) r
def TxL (σ : Sg) (t l : Nat) (x : Option (List (Int × Int))) : Prop := match x with
  | none => rd σ (90 + 5 * t) l = -1
  | some ops => 0 ≤ rd σ (90 + 5 * t) l ∧ rd σ (91 + 5 * t) l = rd σ (90 + 5 * t) l + ops.length ∧ rd σ (91 + 5 * t) l ≤ 300 ∧ CodeAt σ t (rd σ (90 + 5 * t) l).toNat ops
def CT (σ : Sg) (E : En) : Prop := (0 ≤ rd σ 1 9 ∧ rd σ 1 9 ≤ 4) ∧ (-1 ≤ rd σ 1 10 ∧ rd σ 1 10 < rd σ 1 9) ∧ (rd σ 1 10 = -1 → ∀ l, eL E l = none) ∧ (∀ t : Nat, t < 4 → rd σ 1 10 = t → ∀ l, l < 5 → TxL σ t l (eL E l))
/-- the class's world holds E -/
def CE (σ : Sg) (E : En) : Prop := rd σ 1 4 = eN E ∧ rd σ 1 6 = eV E ∧ (∀ w, w < 6 → rd σ 34 w = eQ E w) ∧ (∀ v, v < 6 → rd σ 35 v = eR E v) ∧ CT σ E ∧ LwOk E
theorem CodeAt.fr {S : List (Nat × Nat × Nat)} {σ σ' : Sg} (h : Fr S σ σ') {t : Nat} (e : ∀ k, inS S (89 + 5 * t) k = false) : ∀ (ops : List (Int × Int)) (i : Nat), CodeAt σ t i ops → CodeAt σ' t i ops
  | [], _, _ => trivial
  | (o, v) :: r, i, ⟨h1, h2⟩ => ⟨(h.rd (e i)).trans h1, CodeAt.fr h e r (i + 1) h2⟩
theorem CE.fr {S : List (Nat × Nat × Nat)} {σ σ' : Sg} (h : Fr S σ σ') (e1 : inS S 1 4 = false ∧ inS S 1 6 = false ∧ inS S 1 9 = false ∧ inS S 1 10 = false) (e2 : ∀ a k, (a = 34 ∨ a = 35 ∨ (88 ≤ a ∧ a < 108)) → inS S a k = false) {E : En} (g : CE σ E) : CE σ' E := by
  obtain ⟨g1, g2, g3, g4, ⟨g5, g6, g7, g8⟩, g9⟩ := g
  refine ⟨(h.rd e1.1).trans g1, (h.rd e1.2.1).trans g2, fun w hw => (h.rd (e2 _ _ (Or.inl rfl))).trans (g3 w hw), fun w hw => (h.rd (e2 _ _ (Or.inr (Or.inl rfl)))).trans (g4 w hw), ⟨?_, ?_, ?_, ?_⟩, g9⟩
  · rw [h.rd e1.2.2.1]; exact g5
  · rw [h.rd e1.2.2.1, h.rd e1.2.2.2]; exact g6
  · rw [h.rd e1.2.2.2]; exact g7
  · rw [h.rd e1.2.2.2]
    intro t ht hr l hl
    have g := g8 t ht hr l hl
    have a0 : ∀ k, inS S (89 + 5 * t) k = false := fun k => e2 _ _ (by omega)
    have a1 : ∀ k, inS S (90 + 5 * t) k = false := fun k => e2 _ _ (by omega)
    have a2 : ∀ k, inS S (91 + 5 * t) k = false := fun k => e2 _ _ (by omega)
    unfold TxL at *
    cases hx : eL E l with
    | none =>
      rw [hx] at g
      show rd σ' (90 + 5 * t) l = -1
      rw [h.rd (a1 l)]
      exact g
    | some ops =>
      rw [hx] at g
      show 0 ≤ rd σ' (90 + 5 * t) l ∧ rd σ' (91 + 5 * t) l = rd σ' (90 + 5 * t) l + ops.length ∧ rd σ' (91 + 5 * t) l ≤ 300 ∧ CodeAt σ' t (rd σ' (90 + 5 * t) l).toNat ops
      rw [h.rd (a1 l), h.rd (a2 l)]
      obtain ⟨b1, b2, b3, b4⟩ := g
      exact ⟨b1, b2, b3, CodeAt.fr h a0 _ _ b4⟩
def SkL (σ : Sg) : List Int → Prop
  | [] => True
  | x :: r => rd σ 109 r.length = x ∧ SkL σ r
theorem SkL_keep {σ : Sg} {n : Nat} {v : Int32} : ∀ (l : List Int), l.length ≤ n → SkL σ l → SkL (sI σ 109 n v) l
  | [], _, _ => trivial
  | x :: r, h, ⟨h1, h2⟩ => ⟨(rdne2 (by simp at h; omega)).trans h1, SkL_keep r (by simp at h; omega) h2⟩
theorem SkL_push {σ : Sg} {n : Nat} {v : Int32} {l : List Int} (h : l.length = n) (g : SkL σ l) : SkL (sI σ 109 n v) (v.toInt :: l) := by
  refine ⟨?_, SkL_keep l (by omega) g⟩
  rw [h, rdeq]
/-- the class reads a name -/
theorem sL_named {d : Nat} {Φ : Po} {σ : Sg} {E : En} {k w v f : Int32} {j : Int} (hE : CE σ E) (hN : eN E ≤ 6 ∧ eV E ≤ 6) (hw : w.toInt = -1 ∨ (0 ≤ w.toInt ∧ w.toInt < eN E)) (hv : v.toInt = -1 ∨ (0 ≤ v.toInt ∧ v.toInt < eV E)) (hk : k.toInt = 10000 + j) (hj : 0 ≤ j ∧ j < 8) (h : ∀ r : Int32, r.toInt = nmv E (rc σ 2) w.toInt v.toInt f.toInt j → Φ (some (.int r)) σ) : wp true (d + 1) nL_named [.ref 108, .int k, .int w, .int v, .int f] σ Φ := by
  apply wL_named
  simp only [pI, pL, pR, pV, i10, ↓reduceIte, eL_named_0, eL_named_9, eL_named_10, eL_named_60, eL_named_71, eL_named_80, eL_named_89, eL_named_90, eL_named_99, eL_named_110, eL_named_111, eL_named_120, eL_named_132, eL_named_133, eL_named_142, eL_named_154, eL_named_155, eL_named_158, eL_named_167, eL_named_176, eL_named_177, eL_named_186, eL_named_198, eL_named_199]
  obtain ⟨g1, g2, g3, g4, g5⟩ := hE
  unfold nmv at h
  have cn : (w = -1) = (w.toInt = -1) := by rw [ieq]; rfl
  have cv : (v = -1) = (v.toInt = -1) := by rw [ieq]; rfl
  simp only [hk, cn, cv]
  have hwi : 0 ≤ w.toInt → ix w = w.toInt.toNat := fun _ => rfl
  have e0 : ∀ (_ : 0 ≤ w.toInt), ix (0 + w) = w.toInt.toNat := fun q => by rw [ixk (n := 0) rfl (by omega)]; unfold ix; omega
  have e18 : ∀ (_ : 0 ≤ w.toInt), ix (18 + w) = 18 + w.toInt.toNat := fun q => by rw [ixk (n := 18) rfl (by omega)]; rfl
  have e12 : ∀ (_ : 0 ≤ w.toInt), ix (12 + w) = 12 + w.toInt.toNat := fun q => by rw [ixk (n := 12) rfl (by omega)]; rfl
  have e30 : ∀ (_ : 0 ≤ v.toInt), ix (30 + v) = 30 + v.toInt.toNat := fun q => by rw [ixk (n := 30) rfl (by omega)]; rfl
  have j8 : j = 0 ∨ j = 1 ∨ j = 2 ∨ j = 3 ∨ j = 4 ∨ j = 5 ∨ j = 6 ∨ j = 7 := by omega
  rcases hw with hw | hw
  · simp only [hw, ↓reduceIte]
    rcases j8 with rfl | rfl | rfl | rfl | rfl | rfl | rfl | rfl
    · exact ⟨⟨by decide, by decide⟩, h _ rfl⟩
    · exact h _ (by rw [hw]; rfl)
    · exact h _ (by rw [hw]; rfl)
    · exact h _ (by rw [hw]; rfl)
    · exact h _ (by rw [hw]; rfl)
    · exact h _ rfl
    · simp only [Int.reduceAdd, Int.reduceEq, ↓reduceIte]
      rcases hv with hv | hv
      · rw [if_pos hv]
        exact h _ (by rw [hv]; rfl)
      · rw [if_neg (by omega)]
        refine ⟨⟨hv.1, by omega⟩, h _ ?_⟩
        simp only [Int.reduceEq, ↓reduceIte]
        rw [if_neg (by omega)]
        exact g4 _ (by unfold ix; omega)
    · simp only [Int.reduceAdd, Int.reduceEq, ↓reduceIte]
      rcases hv with hv | hv
      · rw [if_pos hv]
        exact h _ (by rw [hv]; rfl)
      · rw [if_neg (by omega)]
        refine ⟨inb_k (n := 30) rfl (by omega) (by omega), h _ ?_⟩
        simp only [Int.reduceEq, ↓reduceIte]
        rw [if_neg (by omega), e30 hv.1]
        exact (rc_at (by omega)).symm
  · rw [if_neg (by omega)]
    have n0 : ¬ (w.toInt < 0) := by omega
    rcases j8 with rfl | rfl | rfl | rfl | rfl | rfl | rfl | rfl
    · exact ⟨⟨by decide, by decide⟩, h _ rfl⟩
    · refine ⟨⟨hw.1, by omega⟩, h _ ?_⟩
      simp only [Int.reduceEq, ↓reduceIte, n0]
      exact g3 _ (by unfold ix; omega)
    · refine ⟨inb_k (n := 0) rfl (by omega) (by omega), h _ ?_⟩
      simp only [Int.reduceEq, ↓reduceIte, n0]
      rw [e0 hw.1]
      exact (rc_at (by omega)).symm
    · refine ⟨inb_k (n := 18) rfl (by omega) (by omega), h _ ?_⟩
      simp only [Int.reduceEq, ↓reduceIte, n0]
      rw [e18 hw.1]
      exact (rc_at (by omega)).symm
    · refine ⟨inb_k (n := 12) rfl (by omega) (by omega), h _ ?_⟩
      simp only [Int.reduceEq, ↓reduceIte, n0]
      rw [e12 hw.1]
      exact (rc_at (by omega)).symm
    · exact h _ rfl
    · simp only [Int.reduceAdd, Int.reduceEq, ↓reduceIte]
      rcases hv with hv | hv
      · rw [if_pos hv]
        exact h _ (by rw [hv]; rfl)
      · rw [if_neg (by omega)]
        refine ⟨⟨hv.1, by omega⟩, h _ ?_⟩
        simp only [Int.reduceEq, ↓reduceIte]
        rw [if_neg (by omega)]
        exact g4 _ (by unfold ix; omega)
    · simp only [Int.reduceAdd, Int.reduceEq, ↓reduceIte]
      rcases hv with hv | hv
      · rw [if_pos hv]
        exact h _ (by rw [hv]; rfl)
      · rw [if_neg (by omega)]
        refine ⟨inb_k (n := 30) rfl (by omega) (by omega), h _ ?_⟩
        simp only [Int.reduceEq, ↓reduceIte]
        rw [if_neg (by omega), e30 hv.1]
        exact (rc_at (by omega)).symm
theorem sW_isWind {d : Nat} {Φ : Po} {σ : Sg} {w : Int32} (h1 : 0 ≤ w.toInt ∧ w.toInt < rd σ 1 4 → Φ (some (.int 1)) σ) (h0 : ¬ (0 ≤ w.toInt ∧ w.toInt < rd σ 1 4) → Φ (some (.int 0)) σ) : wp true (d + 1) nW_isWind [.ref 1, .int w] σ Φ := by
  apply wW_isWind
  simp only [pI, pL, pR, pV, i10, ↓reduceIte, eW_isWind_0, eW_isWind_16, eW_isWind_17]
  try simp only [cond, zB_1, zB_0, lg_cmp_ge, lg_cmp_le, lg_cmp_gt, lg_cmp_lt, lg_cmp_eq]
  try simp only [ne_eq, not_false_eq_true, true_and, and_true, ↓reduceIte, ile, ilt, ieq, jle, jlt, jeq, Int32.toInt_toInt64, Int32.reduceToInt, Int64.reduceToInt, Int.reduceNeg, Int.reduceEq, Int.reduceLT, Int.reduceLE, and_self, and_false, false_and]
  have e : (gI σ 1 4).toInt = rd σ 1 4 := rfl
  split
  · exact h0 (by omega)
  · split
    · exact h0 (by omega)
    · exact h1 (by omega)
theorem sW_isVillage {d : Nat} {Φ : Po} {σ : Sg} {w : Int32} (h1 : 0 ≤ w.toInt ∧ w.toInt < rd σ 1 6 → Φ (some (.int 1)) σ) (h0 : ¬ (0 ≤ w.toInt ∧ w.toInt < rd σ 1 6) → Φ (some (.int 0)) σ) : wp true (d + 1) nW_isVillage [.ref 1, .int w] σ Φ := by
  apply wW_isVillage
  simp only [pI, pL, pR, pV, i10, ↓reduceIte, eW_isVillage_0, eW_isVillage_16, eW_isVillage_17]
  try simp only [cond, zB_1, zB_0, lg_cmp_ge, lg_cmp_le, lg_cmp_gt, lg_cmp_lt, lg_cmp_eq]
  try simp only [ne_eq, not_false_eq_true, true_and, and_true, ↓reduceIte, ile, ilt, ieq, jle, jlt, jeq, Int32.toInt_toInt64, Int32.reduceToInt, Int64.reduceToInt, Int.reduceNeg, Int.reduceEq, Int.reduceLT, Int.reduceLE, and_self, and_false, false_and]
  have e : (gI σ 1 6).toInt = rd σ 1 6 := rfl
  split
  · exact h0 (by omega)
  · split
    · exact h0 (by omega)
    · exact h1 (by omega)
theorem sW_isText {d : Nat} {Φ : Po} {σ : Sg} {w : Int32} (h1 : 0 ≤ w.toInt ∧ w.toInt < rd σ 1 9 → Φ (some (.int 1)) σ) (h0 : ¬ (0 ≤ w.toInt ∧ w.toInt < rd σ 1 9) → Φ (some (.int 0)) σ) : wp true (d + 1) nW_isText [.ref 1, .int w] σ Φ := by
  apply wW_isText
  simp only [pI, pL, pR, pV, i10, ↓reduceIte, eW_isText_0, eW_isText_16, eW_isText_17]
  try simp only [cond, zB_1, zB_0, lg_cmp_ge, lg_cmp_le, lg_cmp_gt, lg_cmp_lt, lg_cmp_eq]
  try simp only [ne_eq, not_false_eq_true, true_and, and_true, ↓reduceIte, ile, ilt, ieq, jle, jlt, jeq, Int32.toInt_toInt64, Int32.reduceToInt, Int64.reduceToInt, Int.reduceNeg, Int.reduceEq, Int.reduceLT, Int.reduceLE, and_self, and_false, false_and]
  have e : (gI σ 1 9).toInt = rd σ 1 9 := rfl
  split
  · exact h0 (by omega)
  · split
    · exact h0 (by omega)
    · exact h1 (by omega)
theorem sL_within {d : Nat} {Φ : Po} {σ : Sg} {x y : Int32} (hy : 0 ≤ y.toInt) (h : ∀ v : Int32, v.toInt = clamp 0 y.toInt x.toInt → Φ (some (.int v)) σ) : wp true (d + 2) nL_within [.int x, .int y] σ Φ := by
  apply wL_within
  simp only [pI, pL, pR, pV, i10, ↓reduceIte, eL_within_0, eL_within_6, eL_within_9]
  refine sJ_min (fun a ha => ?_)
  simp only [pI, pL, pR, pV, i10, ↓reduceIte, eL_within_0, eL_within_6, eL_within_9]
  refine sJ_max (fun b hb => ?_)
  simp only [pI, pL, pR, pV, i10, ↓reduceIte, eL_within_0, eL_within_6, eL_within_9]
  refine h _ ?_
  rw [hb, ha, tl0]
  unfold clamp
  repeat' split
  all_goals omega
theorem sL_ofOne {d : Nat} {Φ : Po} {σ : Sg} {E : En} {k x : Int32} {o : Int} (hE : CE σ E) (hN : eN E ≤ 6) (hk : k.toInt = enc o 0) (ho : o = 2 ∨ o = 3 ∨ o = 20) (hx : -1000000 ≤ x.toInt ∧ x.toInt ≤ 1000000) (h : ∀ r : Int32, r.toInt = (if o = 2 then dbt E (rc σ 2) x.toInt else if o = 3 then -x.toInt else if x.toInt = 0 then 1 else 0) → Φ (some (.int r)) σ) : wp true (d + 2) nL_ofOne [.ref 108, .int k, .int x] σ Φ := by
  apply wL_ofOne
  simp only [pI, pL, pR, pV, i10, ↓reduceIte, eL_ofOne_0, eL_ofOne_28, eL_ofOne_36, eL_ofOne_37, eL_ofOne_38, eL_ofOne_41, eL_ofOne_49, eL_ofOne_66, eL_ofOne_67, eL_ofOne_68]
  obtain ⟨g1, g2, g3, g4, g5⟩ := hE
  rcases ho with rfl | rfl | rfl
  · have hk : k.toInt = 10010 := hk
    simp only [hk, Int.reduceEq, ↓reduceIte]
    refine sW_isWind (fun q => ?_) (fun q => ?_)
    · simp only [pI, pL, pR, pV, i10, ↓reduceIte, eL_ofOne_0, eL_ofOne_28, eL_ofOne_36, eL_ofOne_37, eL_ofOne_38, eL_ofOne_41, eL_ofOne_49, eL_ofOne_66, eL_ofOne_67, eL_ofOne_68]
      try rw [if_neg (by decide)]
      refine ⟨inb_k (n := 0) rfl (by omega) (by omega), h _ ?_⟩
      try rw [if_pos rfl]
      unfold dbt
      rw [if_pos (by omega), ixk (n := 0) rfl (by omega)]
      have e : 0 + ix x = x.toInt.toNat := by unfold ix; omega
      rw [e]
      exact (rc_at (by omega)).symm
    · simp only [pI, pL, pR, pV, i10, ↓reduceIte, eL_ofOne_0, eL_ofOne_28, eL_ofOne_36, eL_ofOne_37, eL_ofOne_38, eL_ofOne_41, eL_ofOne_49, eL_ofOne_66, eL_ofOne_67, eL_ofOne_68]
      try rw [if_pos rfl]
      refine h _ ?_
      try rw [if_pos rfl]
      unfold dbt
      rw [if_neg (by omega)]
      rfl
  · have hk : k.toInt = 10009 := hk
    simp only [hk, Int.reduceEq, ↓reduceIte]
    refine h _ ?_
    simp only [Int.reduceEq, ↓reduceIte]
    exact tN (by omega)
  · have hk : k.toInt = 10008 := hk
    simp only [hk, Int.reduceEq, ↓reduceIte]
    simp only [Int.reduceEq, ↓reduceIte] at h
    have c0 : (x = 0) = (x.toInt = 0) := by rw [ieq]; rfl
    simp only [c0]
    split
    · exact h _ (by rw [if_pos (by assumption)]; rfl)
    · exact h _ (by rw [if_neg (by assumption)]; rfl)
theorem b01 {x : Int32} (h : x.toInt = 0 ∨ x.toInt = 1) : x = 0 ∨ x = 1 := by
  rcases h with h | h
  · exact Or.inl (eqv h)
  · exact Or.inr (eqv h)
/-- two on one: what the class has ahead of the clipping -/
def tw2 (o x y : Int) : Int := if o < 9 then tw o x y else if o < 20 then bi (cmq o x y) else if o = 21 then min x y else max x y
theorem tdiv_r {x y : Int} (h : -1000000 ≤ x ∧ x ≤ 1000000) (hy : y ≠ 0) : -1000000 ≤ x.tdiv y ∧ x.tdiv y ≤ 1000000 := by
  have h1 : (x.tdiv y).natAbs = x.natAbs / y.natAbs := Int.natAbs_tdiv x y
  have h2 : x.natAbs / y.natAbs ≤ x.natAbs := Nat.div_le_self _ _
  omega
theorem sL_ofTwo {d : Nat} {Φ : Po} {σ : Sg} {k x y : Int32} {o : Int} (hk : k.toInt = enc o 0) (ho : (4 ≤ o ∧ o ≤ 7) ∨ (10 ≤ o ∧ o ≤ 15) ∨ ((o = 21 ∨ o = 22) ∧ (x.toInt = 0 ∨ x.toInt = 1) ∧ (y.toInt = 0 ∨ y.toInt = 1))) (hx : -1000000 ≤ x.toInt ∧ x.toInt ≤ 1000000) (hy : -1000000 ≤ y.toInt ∧ y.toInt ≤ 1000000) (h : ∀ r : Int64, r.toInt = tw2 o x.toInt y.toInt → Φ (some (.long r)) σ) : wp true (d + 1) nL_ofTwo [.int k, .int x, .int y] σ Φ := by
  apply wL_ofTwo
  simp only [pI, pL, pR, pV, i10, ↓reduceIte, eL_ofTwo_0, eL_ofTwo_64, eL_ofTwo_69, eL_ofTwo_74, eL_ofTwo_83, eL_ofTwo_84, eL_ofTwo_85, eL_ofTwo_94, eL_ofTwo_95, eL_ofTwo_96, eL_ofTwo_105, eL_ofTwo_106, eL_ofTwo_107, eL_ofTwo_116, eL_ofTwo_117, eL_ofTwo_118, eL_ofTwo_127, eL_ofTwo_128, eL_ofTwo_129, eL_ofTwo_138, eL_ofTwo_139, eL_ofTwo_140, eL_ofTwo_145, eL_ofTwo_150, eL_ofTwo_156, eL_ofTwo_164, eL_ofTwo_168, eL_ofTwo_169]
  have hyr := trng y
  have j : o = 4 ∨ o = 5 ∨ o = 6 ∨ o = 7 ∨ o = 10 ∨ o = 11 ∨ o = 12 ∨ o = 13 ∨ o = 14 ∨ o = 15 ∨ (o = 21 ∧ (x.toInt = 0 ∨ x.toInt = 1) ∧ (y.toInt = 0 ∨ y.toInt = 1)) ∨ (o = 22 ∧ (x.toInt = 0 ∨ x.toInt = 1) ∧ (y.toInt = 0 ∨ y.toInt = 1)) := by omega
  rcases j with rfl | rfl | rfl | rfl | rfl | rfl | rfl | rfl | rfl | rfl | ⟨rfl, b1, b2⟩ | ⟨rfl, b1, b2⟩
  · have hk : k.toInt = 10019 := hk
    simp only [hk, Int.reduceEq, ↓reduceIte]
    exact h _ (by rw [Int32.toInt_toInt64, tP (by omega)]; rfl)
  · have hk : k.toInt = 10020 := hk
    simp only [hk, Int.reduceEq, ↓reduceIte]
    exact h _ (by rw [Int32.toInt_toInt64, tM (by omega)]; rfl)
  · have hk : k.toInt = 10021 := hk
    simp only [hk, Int.reduceEq, ↓reduceIte]
    refine h _ ?_
    have p1 : x.toInt * y.toInt ≤ 1000000000000 := by
      have : (x.toInt * y.toInt).natAbs = x.toInt.natAbs * y.toInt.natAbs := Int.natAbs_mul _ _
      have : x.toInt.natAbs * y.toInt.natAbs ≤ 1000000 * 1000000 := Nat.mul_le_mul (by omega) (by omega)
      omega
    have p2 : -1000000000000 ≤ x.toInt * y.toInt := by
      have : (x.toInt * y.toInt).natAbs = x.toInt.natAbs * y.toInt.natAbs := Int.natAbs_mul _ _
      have : x.toInt.natAbs * y.toInt.natAbs ≤ 1000000 * 1000000 := Nat.mul_le_mul (by omega) (by omega)
      omega
    rw [jX (by rw [Int32.toInt_toInt64, Int32.toInt_toInt64]; omega), Int32.toInt_toInt64, Int32.toInt_toInt64]
    rfl
  · have hk : k.toInt = 10022 := hk
    simp only [hk, Int.reduceEq, ↓reduceIte]
    have c0 : (y = 0) = (y.toInt = 0) := by rw [ieq]; rfl
    simp only [ne_eq, c0]
    have e7 : tw2 7 x.toInt y.toInt = if y.toInt = 0 then 0 else x.toInt.tdiv y.toInt := rfl
    split
    · exact h _ (by rw [e7, if_pos (by assumption)]; rfl)
    · refine ⟨by assumption, h _ ?_⟩
      rw [e7, if_neg (by assumption), Int32.toInt_toInt64, Int32.toInt_div_of_ne_left _ _ (fun e => by rw [e] at hx; exact absurd hx.1 (by decide))]
  · have hk : k.toInt = 10013 := hk
    simp only [hk, Int.reduceEq, ↓reduceIte, ile]
    have e7 : tw2 10 x.toInt y.toInt = bi (decide (x.toInt < y.toInt)) := rfl
    split
    · exact h _ (by rw [e7, decide_eq_false (by omega)]; rfl)
    · exact h _ (by rw [e7, decide_eq_true (by omega)]; rfl)
  · have hk : k.toInt = 10014 := hk
    simp only [hk, Int.reduceEq, ↓reduceIte, ilt]
    have e7 : tw2 11 x.toInt y.toInt = bi (decide (x.toInt ≤ y.toInt)) := rfl
    split
    · exact h _ (by rw [e7, decide_eq_false (by omega)]; rfl)
    · exact h _ (by rw [e7, decide_eq_true (by omega)]; rfl)
  · have hk : k.toInt = 10015 := hk
    simp only [hk, Int.reduceEq, ↓reduceIte, ile]
    have e7 : tw2 12 x.toInt y.toInt = bi (decide (y.toInt < x.toInt)) := rfl
    split
    · exact h _ (by rw [e7, decide_eq_false (by omega)]; rfl)
    · exact h _ (by rw [e7, decide_eq_true (by omega)]; rfl)
  · have hk : k.toInt = 10016 := hk
    simp only [hk, Int.reduceEq, ↓reduceIte, ilt]
    have e7 : tw2 13 x.toInt y.toInt = bi (decide (y.toInt ≤ x.toInt)) := rfl
    split
    · exact h _ (by rw [e7, decide_eq_false (by omega)]; rfl)
    · exact h _ (by rw [e7, decide_eq_true (by omega)]; rfl)
  · have hk : k.toInt = 10017 := hk
    simp only [hk, Int.reduceEq, ↓reduceIte, ieq]
    have e7 : tw2 14 x.toInt y.toInt = bi (decide (x.toInt = y.toInt)) := rfl
    split
    · exact h _ (by rw [e7, decide_eq_true (by omega)]; rfl)
    · exact h _ (by rw [e7, decide_eq_false (by omega)]; rfl)
  · have hk : k.toInt = 10018 := hk
    simp only [hk, Int.reduceEq, ↓reduceIte, ieq]
    have e7 : tw2 15 x.toInt y.toInt = bi (decide (x.toInt ≠ y.toInt)) := rfl
    split
    · exact h _ (by rw [e7, decide_eq_false (by omega)]; rfl)
    · exact h _ (by rw [e7, decide_eq_true (by omega)]; rfl)
  · have hk : k.toInt = 10012 := hk
    simp only [hk, Int.reduceEq, ↓reduceIte]
    refine h _ ?_
    rcases b01 b1 with rfl | rfl <;> rcases b01 b2 with rfl | rfl <;> rfl
  · have hk : k.toInt = 10011 := hk
    simp only [hk, Int.reduceEq, ↓reduceIte]
    refine h _ ?_
    rcases b01 b1 with rfl | rfl <;> rcases b01 b2 with rfl | rfl <;> rfl
theorem sL_nearest {d : Nat} {Φ : Po} {σ : Sg} {x y : Int32} (hx : -1000000 ≤ x.toInt ∧ x.toInt ≤ 1000000) (hy : 0 ≤ y.toInt ∧ y.toInt ≤ 1000000) (h : ∀ r : Int32, r.toInt = rnd x.toInt y.toInt → Φ (some (.int r)) σ) : wp true (d + 2) nL_nearest [.int x, .int y] σ Φ := by
  apply wL_nearest
  simp only [pI, pL, pR, pV, i10, ↓reduceIte, eL_nearest_0, eL_nearest_6, eL_nearest_11, eL_nearest_29, eL_nearest_32]
  have c0 : (y = 0) = (y.toInt = 0) := by rw [ieq]; rfl
  simp only [c0]
  unfold rnd at h
  split
  next h0 => exact h _ (by rw [if_pos h0])
  next h0 =>
    rw [if_neg h0] at h
    refine sJ_floorDiv (by omega) (fun q hq => ?_)
    simp only [pI, pL, pR, pV, i10, ↓reduceIte, eL_nearest_0, eL_nearest_6, eL_nearest_11, eL_nearest_29, eL_nearest_32]
    have hp := Int.emod_add_mul_ediv x.toInt y.toInt
    have hr1 := Int.emod_nonneg x.toInt h0
    have hr2 := Int.emod_lt_of_pos x.toInt (by omega : 0 < y.toInt)
    rw [Int.mul_comm] at hp
    have m1 : (q * y).toInt = x.toInt / y.toInt * y.toInt := by rw [tX (by rw [hq]; omega), hq]
    have m2 : (q * y + y).toInt = x.toInt / y.toInt * y.toInt + y.toInt := by rw [tP (by rw [m1]; omega), m1]
    have m3 : (q * y + y - x).toInt = x.toInt / y.toInt * y.toInt + y.toInt - x.toInt := by rw [tM (by rw [m2]; omega), m2]
    have m4 : (x - q * y).toInt = x.toInt - x.toInt / y.toInt * y.toInt := by rw [tM (by rw [m1]; omega), m1]
    simp only [ile, m3, m4]
    split
    · exact h _ (by rw [if_neg (by omega), m2])
    · exact h _ (by rw [if_pos (by omega), m1])
theorem q_reck0 {cap : Nat} {call : Cl} {Φ : Po} {k : Nat → Ct} {σ : Sg} {t : Nat} (ht : t < 4) (l w v f : Int32) : bL_reckoned_0 true cap call Φ k [.ref 108, .ref (88 + 5 * t), .int l, .int w, .int v, .int f, .retAddr 0, .retAddr 0, .retAddr 0, .retAddr 0, .retAddr 0] [] σ = (inb l 5 ∧ bL_reckoned_11 true cap call Φ k [.ref 108, .ref (88 + 5 * t), .int l, .int w, .int v, .int f, .int 0, .int (gI σ (90 + 5 * t) (ix l)), .retAddr 0, .retAddr 0, .retAddr 0] [] σ) := by
  have : t = 0 ∨ t = 1 ∨ t = 2 ∨ t = 3 := by omega
  rcases this with rfl | rfl | rfl | rfl <;> rfl
theorem q_reck11 {cap : Nat} {call : Cl} {Φ : Po} {k : Nat → Ct} {σ : Sg} {t : Nat} (ht : t < 4) (l w v f p i : Int32) (v8 v9 : Value) : bL_reckoned_11 true cap call Φ k [.ref 108, .ref (88 + 5 * t), .int l, .int w, .int v, .int f, .int p, .int i, v8, v9, .retAddr 0] [] σ = (inb l 5 ∧ (if gI σ (91 + 5 * t) (ix l) ≤ i then bL_reckoned_229 true cap call Φ k [.ref 108, .ref (88 + 5 * t), .int l, .int w, .int v, .int f, .int p, .int i, v8, v9, .retAddr 0] [] σ else (inb i 300 ∧ bL_reckoned_29 true cap call Φ k [.ref 108, .ref (88 + 5 * t), .int l, .int w, .int v, .int f, .int p, .int i, v8, v9, .retAddr 0] [.int (gI σ (89 + 5 * t) (ix i))] σ))) := by
  have : t = 0 ∨ t = 1 ∨ t = 2 ∨ t = 3 := by omega
  rcases this with rfl | rfl | rfl | rfl <;> rfl
abbrev F109 : List (Nat × Nat × Nat) := [(109, 0, 64)]
theorem f109 {σ : Sg} {n : Nat} {v : Int32} (h : n < 64) : Fr F109 σ (sI σ 109 n v) := Fr.sI (inS_r (lo := 0) (hi := 64) (by simp) ⟨Nat.zero_le _, h⟩)
theorem CE109 {σ σ' : Sg} {E : En} (h : Fr F109 σ σ') (g : CE σ E) : CE σ' E := CE.fr h ⟨rfl, rfl, rfl, rfl⟩ (fun a k q => by
  rcases q with rfl | rfl | q
  · rfl
  · rfl
  · unfold inS F109
    simp only [List.any_cons, List.any_nil, Bool.or_false, Bool.and_eq_false_iff]
    left
    exact nbeq (by omega)) g
theorem rc109 {σ σ' : Sg} (h : Fr F109 σ σ') : rc σ' 2 = rc σ 2 := Fr_rc h (fun _ _ => rfl)
theorem fr109_at {σ σ' : Sg} (h : Fr F109 σ σ') {a k : Nat} (ha : a < 109) : rd σ' a k = rd σ a k := h.rd (by
  unfold inS F109
  simp only [List.any_cons, List.any_nil, Bool.or_false, Bool.and_eq_false_iff]
  left
  exact nbeq (by omega))
theorem clipMM {v : Int} : max (-1000000) (min 1000000 v) = clip v := by
  unfold clip
  repeat' split
  all_goals omega
theorem q_reck197 {d : Nat} {Φ : Po} {k : Nat → Ct} {σ : Sg} {r1 : Nat} {l w v f p i cd : Int32} {v9 : Value} {y : Int64} (hp : 1 ≤ p.toInt ∧ p.toInt ≤ 63) (h : ∀ r : Int32, r.toInt = clip y.toInt → k 11 [.ref 108, .ref r1, .int l, .int w, .int v, .int f, .int p, .int (i + 1), .int cd, .long y, .retAddr 0] [] (sI σ 109 (p.toInt - 1).toNat r)) : bL_reckoned_197 true NOB (wp true (d + 1)) Φ k [.ref 108, .ref r1, .int l, .int w, .int v, .int f, .int p, .int i, .int cd, v9, .retAddr 0] [.long y] σ := by
  simp only [pI, pL, pR, pV, i10, ↓reduceIte, eL_reckoned_197]
  refine sJ_minL (fun a ha => ?_)
  simp only [pI, pL, pR, pV, i10, ↓reduceIte, eL_reckoned_218]
  refine sJ_maxL (fun b hb => ?_)
  simp only [pI, pL, pR, pV, i10, ↓reduceIte, eL_reckoned_221, eL_reckoned_223]
  have e1 : (p - 1).toInt = p.toInt - 1 := tM (x := p) (y := 1) (by rw [tl1]; omega)
  have e2 : ix (p - 1) = (p.toInt - 1).toNat := by unfold ix; rw [e1]
  have hb2 : b.toInt = clip y.toInt := by
    rw [hb, ha]
    exact clipMM
  have := clip_r y.toInt
  refine ⟨⟨by omega, by omega⟩, ?_⟩
  rw [e2]
  exact h _ (by rw [j32 (by omega), hb2])
theorem st_two {d : Nat} {Φ : Po} {k : Nat → Ct} {σ : Sg} {r1 : Nat} {l w v f p i cd : Int32} {v8 v9 : Value} {o X Y : Int} {R : List Int} (hS : SkL σ (Y :: X :: R)) (hp : p.toInt = R.length + 2) (hR : R.length ≤ 58) (hX : -1000000 ≤ X ∧ X ≤ 1000000) (hY : -1000000 ≤ Y ∧ Y ≤ 1000000) (hcd : cd.toInt = enc o 0) (ho : (4 ≤ o ∧ o ≤ 8) ∨ (10 ≤ o ∧ o ≤ 15) ∨ ((o = 21 ∨ o = 22) ∧ (X = 0 ∨ X = 1) ∧ (Y = 0 ∨ Y = 1)))
    (h : ∀ (r : Int32) (v9' : Value) (p' : Int32), p'.toInt = R.length + 1 → r.toInt = clip (tw2 o X Y) → k 11 [.ref 108, .ref r1, .int l, .int w, .int v, .int f, .int p', .int (i + 1), .int cd, v9', .retAddr 0] [] (sI σ 109 R.length r)) : bL_reckoned_29 true NOB (wp true (d + 3)) Φ k [.ref 108, .ref r1, .int l, .int w, .int v, .int f, .int p, .int i, v8, v9, .retAddr 0] [.int cd] σ := by
  have hc1 : 10011 ≤ cd.toInt ∧ cd.toInt ≤ 10023 ∧ (cd.toInt = 10023 ↔ o = 8) := by
    rw [hcd]
    have j : o = 4 ∨ o = 5 ∨ o = 6 ∨ o = 7 ∨ o = 8 ∨ o = 10 ∨ o = 11 ∨ o = 12 ∨ o = 13 ∨ o = 14 ∨ o = 15 ∨ o = 21 ∨ o = 22 := by omega
    rcases j with rfl | rfl | rfl | rfl | rfl | rfl | rfl | rfl | rfl | rfl | rfl | rfl | rfl <;> decide
  have e1 : (p + (-1)).toInt = R.length + 1 := by rw [tP (by rw [tlm]; omega), tlm]; omega
  have e2 : ix (p + (-1)) = R.length + 1 := ix_of (by omega)
  have e3 : (p + (-1) - 1).toInt = R.length := by rw [tM (by rw [tl1]; omega), tl1]; omega
  have e4 : ix (p + (-1) - 1) = R.length := ix_of e3
  obtain ⟨s1, s2, s3⟩ := hS
  have s1 : (gI σ 109 (R.length + 1)).toInt = Y := s1
  have s2 : (gI σ 109 R.length).toInt = X := s2
  simp only [pI, pL, pR, pV, i10, ↓reduceIte, eL_reckoned_29, eL_reckoned_88, eL_reckoned_131, eL_reckoned_139]
  try simp only [cond, zB_1, zB_0, lg_cmp_ge, lg_cmp_le, lg_cmp_gt, lg_cmp_lt, lg_cmp_eq]
  try simp only [ne_eq, not_false_eq_true, true_and, and_true, ↓reduceIte, ile, ilt, ieq, jle, jlt, jeq, Int32.toInt_toInt64, Int32.reduceToInt, Int64.reduceToInt, Int.reduceNeg, Int.reduceEq, Int.reduceLT, Int.reduceLE, and_self, and_false, false_and]
  rw [if_pos (by omega), if_pos (by omega), if_pos (by omega), e2, e4]
  generalize p + (-1) = p1 at e1 e2 e3 e4 ⊢
  have hfin : ∀ (y : Int64) (v9 : Value), y.toInt = tw2 o X Y → bL_reckoned_197 true NOB (wp true (d + 3)) Φ k [.ref 108, .ref r1, .int l, .int w, .int v, .int f, .int p1, .int i, .int cd, v9, .retAddr 0] [.long y] σ := by
    intro y v9 hy
    refine q_reck197 (by omega) (fun r hr => ?_)
    have : (p1.toInt - 1).toNat = R.length := by omega
    rw [this]
    exact h r _ _ e1 (by rw [hr, hy])
  by_cases h8 : o = 8
  · rw [if_pos (hc1.2.2.mpr h8)]
    refine ⟨⟨by omega, by omega⟩, ⟨by omega, by omega⟩, ?_⟩
    refine sJ_abs (by omega) (fun a ha => ?_)
    simp only [pI, pL, pR, pV, i10, ↓reduceIte, eL_reckoned_169]
    rw [s1] at ha
    have : 0 ≤ a.toInt ∧ a.toInt ≤ 1000000 := by
      rw [ha]
      unfold iabs
      split <;> omega
    refine sL_nearest (by omega) this (fun q hq => ?_)
    simp only [pI, pL, pR, pV, i10, ↓reduceIte, eL_reckoned_172]
    refine hfin _ _ ?_
    rw [Int32.toInt_toInt64, hq, ha, s2, h8]
    rfl
  · rw [if_neg (fun e => h8 (hc1.2.2.mp e))]
    simp only [pI, pL, pR, pV, i10, ↓reduceIte, eL_reckoned_176]
    rw [e2, e4]
    refine ⟨⟨by omega, by omega⟩, ⟨by omega, by omega⟩, ?_⟩
    refine sL_ofTwo hcd (by rw [s1, s2]; omega) (by omega) (by omega) (fun q hq => ?_)
    simp only [pI, pL, pR, pV, i10, ↓reduceIte, eL_reckoned_176]
    exact hfin _ _ (by rw [hq, s1, s2])
theorem lL_reckoned {d : Nat} {Φ : Po} {E : En} {c : Co} {l t : Nat} {lI w v f : Int32} {σ0 : Sg} (ht : t < 4) (hl : lI.toInt = l ∧ l < 5) (hO : Ok E c) (hE : CE σ0 E) (hc : rc σ0 2 = c) (hw : w.toInt = -1 ∨ (0 ≤ w.toInt ∧ w.toInt < eN E)) (hv : v.toInt = -1 ∨ (0 ≤ v.toInt ∧ v.toInt < eV E)) (hf : 0 ≤ f.toInt ∧ f.toInt ≤ 9) (hto : rd σ0 (91 + 5 * t) l ≤ 300) {a' b' : Nat} (hab : a' + b' = 1) :
    ∀ (ops : List (Int × Int)) (a b : Nat) (s1 s2 : List Int) (σ : Sg) (p i : Int32) (v8 v9 : Value), Wf l ops a b a' b' → s1.length = a → s2.length = b → a + b ≤ 60 → Bv s1 → Bt s2 → SkL σ (s1 ++ s2) → p.toInt = a + b → CodeAt σ0 t (ix i) ops → rd σ0 (91 + 5 * t) l = i.toInt + ops.length → 0 ≤ i.toInt → Fr F109 σ0 σ →
    (∀ (σ' : Sg) (r : Int32), Fr F109 σ0 σ' → r.toInt = ((evl E c w.toInt v.toInt f.toInt ops (s1, s2)).1 ++ (evl E c w.toInt v.toInt f.toInt ops (s1, s2)).2).headD 0 → Φ (some (.int r)) σ') →
    bL_reckoned_11 true NOB (wp true (d + 3)) Φ (kL_reckoned (d + 3) Φ) [.ref 108, .ref (88 + 5 * t), .int lI, .int w, .int v, .int f, .int p, .int i, v8, v9, .retAddr 0] [] σ
  | [], a, b, s1, s2, σ, p, i, v8, v9, hW, ha, hb, hab60, hBv, hBt, hS, hp, hC, hi, hi0, hF, h => by
    rw [q_reck11 ht]
    obtain ⟨rfl, rfl⟩ := hW
    have eto : (gI σ (91 + 5 * t) (ix lI)).toInt = i.toInt := by
      rw [ix_of hl.1]
      show rd σ (91 + 5 * t) l = _
      rw [fr109_at hF (by omega), hi]
      simp
    refine ⟨⟨by omega, by omega⟩, ?_⟩
    simp only [ile, eto]
    rw [if_pos (Int.le_refl _)]
    simp only [pI, pL, pR, pV, i10, ↓reduceIte, eL_reckoned_229, eL_reckoned_238, eL_reckoned_244]
    rw [if_neg (fun e => by rw [e] at hp; have : (0 : Int32).toInt = 0 := rfl; omega)]
    refine ⟨⟨by decide, by decide⟩, h _ _ hF ?_⟩
    show rd σ 109 0 = (s1 ++ s2).headD 0
    have hlen : (s1 ++ s2).length = 1 := by rw [List.length_append]; omega
    match hq : s1 ++ s2, hlen, hS with
    | [x], _, hS => exact hS.1
  | (o, u) :: r, a, b, s1, s2, σ, p, i, v8, v9, hW, ha, hb, hab60, hBv, hBt, hS, hp, hC, hi, hi0, hF, h => by
    rw [q_reck11 ht]
    have eto : (gI σ (91 + 5 * t) (ix lI)).toInt = i.toInt + (r.length + 1) := by
      rw [ix_of hl.1]
      show rd σ (91 + 5 * t) l = _
      rw [fr109_at hF (by omega), hi]
      simp
    refine ⟨⟨by omega, by omega⟩, ?_⟩
    simp only [ile, eto]
    rw [if_neg (by omega)]
    have hi3 : i.toInt + ((r.length : Int) + 1) ≤ 300 := by
      have : ((((o, u) :: r).length : Nat) : Int) = r.length + 1 := by simp
      omega
    refine ⟨⟨hi0, by omega⟩, ?_⟩
    have hi1 : (i + 1).toInt = i.toInt + 1 := t1 (by omega)
    have hi1x : ix (i + 1) = ix i + 1 := ix1 (by omega)
    have hcode : (gI σ (89 + 5 * t) (ix i)).toInt = enc o u := by
      show rd σ (89 + 5 * t) (ix i) = _
      rw [fr109_at hF (by omega)]
      exact hC.1
    have hE' := CE109 hF hE
    have hc' : rc σ 2 = c := (rc109 hF).trans hc
    have hC2 : CodeAt σ0 t (ix (i + 1)) r := by rw [hi1x]; exact hC.2
    have hi2 : rd σ0 (91 + 5 * t) l = (i + 1).toInt + r.length := by
      rw [hi1]
      have : ((((o, u) :: r).length : Nat) : Int) = r.length + 1 := by simp
      omega
    have hpx : ix p = a + b := ix_of (by omega)
    have hpp : (p + 1).toInt = a + b + 1 := by rw [t1 (by omega)]; omega
    generalize hcd : gI σ (89 + 5 * t) (ix i) = cd at hcode
    have IH := fun a b s1 s2 σ p v8 v9 => lL_reckoned (d := d) (Φ := Φ) (t := t) ht hl hO hE hc hw hv hf hto hab r a b s1 s2 σ p (i + 1) v8 v9
    have hls : (s1 ++ s2).length = a + b := by rw [List.length_append]; omega
    have hN := hO
    obtain ⟨n1, n2, -⟩ := hN
    rcases hW with ⟨rfl, q1, q2, q3, hW⟩ | ⟨rfl, q1, q2, q4, q3, hW⟩ | ⟨qo, q1, hW⟩ | ⟨q1, q2, q3, hW⟩ | ⟨q1, q2, q3, hW⟩ | ⟨rfl, q1, q2, hW⟩ | ⟨qo, q1, q2, hW⟩
    · have hcd' : cd.toInt = u := hcode
      simp only [pI, pL, pR, pV, i10, ↓reduceIte, eL_reckoned_29, eL_reckoned_51, eL_reckoned_81, eL_reckoned_223]
      try simp only [cond, zB_1, zB_0, lg_cmp_ge, lg_cmp_le, lg_cmp_gt, lg_cmp_lt, lg_cmp_eq]
      try simp only [ne_eq, not_false_eq_true, true_and, and_true, ↓reduceIte, ile, ilt, ieq, jle, jlt, jeq, Int32.toInt_toInt64, Int32.reduceToInt, Int64.reduceToInt, Int.reduceNeg, Int.reduceEq, Int.reduceLT, Int.reduceLE, and_self, and_false, false_and]
      rw [hcd', hp, if_neg (by omega), if_neg (by omega), if_neg (by omega)]
      refine ⟨⟨by omega, by omega⟩, ?_⟩
      rw [hpx]
      apply hL_reckoned_11
      refine IH (a + 1) b (u :: s1) s2 _ _ _ _ hW (by simp [ha]) hb (by omega) (Bv.cons (by omega) hBv) hBt ?_ (by rw [hpp]; omega) hC2 hi2 (by omega) (hF.tr (f109 (by omega))) h
      show SkL _ (u :: (s1 ++ s2))
      rw [← hcd']
      exact SkL_push hls hS
    · have hcd' : cd.toInt = 10000 + u := hcode
      simp only [pI, pL, pR, pV, i10, ↓reduceIte, eL_reckoned_29, eL_reckoned_51, eL_reckoned_70, eL_reckoned_81, eL_reckoned_223]
      try simp only [cond, zB_1, zB_0, lg_cmp_ge, lg_cmp_le, lg_cmp_gt, lg_cmp_lt, lg_cmp_eq]
      try simp only [ne_eq, not_false_eq_true, true_and, and_true, ↓reduceIte, ile, ilt, ieq, jle, jlt, jeq, Int32.toInt_toInt64, Int32.reduceToInt, Int64.reduceToInt, Int.reduceNeg, Int.reduceEq, Int.reduceLT, Int.reduceLE, and_self, and_false, false_and]
      rw [hcd', hp, if_neg (by omega), if_neg (by omega), if_pos (by omega)]
      refine sL_named hE' ⟨n1, n2⟩ hw hv hcd' ⟨q1, q2⟩ (fun x hx => ?_)
      simp only [pI, pL, pR, pV, i10, ↓reduceIte, eL_reckoned_81, eL_reckoned_223]
      refine ⟨⟨by omega, by omega⟩, ?_⟩
      rw [hpx]
      rw [hc'] at hx
      apply hL_reckoned_11
      refine IH (a + 1) b (x.toInt :: s1) s2 _ _ _ _ hW (by simp [ha]) hb (by omega) (Bv.cons (by rw [hx]; exact nmv_r hO hw hv hf) hBv) hBt ?_ (by rw [hpp]; omega) hC2 hi2 (by omega) (hF.tr (f109 (by omega))) (fun σ' r' hF' hr => h σ' r' hF' ?_)
      · exact SkL_push hls hS
      · rw [hr, hx]
        rfl
    · obtain ⟨x, xs, rfl⟩ : ∃ x xs, s1 = x :: xs := by
        cases s1 with
        | nil => simp at ha; omega
        | cons x xs => exact ⟨x, xs, rfl⟩
      have hxb := hBv x List.mem_cons_self
      have hBv' : Bv xs := fun y hy => hBv y (List.mem_cons_of_mem _ hy)
      have hl1 : (xs ++ s2).length + 1 = a + b := by rw [← hls]; simp <;> omega
      obtain ⟨t1, t2⟩ := hS
      have t1 : (gI σ 109 (xs ++ s2).length).toInt = x := t1
      have e1 : (p - 1).toInt = (xs ++ s2).length := by rw [tM (by rw [tl1]; omega), tl1]; omega
      have e2 : ix (p - 1) = (xs ++ s2).length := ix_of e1
      have hce : cd.toInt = enc o 0 := by
        rw [hcode]
        rcases qo with rfl | rfl <;> rfl
      have hcr : 10008 ≤ cd.toInt ∧ cd.toInt ≤ 10010 := by
        rw [hce]
        rcases qo with rfl | rfl <;> decide
      simp only [pI, pL, pR, pV, i10, ↓reduceIte, eL_reckoned_29, eL_reckoned_88, eL_reckoned_104]
      try simp only [cond, zB_1, zB_0, lg_cmp_ge, lg_cmp_le, lg_cmp_gt, lg_cmp_lt, lg_cmp_eq]
      try simp only [ne_eq, not_false_eq_true, true_and, and_true, ↓reduceIte, ile, ilt, ieq, jle, jlt, jeq, Int32.toInt_toInt64, Int32.reduceToInt, Int64.reduceToInt, Int.reduceNeg, Int.reduceEq, Int.reduceLT, Int.reduceLE, and_self, and_false, false_and]
      rw [if_pos (by omega), if_neg (by omega), if_pos (by omega), e2]
      refine ⟨⟨by omega, by omega⟩, ?_⟩
      refine sL_ofOne hE' n1 hce (by omega) (by omega) (fun q hq => ?_)
      simp only [pI, pL, pR, pV, i10, ↓reduceIte, eL_reckoned_127, eL_reckoned_223]
      rw [e2]
      refine ⟨⟨by omega, by omega⟩, ?_⟩
      rw [t1, hc'] at hq
      have hqb : -1000000 ≤ q.toInt ∧ q.toInt ≤ 1000000 := by
        rw [hq]
        rcases qo with rfl | rfl
        · exact dbt_r hO _
        · simp only [Int.reduceEq, ↓reduceIte]; omega
      apply hL_reckoned_11
      refine IH a b (q.toInt :: xs) s2 _ _ _ _ hW ha hb hab60 (Bv.cons hqb hBv') hBt ?_ hp hC2 hi2 (by omega) (hF.tr (f109 (by omega))) (fun σ' r' hF' hr => h σ' r' hF' ?_)
      · exact SkL_push rfl t2
      · rw [hr, hq]
        rcases qo with rfl | rfl <;> rfl
    · obtain ⟨y, x, xs, rfl⟩ : ∃ y x xs, s1 = y :: x :: xs := by
        match s1, ha with
        | [], ha => simp at ha; omega
        | [_], ha => simp at ha; omega
        | y :: x :: xs, _ => exact ⟨y, x, xs, rfl⟩
      have hyb := hBv y List.mem_cons_self
      have hxb := hBv x (List.mem_cons_of_mem _ List.mem_cons_self)
      have hBv' : Bv xs := fun z hz => hBv z (List.mem_cons_of_mem _ (List.mem_cons_of_mem _ hz))
      have hl1 : (xs ++ s2).length + 2 = a + b := by rw [← hls]; simp <;> omega
      have hce : cd.toInt = enc o 0 := by
        rw [hcode]
        have j : o = 4 ∨ o = 5 ∨ o = 6 ∨ o = 7 ∨ o = 8 := by omega
        rcases j with rfl | rfl | rfl | rfl | rfl <;> rfl
      refine st_two (R := xs ++ s2) hS (by omega) (by omega) hxb hyb hce (by omega) (fun q v9' p' hp' hq => ?_)
      apply hL_reckoned_11
      refine IH (a - 1) b (q.toInt :: xs) s2 _ _ _ _ hW (by simp at ha ⊢; omega) hb (by omega) (Bv.cons (by rw [hq]; exact clip_r _) hBv') hBt ?_ (by omega) hC2 hi2 (by omega) (hF.tr (f109 (by omega))) (fun σ' r' hF' hr => h σ' r' hF' ?_)
      · exact SkL_push rfl hS.2.2
      · rw [hr, hq]
        have j : o = 4 ∨ o = 5 ∨ o = 6 ∨ o = 7 ∨ o = 8 := by omega
        rcases j with rfl | rfl | rfl | rfl | rfl <;> rfl
    · obtain ⟨y, x, rfl⟩ : ∃ y x, s1 = [y, x] := by
        match s1, ha with
        | [], ha => simp at ha; omega
        | [_], ha => simp at ha; omega
        | [y, x], _ => exact ⟨y, x, rfl⟩
        | _ :: _ :: _ :: _, ha => simp at ha; omega
      have hyb := hBv y List.mem_cons_self
      have hxb := hBv x (List.mem_cons_of_mem _ List.mem_cons_self)
      have hce : cd.toInt = enc o 0 := by
        rw [hcode]
        have j : o = 10 ∨ o = 11 ∨ o = 12 ∨ o = 13 ∨ o = 14 ∨ o = 15 := by omega
        rcases j with rfl | rfl | rfl | rfl | rfl | rfl <;> rfl
      refine st_two (R := s2) hS (by omega) (by omega) hxb hyb hce (by omega) (fun q v9' p' hp' hq => ?_)
      have hq2 : q.toInt = bi (cmq o x y) := by
        rw [hq]
        have j : o = 10 ∨ o = 11 ∨ o = 12 ∨ o = 13 ∨ o = 14 ∨ o = 15 := by omega
        have e : tw2 o x y = bi (cmq o x y) := by
          rcases j with rfl | rfl | rfl | rfl | rfl | rfl <;> rfl
        rw [e]
        rcases bi_r (cmq o x y) with e | e <;> rw [e] <;> rfl
      apply hL_reckoned_11
      refine IH 0 (b + 1) [] (q.toInt :: s2) _ _ _ _ hW rfl (by simp [hb]) (by omega) (fun _ h => by cases h) (Bt.cons (by rw [hq2]; exact bi_r _) hBt) ?_ (by omega) hC2 hi2 (by omega) (hF.tr (f109 (by omega))) (fun σ' r' hF' hr => h σ' r' hF' ?_)
      · exact SkL_push rfl hS.2.2
      · rw [hr, hq2]
        have j : o = 10 ∨ o = 11 ∨ o = 12 ∨ o = 13 ∨ o = 14 ∨ o = 15 := by omega
        rcases j with rfl | rfl | rfl | rfl | rfl | rfl <;> rfl
    · obtain rfl : s1 = [] := List.length_eq_zero_iff.mp (by omega)
      obtain ⟨x, xs, rfl⟩ : ∃ x xs, s2 = x :: xs := by
        cases s2 with
        | nil => simp at hb; omega
        | cons x xs => exact ⟨x, xs, rfl⟩
      have hxb := hBt x List.mem_cons_self
      have hBt' : Bt xs := fun y hy => hBt y (List.mem_cons_of_mem _ hy)
      have hl1 : xs.length + 1 = a + b := by rw [← hls]; simp
      obtain ⟨t1, t2⟩ := hS
      have t1 : (gI σ 109 xs.length).toInt = x := t1
      have e1 : (p - 1).toInt = xs.length := by rw [tM (by rw [tl1]; omega), tl1]; omega
      have e2 : ix (p - 1) = xs.length := ix_of e1
      have hce : cd.toInt = enc 20 0 := hcode
      have hcr : cd.toInt = 10008 := hcode
      simp only [pI, pL, pR, pV, i10, ↓reduceIte, eL_reckoned_29, eL_reckoned_88, eL_reckoned_104]
      try simp only [cond, zB_1, zB_0, lg_cmp_ge, lg_cmp_le, lg_cmp_gt, lg_cmp_lt, lg_cmp_eq]
      try simp only [ne_eq, not_false_eq_true, true_and, and_true, ↓reduceIte, ile, ilt, ieq, jle, jlt, jeq, Int32.toInt_toInt64, Int32.reduceToInt, Int64.reduceToInt, Int.reduceNeg, Int.reduceEq, Int.reduceLT, Int.reduceLE, and_self, and_false, false_and]
      rw [if_pos (by omega), if_neg (by omega), if_pos (by omega), e2]
      refine ⟨⟨by omega, by omega⟩, ?_⟩
      refine sL_ofOne hE' n1 hce (by omega) (by omega) (fun q hq => ?_)
      simp only [pI, pL, pR, pV, i10, ↓reduceIte, eL_reckoned_127, eL_reckoned_223]
      rw [e2]
      refine ⟨⟨by omega, by omega⟩, ?_⟩
      rw [t1] at hq
      have hq2 : q.toInt = 1 - x := by
        rw [hq]
        simp only [Int.reduceEq, ↓reduceIte]
        rcases hxb with rfl | rfl <;> rfl
      apply hL_reckoned_11
      refine IH 0 b [] (q.toInt :: xs) _ _ _ _ hW rfl hb (by omega) (fun _ h => by cases h) (Bt.cons (by omega) hBt') ?_ (by omega) hC2 hi2 (by omega) (hF.tr (f109 (by omega))) (fun σ' r' hF' hr => h σ' r' hF' ?_)
      · exact SkL_push rfl t2
      · rw [hr, hq2]
        rfl
    · obtain rfl : s1 = [] := List.length_eq_zero_iff.mp (by omega)
      obtain ⟨y, x, xs, rfl⟩ : ∃ y x xs, s2 = y :: x :: xs := by
        match s2, hb with
        | [], hb => simp at hb; omega
        | [_], hb => simp at hb; omega
        | y :: x :: xs, _ => exact ⟨y, x, xs, rfl⟩
      have hyb := hBt y List.mem_cons_self
      have hxb := hBt x (List.mem_cons_of_mem _ List.mem_cons_self)
      have hBt' : Bt xs := fun z hz => hBt z (List.mem_cons_of_mem _ (List.mem_cons_of_mem _ hz))
      have hl1 : xs.length + 2 = a + b := by rw [← hls]; simp
      have hce : cd.toInt = enc o 0 := by
        rw [hcode]
        rcases qo with rfl | rfl <;> rfl
      refine st_two (R := xs) hS (by omega) (by omega) (by omega) (by omega) hce (by omega) (fun q v9' p' hp' hq => ?_)
      have hq2 : q.toInt = if o = 21 then min x y else max x y := by
        rw [hq]
        rcases qo with rfl | rfl
        · show clip (min x y) = min x y
          rcases hxb with rfl | rfl <;> rcases hyb with rfl | rfl <;> rfl
        · show clip (max x y) = max x y
          rcases hxb with rfl | rfl <;> rcases hyb with rfl | rfl <;> rfl
      apply hL_reckoned_11
      refine IH 0 (b - 1) [] (q.toInt :: xs) _ _ _ _ hW rfl (by simp at hb ⊢; omega) (by omega) (fun _ h => by cases h) (Bt.cons (by rw [hq2]; rcases qo with rfl | rfl <;> simp only [Int.reduceEq, ↓reduceIte] <;> omega) hBt') ?_ (by omega) hC2 hi2 (by omega) (hF.tr (f109 (by omega))) (fun σ' r' hF' hr => h σ' r' hF' ?_)
      · exact SkL_push rfl hS.2.2
      · rw [hr, hq2]
        rcases qo with rfl | rfl <;> rfl
