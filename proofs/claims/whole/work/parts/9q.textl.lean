/-! TEXTS: the class reads a clause -/
abbrev Dd : Type := Tr × Int × Int × Int
noncomputable def D3 (L : Nat) (B : Nat → Int) (a1 b1 : Int) (w1 : Nat) (a2 b2 : Int) (w2 : Nat) (a3 b3 : Int) (i : Nat) : Dd := (wrdT L B 38 (numT L B a3 b3 (wrdT L B w2 (numT L B a2 b2 (wrdT L B w1 (numT L B a1 b1 (0, 0, i)))))), tokN L B i, tokN L B (wrdT L B w1 (numT L B a1 b1 (0, 0, i))).2.2, tokN L B (wrdT L B w2 (numT L B a2 b2 (wrdT L B w1 (numT L B a1 b1 (0, 0, i))))).2.2)
noncomputable def D2 (L : Nat) (B : Nat → Int) (a1 b1 : Int) (w1 : Nat) (a2 b2 : Int) (i : Nat) : Dd := (wrdT L B 38 (numT L B a2 b2 (wrdT L B w1 (numT L B a1 b1 (0, 0, i)))), tokN L B i, tokN L B (wrdT L B w1 (numT L B a1 b1 (0, 0, i))).2.2, 0)
noncomputable def D1 (L : Nat) (B : Nat → Int) (a1 b1 : Int) (i : Nat) : Dd := (wrdT L B 38 (numT L B a1 b1 (0, 0, i)), tokN L B i, 0, 0)
noncomputable def deedF (L : Nat) (B : Nat → Int) (o i : Nat) : Dd := if o = 5 then D3 L B 0 3 14 1 9 13 0 99 i else if o = 6 then D2 L B 0 9 17 0 9999 i else if o = 10 then D1 L B 1 60 i else if o = 7 then D3 L B 0 5 19 0 5 18 0 99 i else if o = 8 then D3 L B 0 5 19 0 5 18 1 999 i else D2 L B 0 5 19 0 5 i
/-- clauses, their count; the code; the laws -/
abbrev Cs : Type := Nat → Int × Int × Int × Int
abbrev TT : Type := Nat × Cs × List (Int × Int) × (Nat → Option (Nat × List (Int × Int)))
noncomputable def addD (T : TT) (x : Int × Int × Int × Int) : TT := (T.1 + 1, fun k => if k = T.1 then x else T.2.1 k, T.2.2)
noncomputable def addL (T : TT) (l : Nat) (ops : List (Int × Int)) : TT := (T.1 + 1, fun k => if k = T.1 then ((l : Int), (T.2.2.1.length : Int), ((T.2.2.1.length + ops.length : Nat) : Int), 0) else T.2.1 k, T.2.2.1 ++ ops, fun j => if j = l then some (T.2.2.1.length, ops) else T.2.2.2 j)
def TC (t : Nat) (T : TT) (σ : Sg) : Prop := rd σ (88 + 5 * t) 5 = T.1 ∧ (∀ k, k < T.1 → rd σ (92 + 5 * t) (4 * k) = (T.2.1 k).1 ∧ (5 ≤ (T.2.1 k).1 → rd σ (92 + 5 * t) (4 * k + 1) = (T.2.1 k).2.1 ∧ rd σ (92 + 5 * t) (4 * k + 2) = (T.2.1 k).2.2.1 ∧ rd σ (92 + 5 * t) (4 * k + 3) = (T.2.1 k).2.2.2)) ∧ rd σ (88 + 5 * t) 1 = T.2.2.1.length ∧ CodeAt σ t 0 T.2.2.1 ∧ ∀ l, l < 5 → (T.2.2.2 l = none → rd σ (90 + 5 * t) l = -1) ∧ ∀ f ops, T.2.2.2 l = some (f, ops) → rd σ (90 + 5 * t) l = (f : Nat) ∧ rd σ (91 + 5 * t) l = ((f + ops.length : Nat) : Int)
def TI (t L : Nat) (B : Nat → Int) (i : Nat) (T : TT) (σ : Sg) : Prop := TpC L B σ ∧ CTk L B i σ ∧ i ≤ L ∧ gR σ 83 6 = 88 + 5 * t ∧ rd σ 83 13 = 0 ∧ TC t T σ ∧ rd σ 83 14 = -1
abbrev FTx (t : Nat) : Ls := [(83, 1, 15), (84, 0, 64), (88 + 5 * t, 1, 6), (89 + 5 * t, 0, 300), (90 + 5 * t, 0, 5), (91 + 5 * t, 0, 5), (92 + 5 * t, 0, 96)]
theorem FTx_no {t a k : Nat} (h : (a ≠ 83 ∨ k < 1 ∨ 15 ≤ k) ∧ a ≠ 84 ∧ (a ≠ 88 + 5 * t ∨ k < 1 ∨ 6 ≤ k) ∧ (a ≠ 89 + 5 * t ∨ 300 ≤ k) ∧ (a ≠ 90 + 5 * t ∨ 5 ≤ k) ∧ (a ≠ 91 + 5 * t ∨ 5 ≤ k) ∧ (a ≠ 92 + 5 * t ∨ 96 ≤ k)) : inS (FTx t) a k = false := not_inS (fun e he z => by
  obtain ⟨z1, z2, z3⟩ := z
  rcases List.mem_cons.mp he with rfl | he
  · have z1 : 83 = a := z1
    have z2 : 1 ≤ k := z2
    have z3 : k < 15 := z3
    omega
  rcases List.mem_cons.mp he with rfl | he
  · have z1 : 84 = a := z1
    omega
  rcases List.mem_cons.mp he with rfl | he
  · have z1 : 88 + 5 * t = a := z1
    have z2 : 1 ≤ k := z2
    have z3 : k < 6 := z3
    omega
  rcases List.mem_cons.mp he with rfl | he
  · have z1 : 89 + 5 * t = a := z1
    have z3 : k < 300 := z3
    omega
  rcases List.mem_cons.mp he with rfl | he
  · have z1 : 90 + 5 * t = a := z1
    have z3 : k < 5 := z3
    omega
  rcases List.mem_cons.mp he with rfl | he
  · have z1 : 91 + 5 * t = a := z1
    have z3 : k < 5 := z3
    omega
  rw [List.mem_singleton] at he
  subst he
  have z1 : 92 + 5 * t = a := z1
  have z3 : k < 96 := z3
  omega)
theorem Fr_83 {t : Nat} {σ σ' : Sg} (h : Fr F83 σ σ') : Fr (FTx t) σ σ' := h.cov (fun e he => by
  rw [List.mem_singleton] at he
  subst he
  exact ⟨(83, 1, 15), by simp, rfl, by decide, by decide⟩)
theorem Fr_lw {t : Nat} {σ σ' : Sg} (h : Fr (FLw t) σ σ') : Fr (FTx t) σ σ' := h.cov (fun e he => by
  rcases List.mem_cons.mp he with rfl | he
  · exact ⟨(83, 1, 15), by simp, rfl, by decide, by decide⟩
  rcases List.mem_cons.mp he with rfl | he
  · exact ⟨(84, 0, 64), by simp, rfl, by decide, by decide⟩
  rcases List.mem_cons.mp he with rfl | he
  · exact ⟨(88 + 5 * t, 1, 6), by simp, rfl, Nat.le_refl 1, show 2 ≤ 6 by decide⟩
  rw [List.mem_singleton] at he
  subst he
  exact ⟨(89 + 5 * t, 0, 300), by simp, rfl, Nat.le_refl 0, Nat.le_refl 300⟩)
theorem Fr_ad {t n : Nat} {σ : Sg} {x1 x2 x3 x4 v : Int32} (hn : n < 24) : Fr (FTx t) σ (sI (sI (sI (sI (sI σ (92 + 5 * t) (4 * n) x1) (92 + 5 * t) (4 * n + 1) x2) (92 + 5 * t) (4 * n + 2) x3) (92 + 5 * t) (4 * n + 3) x4) (88 + 5 * t) 5 v) := by
  have k : ∀ j, j < 96 → inS (FTx t) (92 + 5 * t) j = true := fun j hj => inS_r (lo := 0) (hi := 96) (by simp) (by omega)
  exact ((((Fr.sI (k _ (by omega))).tr (Fr.sI (k _ (by omega)))).tr (Fr.sI (k _ (by omega)))).tr (Fr.sI (k _ (by omega)))).tr (Fr.sI (inS_r (lo := 1) (hi := 6) (by simp) (by omega)))
/-- the cells of a text -/
def TCeq (t : Nat) (σ σ' : Sg) : Prop := ∀ a k, 88 + 5 * t ≤ a → a < 93 + 5 * t → rd σ' a k = rd σ a k
theorem TC.of {t : Nat} {T : TT} {σ σ' : Sg} (h : TCeq t σ σ') (g : TC t T σ) : TC t T σ' := by
  obtain ⟨g1, g2, g3, g4, g5⟩ := g
  refine ⟨?_, fun k hk => ?_, ?_, CodeAt_lt _ _ (fun k _ _ => h _ _ (by omega) (by omega)) g4, fun l hl => ?_⟩
  · rw [h _ _ (by omega) (by omega)]
    exact g1
  · rw [h _ _ (by omega) (by omega), h _ _ (by omega) (by omega), h _ _ (by omega) (by omega), h _ _ (by omega) (by omega)]
    exact g2 k hk
  · rw [h _ _ (by omega) (by omega)]
    exact g3
  · rw [h _ _ (by omega) (by omega), h _ _ (by omega) (by omega)]
    exact g5 l hl
/-- a clause added -/
theorem TC_addD {t : Nat} {T : TT} {σ : Sg} {x1 x2 x3 x4 v : Int32} {x : Int × Int × Int × Int} (ht : t < 4) (g : TC t T σ) (h1 : x1.toInt = x.1) (h2 : 5 ≤ x.1 → x2.toInt = x.2.1 ∧ x3.toInt = x.2.2.1 ∧ x4.toInt = x.2.2.2) (hv : v.toInt = ((T.1 + 1 : Nat) : Int)) : TC t (addD T x) (sI (sI (sI (sI (sI σ (92 + 5 * t) (4 * T.1) x1) (92 + 5 * t) (4 * T.1 + 1) x2) (92 + 5 * t) (4 * T.1 + 2) x3) (92 + 5 * t) (4 * T.1 + 3) x4) (88 + 5 * t) 5 v) := by
  obtain ⟨g1, g2, g3, g4, g5⟩ := g
  have e : ∀ a k, a ≠ 92 + 5 * t → (a ≠ 88 + 5 * t ∨ k ≠ 5) → rd (sI (sI (sI (sI (sI σ (92 + 5 * t) (4 * T.1) x1) (92 + 5 * t) (4 * T.1 + 1) x2) (92 + 5 * t) (4 * T.1 + 2) x3) (92 + 5 * t) (4 * T.1 + 3) x4) (88 + 5 * t) 5 v) a k = rd σ a k := fun a k q1 q2 => by
    have : rd (sI (sI (sI (sI (sI σ (92 + 5 * t) (4 * T.1) x1) (92 + 5 * t) (4 * T.1 + 1) x2) (92 + 5 * t) (4 * T.1 + 2) x3) (92 + 5 * t) (4 * T.1 + 3) x4) (88 + 5 * t) 5 v) a k = rd (sI (sI (sI (sI σ (92 + 5 * t) (4 * T.1) x1) (92 + 5 * t) (4 * T.1 + 1) x2) (92 + 5 * t) (4 * T.1 + 2) x3) (92 + 5 * t) (4 * T.1 + 3) x4) a k := by
      rcases q2 with q2 | q2
      · exact rdne q2
      · by_cases z : a = 88 + 5 * t
        · subst z
          exact rdne2 q2
        · exact rdne z
    rw [this, rdne q1, rdne q1, rdne q1, rdne q1]
  refine ⟨?_, fun k hk => ?_, ?_, CodeAt_lt _ _ (fun k _ _ => e _ _ (by omega) (by omega)) g4, fun l hl => ?_⟩
  · rw [rdeq]
    exact hv
  · by_cases z : k = T.1
    · subst z
      show rd _ _ _ = (if T.1 = T.1 then x else T.2.1 T.1).1 ∧ (5 ≤ (if T.1 = T.1 then x else T.2.1 T.1).1 → rd _ _ _ = (if T.1 = T.1 then x else T.2.1 T.1).2.1 ∧ rd _ _ _ = (if T.1 = T.1 then x else T.2.1 T.1).2.2.1 ∧ rd _ _ _ = (if T.1 = T.1 then x else T.2.1 T.1).2.2.2)
      try rw [if_pos rfl]
      rw [rdne (by omega), rdne2 (by omega), rdne2 (by omega), rdne2 (by omega), rdeq, rdne (by omega), rdne2 (by omega), rdne2 (by omega), rdeq, rdne (by omega), rdne2 (by omega), rdeq, rdne (by omega), rdeq]
      exact ⟨h1, h2⟩
    · have hk : k < T.1 + 1 := hk
      show rd _ _ _ = (if k = T.1 then x else T.2.1 k).1 ∧ (5 ≤ (if k = T.1 then x else T.2.1 k).1 → rd _ _ _ = (if k = T.1 then x else T.2.1 k).2.1 ∧ rd _ _ _ = (if k = T.1 then x else T.2.1 k).2.2.1 ∧ rd _ _ _ = (if k = T.1 then x else T.2.1 k).2.2.2)
      have e2 : ∀ j, j < 4 → rd (sI (sI (sI (sI (sI σ (92 + 5 * t) (4 * T.1) x1) (92 + 5 * t) (4 * T.1 + 1) x2) (92 + 5 * t) (4 * T.1 + 2) x3) (92 + 5 * t) (4 * T.1 + 3) x4) (88 + 5 * t) 5 v) (92 + 5 * t) (4 * k + j) = rd σ (92 + 5 * t) (4 * k + j) := fun j hj => by
        rw [rdne (by omega), rdne2 (by omega), rdne2 (by omega), rdne2 (by omega), rdne2 (by omega)]
      rw [if_neg z]
      have gk := g2 k (by omega)
      exact ⟨(e2 0 (by omega)).trans gk.1, fun q => ⟨(e2 1 (by omega)).trans (gk.2 q).1, (e2 2 (by omega)).trans (gk.2 q).2.1, (e2 3 (by omega)).trans (gk.2 q).2.2⟩⟩
  · rw [e _ _ (by omega) (by omega)]
    exact g3
  · rw [e _ _ (by omega) (by omega), e _ _ (by omega) (by omega)]
    exact g5 l hl
