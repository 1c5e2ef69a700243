/-! SHARES: the reference's rows -/
def RowIs (l : List Nat) (σ : Sg) : Prop := ∀ i, i < l.length → (gI σ 132 i).toInt = (l.getD i 0 : Nat)
theorem getD_set {l : List Nat} {i j v : Nat} (h : i < l.length) : (l.set i v).getD j 0 = if i = j then v else l.getD j 0 := by
  rw [List.getD_eq_getElem?_getD, List.getElem?_set]
  by_cases e : i = j
  · rw [if_pos e, if_pos h, if_pos e]
    rfl
  · rw [if_neg e, if_neg e, List.getD_eq_getElem?_getD]
theorem swp_len {l : List Nat} {x y : Nat} : (swp l x y).length = l.length := by
  unfold swp
  rw [List.length_set, List.length_set]
theorem RowIs_swp {l : List Nat} {σ : Sg} {x y : Nat} (h : RowIs l σ) (hx : x < l.length) (hy : y < l.length) : RowIs (swp l x y) (sI (sI σ 132 x (gI σ 132 y)) 132 y (gI σ 132 x)) := fun i hi => by
  rw [swp_len] at hi
  unfold swp
  rw [getD_set (by rw [List.length_set]; exact hy), getD_set hx]
  by_cases e : y = i
  · subst e
    try rw [if_pos rfl]
    rw [gIeq]
    exact h x hx
  · rw [if_neg e, gIne2 (fun z => e z.symm)]
    by_cases e2 : x = i
    · subst e2
      try rw [if_pos rfl]
      rw [gIeq]
      exact h y hy
    · rw [if_neg e2, gIne2 (fun z => e2 z.symm)]
      exact h i hi
theorem m1z {p : Int32} {n : Int} (h : p.toInt = n) (hn : -1000 ≤ n ∧ n ≤ 1000) : (p + (-1)).toInt = n - 1 := by
  have e : ((-1 : Int32)).toInt = -1 := rfl
  rw [tP (by rw [h, e]; omega), h, e]
  omega
theorem fI_f {l : List Nat} {k : Nat} : ∀ i, fI l i = some k → k + 1 ≤ i ∧ l.getD k 0 ≤ l.getD (k + 1) 0
  | 0, h => by cases h
  | i + 1, h => by
    have h : (if l.getD i 0 ≤ l.getD (i + 1) 0 then some i else fI l i) = some k := h
    split at h
    next z =>
      injection h with e
      subst e
      exact ⟨Nat.le_refl _, z⟩
    next z =>
      have := fI_f i h
      exact ⟨by omega, this.2⟩
theorem fK_f {l : List Nat} {p : Nat} (hp : l.getD p 0 ≤ l.getD (p + 1) 0) : ∀ k, p + 1 ≤ k → p + 1 ≤ fK l p k ∧ fK l p k ≤ k
  | 0, h => by omega
  | k + 1, h => by
    have e : fK l p (k + 1) = if l.getD p 0 ≤ l.getD (k + 1) 0 then k + 1 else fK l p k := rfl
    rw [e]
    split
    next z => omega
    next z =>
      have hk : k ≠ p := fun q => by subst q; exact z hp
      have := fK_f hp k (by omega)
      omega
theorem lM_nr3 {d : Nat} {Φ : Po} {x1 x2 x3 : Int32} {n : Nat} {σ0 : Sg} {R : List Nat} (hn : n ≤ 5) (h : ∀ σ' : Sg, Fr [(132, 0, 5)] σ0 σ' → RowIs R σ' → Φ (some (.int 1)) σ') :
    ∀ (f x y : Nat) (l : List Nat) (σ : Sg) (x4 x5 x6 : Int32), l.length = n → x5.toInt = x → x6.toInt = y → y < n → x < n + 1 → y ≤ x + f → Fr [(132, 0, 5)] σ0 σ → RowIs l σ → rvv f x y l = R → bM_nextRow_100 true NOB (wp true d) Φ (kM_nextRow d Φ) [.ref 120, .int x1, .int x2, .int x3, .int x4, .int x5, .int x6] [] σ := by
  intro f
  induction f with
  | zero =>
    intro x y l σ x4 x5 x6 hl h5 h6 hy hx hxy hF hr hR
    simp only [pI, pL, pR, pV, i10, ↓reduceIte, eM_nextRow_100]
    simp only [ile, h5, h6]
    rw [if_pos (by omega)]
    simp only [pI, pL, pR, pV, i10, ↓reduceIte, eM_nextRow_148]
    have hR : l = R := hR
    exact h σ hF (by rw [← hR]; exact hr)
  | succ f ih =>
    intro x y l σ x4 x5 x6 hl h5 h6 hy hx hxy hF hr hR
    have hR : (if y ≤ x then l else rvv f (x + 1) (y - 1) (swp l x y)) = R := hR
    simp only [pI, pL, pR, pV, i10, ↓reduceIte, eM_nextRow_100]
    simp only [ile, h5, h6]
    by_cases z : y ≤ x
    · rw [if_pos z] at hR
      rw [if_pos (by omega)]
      simp only [pI, pL, pR, pV, i10, ↓reduceIte, eM_nextRow_148]
      exact h σ hF (by rw [← hR]; exact hr)
    · rw [if_neg z] at hR
      rw [if_neg (by omega)]
      have i5 : ix x5 = x := ix_of h5
      have i6 : ix x6 = y := ix_of h6
      have h51 : (x5 + 1).toInt = ((x + 1 : Nat) : Int) := by rw [tq1 x5 (by omega), h5]; omega
      have h61 : (x6 + (-1)).toInt = ((y - 1 : Nat) : Int) := by rw [m1z h6 (by omega)]; omega
      generalize x6 + (-1) = y6 at *
      rw [i5, i6]
      exact ⟨⟨by omega, by omega⟩, ⟨by omega, by omega⟩, ⟨by omega, by omega⟩, ⟨by omega, by omega⟩, hM_nextRow_100 _ _ _ _ _ (ih (x + 1) (y - 1) (swp l x y) _ _ _ _ (by rw [swp_len]; exact hl) h51 h61 (by omega) (by omega) (by omega) (hF.tr ((Fr.sI (inS_r (lo := 0) (hi := 5) (by simp) (by omega))).tr (Fr.sI (inS_r (lo := 0) (hi := 5) (by simp) (by omega))))) (RowIs_swp hr (by omega) (by omega)) hR)⟩
theorem lM_nr2 {d : Nat} {Φ : Po} {x1 x2 : Int32} {n p : Nat} {l : List Nat} {σ : Sg} (hn : n ≤ 5) (hl : l.length = n) (hr : RowIs l σ) (h2 : x2.toInt = p) (hpn : p + 1 < n) (hp : l.getD p 0 ≤ l.getD (p + 1) 0) (h : ∀ x3 : Int32, x3.toInt = (fK l p (n - 1) : Nat) → bM_nextRow_62 true NOB (wp true d) Φ (kM_nextRow d Φ) [.ref 120, .int x1, .int x2, .int x3, .retAddr 0, .retAddr 0, .retAddr 0] [] σ) :
    ∀ (k : Nat) (x3 : Int32), p + 1 ≤ k → k < n → x3.toInt = k → fK l p k = fK l p (n - 1) → bM_nextRow_41 true NOB (wp true d) Φ (kM_nextRow d Φ) [.ref 120, .int x1, .int x2, .int x3, .retAddr 0, .retAddr 0, .retAddr 0] [] σ := by
  have i2 : ix x2 = p := ix_of h2
  intro k
  induction k with
  | zero =>
    intro x3 hk hkn h3 hI
    omega
  | succ k ih =>
    intro x3 hk hkn h3 hI
    have i3 : ix x3 = k + 1 := ix_of h3
    have r2 := hr p (by omega)
    have r3 := hr (k + 1) (by omega)
    have eK : fK l p (k + 1) = if l.getD p 0 ≤ l.getD (k + 1) 0 then k + 1 else fK l p k := rfl
    simp only [pI, pL, pR, pV, i10, ↓reduceIte, eM_nextRow_41]
    rw [i2, i3]
    refine ⟨⟨by omega, by omega⟩, ⟨by omega, by omega⟩, ?_⟩
    simp only [ile, r2, r3]
    split
    next z =>
      rw [if_pos (by omega)] at eK
      exact h x3 (by rw [← hI, eK, h3])
    next z =>
      rw [if_neg (by omega)] at eK
      have hkp : k ≠ p := fun q => by subst q; omega
      have h31 : (x3 + (-1)).toInt = (k : Int) := by rw [m1z h3 (by omega)]; omega
      generalize x3 + (-1) = y3 at *
      exact hM_nextRow_41 _ _ _ _ _ (ih y3 (by omega) (by omega) h31 (by rw [← hI, eK]))
theorem lM_nr1 {d : Nat} {Φ : Po} {x1 : Int32} {n : Nat} {l : List Nat} {σ : Sg} (hn : n ≤ 5) (hl : l.length = n) (hr : RowIs l σ) (h0 : fI l (n - 1) = none → Φ (some (.int 0)) σ) (h1 : ∀ (p : Nat) (x2 : Int32), fI l (n - 1) = some p → x2.toInt = p → bM_nextRow_37 true NOB (wp true d) Φ (kM_nextRow d Φ) [.ref 120, .int x1, .int x2, .retAddr 0, .retAddr 0, .retAddr 0, .retAddr 0] [] σ) :
    ∀ (i : Nat) (x2 : Int32), i ≤ n - 1 → x2.toInt = (i : Int) - 1 → fI l i = fI l (n - 1) → bM_nextRow_4 true NOB (wp true d) Φ (kM_nextRow d Φ) [.ref 120, .int x1, .int x2, .retAddr 0, .retAddr 0, .retAddr 0, .retAddr 0] [] σ := by
  intro i
  induction i with
  | zero =>
    intro x2 hi h2 hI
    simp only [pI, pL, pR, pV, i10, ↓reduceIte, eM_nextRow_4]
    simp only [ilt, h2, tl0]
    rw [if_pos (by omega)]
    simp only [pI, pL, pR, pV, i10, ↓reduceIte, eM_nextRow_31]
    simp only [ile, h2, tl0]
    rw [if_neg (by omega)]
    exact h0 hI.symm
  | succ i ih =>
    intro x2 hi h2 hI
    have h2 : x2.toInt = (i : Int) := by omega
    have i2 : ix x2 = i := ix_of h2
    have h21 : (x2 + 1).toInt = ((i + 1 : Nat) : Int) := by rw [tq1 x2 (by omega), h2]; omega
    have i21 : ix (x2 + 1) = i + 1 := ix_of h21
    have r2 := hr i (by omega)
    have r3 := hr (i + 1) (by omega)
    have eI : fI l (i + 1) = if l.getD i 0 ≤ l.getD (i + 1) 0 then some i else fI l i := rfl
    simp only [pI, pL, pR, pV, i10, ↓reduceIte, eM_nextRow_4]
    simp only [ilt, h2, tl0]
    rw [if_neg (by omega), i2, i21]
    refine ⟨⟨by omega, by omega⟩, ⟨by omega, by omega⟩, ?_⟩
    simp only [ile, r2, r3]
    split
    next z =>
      rw [if_pos (by omega)] at eI
      simp only [pI, pL, pR, pV, i10, ↓reduceIte, eM_nextRow_31]
      simp only [ile, h2, tl0]
      rw [if_pos (by omega)]
      exact h1 i x2 (by rw [← hI, eI]) h2
    next z =>
      rw [if_neg (by omega)] at eI
      have h22 : (x2 + (-1)).toInt = (i : Int) - 1 := by rw [m1z h2 (by omega)]
      generalize x2 + (-1) = y2 at *
      exact hM_nextRow_4 _ _ _ _ _ (ih y2 (by omega) h22 (by rw [← hI, eI]))
theorem sM_nextRow {d : Nat} {Φ : Po} {x1 : Int32} {n : Nat} {l : List Nat} {σ : Sg} (h1n : 1 ≤ n) (hn : n ≤ 5) (hl : l.length = n) (hx : x1.toInt = n) (hr : RowIs l σ) (h0 : nextP l = none → Φ (some (.int 0)) σ) (h1 : ∀ (l' : List Nat) (σ' : Sg), nextP l = some l' → Fr [(132, 0, 5)] σ σ' → RowIs l' σ' → Φ (some (.int 1)) σ') : wp true (d + 1) nM_nextRow [.ref 120, .int x1] σ Φ := by
  have k2 : (2 : Int32).toInt = 2 := rfl
  have hm1 : (x1 - 1).toInt = ((n - 1 : Nat) : Int) := by rw [tM (by rw [hx, tl1]; omega), hx, tl1]; omega
  apply wM_nextRow
  simp only [pI, pL, pR, pV, i10, ↓reduceIte, eM_nextRow_0]
  refine lM_nr1 hn hl hr (fun q => h0 ?_) (fun p x2 hp h2 => ?_) (n - 1) _ (Nat.le_refl _) (by rw [tM (by rw [hx, k2]; omega), hx, k2]; omega) rfl
  · unfold nextP
    rw [hl, q]
  · have hpf := fI_f _ hp
    have eN : nextP l = some (rvv 5 (p + 1) (n - 1) (swp l p (fK l p (n - 1)))) := by
      unfold nextP
      rw [hl, hp]
    simp only [pI, pL, pR, pV, i10, ↓reduceIte, eM_nextRow_37]
    refine lM_nr2 hn hl hr h2 (by omega) hpf.2 (fun x3 h3 => ?_) (n - 1) _ (by omega) (by omega) hm1 rfl
    have hkf := fK_f hpf.2 (n - 1) (by omega)
    have i2 : ix x2 = p := ix_of h2
    have i3 : ix x3 = fK l p (n - 1) := ix_of h3
    have h21 : (x2 + 1).toInt = ((p + 1 : Nat) : Int) := by rw [tq1 x2 (by omega), h2]; omega
    simp only [pI, pL, pR, pV, i10, ↓reduceIte, eM_nextRow_62]
    rw [i2, i3]
    generalize hk : fK l p (n - 1) = k at *
    refine ⟨⟨by omega, by omega⟩, ⟨by omega, by omega⟩, ⟨by omega, by omega⟩, ⟨by omega, by omega⟩, ?_⟩
    exact lM_nr3 hn (fun σ' hF hR => h1 _ σ' eN hF hR) 5 (p + 1) (n - 1) (swp l p k) _ _ _ _ (by rw [swp_len]; exact hl) h21 hm1 (by omega) (by omega) (by omega) ((Fr.sI (inS_r (lo := 0) (hi := 5) (by simp) (by omega))).tr (Fr.sI (inS_r (lo := 0) (hi := 5) (by simp) (by omega)))) (RowIs_swp hr (by omega) (by omega)) rfl
theorem getD_mid {pre rs : List Nat} {r : Nat} : (pre ++ r :: rs).getD pre.length 0 = r := by
  rw [List.getD_eq_getElem?_getD, List.getElem?_append_right (Nat.le_refl _), Nat.sub_self]
  rfl
/-- members, what each costs -/
def MemIs (T : Nat → Int) (mem : List Nat) (σ : Sg) : Prop := ∀ r, r < mem.length → (gI σ 131 r).toInt = (mem.getD r 0 : Nat) ∧ mem.getD r 0 < 6 ∧ (gI σ 130 (mem.getD r 0)).toInt = T (mem.getD r 0)
theorem lM_added {d : Nat} {Φ : Po} {T : Nat → Int} {mem l : List Nat} {v : Nat} {x1 x2 : Int32} {σ : Sg} {R : Int} (hT : ∀ k, 0 ≤ T k ∧ T k ≤ 99) (h1 : x1.toInt = v) (h2 : x2.toInt = l.length) (hl5 : l.length ≤ 5) (hm5 : mem.length ≤ 5) (hr : RowIs l σ) (hM : MemIs T mem σ) (hlt : ∀ r, r ∈ l → r < mem.length) (h : ∀ r : Int32, r.toInt = R → Φ (some (.int r)) σ) :
    ∀ (suf pre : List Nat) (x3 x4 : Int32) (v5 : Value) (m : Int), l = pre ++ suf → x4.toInt = pre.length → x3.toInt = m → 0 ≤ m ∧ m ≤ 99 → addF T mem v suf m = R → bM_added_5 true NOB (wp true d) Φ (kM_added d Φ) [.ref 120, .int x1, .int x2, .int x3, .int x4, v5] [] σ := by
  intro suf
  induction suf with
  | nil =>
    intro pre x3 x4 v5 m hp h4 h3 hm hR
    rw [List.append_nil] at hp
    simp only [pI, pL, pR, pV, i10, ↓reduceIte, eM_added_5]
    simp only [ile, h2, h4, hp]
    rw [if_pos (by omega)]
    simp only [pI, pL, pR, pV, i10, ↓reduceIte, eM_added_85]
    exact h _ hR
  | cons r rs ih =>
    intro pre x3 x4 v5 m hp h4 h3 hm hR
    have hlen : l.length = pre.length + (rs.length + 1) := by rw [hp, List.length_append, List.length_cons]
    have i4 : ix x4 = pre.length := ix_of h4
    have h41 : (x4 + 1).toInt = (((pre ++ [r]).length : Nat) : Int) := by rw [tq1 x4 (by omega), h4, List.length_append, List.length_singleton]; omega
    have hr4 : (gI σ 132 pre.length).toInt = r := by
      rw [hr _ (by omega), hp, getD_mid]
    have hrm : r < mem.length := hlt r (by rw [hp]; exact List.mem_append_right _ List.mem_cons_self)
    have ir : ix (gI σ 132 pre.length) = r := ix_of hr4
    obtain ⟨m1, m2, m3⟩ := hM r hrm
    have im : ix (gI σ 131 r) = mem.getD r 0 := ix_of m1
    have hTm := hT (mem.getD r 0)
    have hTv := hT v
    have eA : addF T mem v (r :: rs) m = if mem.getD r 0 = v then (if T v ≤ m then 0 else T v - m) else addF T mem v rs (if T (mem.getD r 0) ≤ m then m else T (mem.getD r 0)) := rfl
    have c1 : (gI σ 131 r = x1) = (mem.getD r 0 = v) := by
      simp only [ieq, m1, h1]
      exact propext (by omega)
    rw [eA] at hR
    simp only [pI, pL, pR, pV, i10, ↓reduceIte, eM_added_5]
    simp only [ile, h2, h4]
    rw [if_neg (by omega), i4, ir]
    refine ⟨⟨by omega, by omega⟩, ⟨by omega, by omega⟩, ?_⟩
    simp only [c1]
    rw [im]
    split
    next z =>
      rw [if_pos z] at hR
      rw [z] at m3
      rw [z]
      simp only [ile, m3, h3]
      refine ⟨⟨by omega, by omega⟩, ?_⟩
      split
      next y =>
        rw [if_pos y] at hR
        simp only [pI, pL, pR, pV, i10, ↓reduceIte, eM_added_54, eM_added_55]
        exact h _ hR
      next y =>
        rw [if_neg y] at hR
        simp only [pI, pL, pR, pV, i10, ↓reduceIte, eM_added_55]
        exact ⟨⟨by omega, by omega⟩, h _ (by rw [tM (by rw [m3, h3]; omega), m3, h3]; exact hR)⟩
    next z =>
      rw [if_neg z] at hR
      simp only [pI, pL, pR, pV, i10, ↓reduceIte, eM_added_56]
      rw [im]
      simp only [ile, m3, h3]
      refine ⟨⟨by omega, by omega⟩, ?_⟩
      split
      next y =>
        rw [if_pos y] at hR
        simp only [pI, pL, pR, pV, i10, ↓reduceIte, eM_added_77, eM_added_78]
        exact hM_added_5 _ _ _ _ _ (ih (pre ++ [r]) _ _ _ m (by rw [hp, List.append_assoc]; rfl) h41 h3 hm hR)
      next y =>
        rw [if_neg y] at hR
        simp only [pI, pL, pR, pV, i10, ↓reduceIte, eM_added_78]
        exact ⟨⟨by omega, by omega⟩, hM_added_5 _ _ _ _ _ (ih (pre ++ [r]) _ _ _ _ (by rw [hp, List.append_assoc]; rfl) h41 m3 (by omega) hR)⟩
theorem sM_added {d : Nat} {Φ : Po} {T : Nat → Int} {mem l : List Nat} {v : Nat} {x1 x2 : Int32} {σ : Sg} (hT : ∀ k, 0 ≤ T k ∧ T k ≤ 99) (h1 : x1.toInt = v) (h2 : x2.toInt = l.length) (hl5 : l.length ≤ 5) (hm5 : mem.length ≤ 5) (hr : RowIs l σ) (hM : MemIs T mem σ) (hlt : ∀ r, r ∈ l → r < mem.length) (hex : ∃ r, r ∈ l ∧ mem.getD r 0 = v) (h : ∀ r : Int32, r.toInt = (gA T v (amask mem v l) : Nat) → Φ (some (.int r)) σ) : wp true (d + 1) nM_added [.ref 120, .int x1, .int x2] σ Φ := by
  apply wM_added
  simp only [pI, pL, pR, pV, i10, ↓reduceIte, eM_added_0]
  refine lM_added hT h1 h2 hl5 hm5 hr hM hlt (R := (gA T v (amask mem v l) : Nat)) h l [] 0 0 _ 0 rfl rfl rfl (by omega) ?_
  rw [addF_g l 0 (Int.le_refl _) (fun r hq => (hM r (hlt r hq)).2.1) hex]
  have := mst_r (a := amask mem v l) hT 6
  unfold gA
  omega
