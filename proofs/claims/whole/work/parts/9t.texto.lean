/-! TEXTS: clauses, a whole text; what holds of what was read -/
theorem lawF_done {L l F : Nat} {B : Nat → Int} (hT : Tp L B) : ∀ (k i : Nat) (st : List Int) (cd : List (Int × Int)) (fl : Int), i ≤ L → Iv l F i st cd fl → (lawF L B l k i st cd fl).1 = 0 → LwDone l F (lawF L B l k i st cd fl).2.2.1 (lawF L B l k i st cd fl).2.2.2 ∧ (lawF L B l k i st cd fl).2.2.1 ≤ L ∧ i < (lawF L B l k i st cd fl).2.2.1 := by
  intro k
  induction k with
  | zero =>
    intro i st cd fl hi hI h
    exact absurd h (show ¬ (1 : Int) = 0 by decide)
  | succ k ih =>
    intro i st cd fl hi hI h
    have eL : lawF L B l (k + 1) i st cd fl = if (stF l (tokO L B i) (tokN L B i) fl st).1 ≠ 0 then ((stF l (tokO L B i) (tokN L B i) fl st).1, tokP L B i, 0, []) else if (stF l (tokO L B i) (tokN L B i) fl st).2.2.2 = 2 then (0, 0, tokE L B i, cd ++ (stF l (tokO L B i) (tokN L B i) fl st).2.2.1) else lawF L B l k (tokE L B i) (stF l (tokO L B i) (tokN L B i) fl st).2.1 (cd ++ (stF l (tokO L B i) (tokN L B i) fl st).2.2.1) (stF l (tokO L B i) (tokN L B i) fl st).2.2.2 := rfl
    rw [eL] at h ⊢
    by_cases c : (stF l (tokO L B i) (tokN L B i) fl st).1 ≠ 0
    · rw [if_pos c] at h
      exact absurd h c
    · rw [if_neg c] at h ⊢
      have c : (stF l (tokO L B i) (tokN L B i) fl st).1 = 0 := by omega
      have o40 : tokO L B i ≠ 40 := fun z => by
        rw [z] at c
        exact stF_40 c
      obtain ⟨e1, e2⟩ := tok_go hT hi o40
      have key : ((stF l (tokO L B i) (tokN L B i) fl st).2.2.2 ≠ 2 → Iv l F (tokE L B i) (stF l (tokO L B i) (tokN L B i) fl st).2.1 (cd ++ (stF l (tokO L B i) (tokN L B i) fl st).2.2.1) (stF l (tokO L B i) (tokN L B i) fl st).2.2.2) ∧ ((stF l (tokO L B i) (tokN L B i) fl st).2.2.2 = 2 → LwDone l F (tokE L B i) (cd ++ (stF l (tokO L B i) (tokN L B i) fl st).2.2.1)) := by
        rcases hI.2.2.1 with hfl | ⟨hfl, -⟩
        · subst hfl
          have eS : stF l (tokO L B i) (tokN L B i) 0 st = oneF l (tokO L B i) (tokN L B i) st := if_pos rfl
          rw [eS] at c ⊢
          have hIv := Iv_one hI e1 tokN_0.1 c
          have hfl2 : (oneF l (tokO L B i) (tokN L B i) st).2.2.2 = 0 ∨ (oneF l (tokO L B i) (tokN L B i) st).2.2.2 = 1 := hIv.2.2.1.imp id (fun z => z.1)
          exact ⟨fun _ => hIv, fun z => by omega⟩
        · subst hfl
          have eS : stF l (tokO L B i) (tokN L B i) 1 st = bhF l (tokO L B i) st := if_neg (by decide)
          rw [eS] at c ⊢
          exact Iv_bh hI e1 c
      by_cases c2 : (stF l (tokO L B i) (tokN L B i) fl st).2.2.2 = 2
      · rw [if_pos c2] at h ⊢
        exact ⟨key.2 c2, e2, e1⟩
      · rw [if_neg c2] at h ⊢
        obtain ⟨q1, q2, q3⟩ := ih _ _ _ _ e2 (key.1 c2) h
        exact ⟨q1, q2, by omega⟩
theorem Iv_start {l F i : Nat} (h : F ≤ i) : Iv l F i [] [] 0 := ⟨trivial, by decide, Or.inl rfl, h, ⟨rfl, rfl⟩⟩
def Mn (e L : Nat) (r : Tr) : Prop := r.1 = 0 → e ≤ r.2.2 ∧ r.2.2 ≤ L
theorem wrdT_m {e L w : Nat} {B : Nat → Int} {r : Tr} (hT : Tp L B) (h : Mn e L r) : Mn e L (wrdT L B w r) := fun q => by
  obtain ⟨h1, -, h3⟩ := wrdT_0 q
  obtain ⟨h4, h5⟩ := h h1
  rw [h3]
  show e ≤ tokE L B r.2.2 ∧ tokE L B r.2.2 ≤ L
  have := tokE_b hT h5
  have := tokP_b (B := B) h5
  omega
theorem numT_m {e L : Nat} {lo hi : Int} {B : Nat → Int} {r : Tr} (hT : Tp L B) (h : Mn e L r) : Mn e L (numT L B lo hi r) := fun q => by
  obtain ⟨h1, -, -, h3⟩ := numT_0 q
  obtain ⟨h4, h5⟩ := h h1
  rw [h3]
  show e ≤ tokE L B r.2.2 ∧ tokE L B r.2.2 ≤ L
  have := tokE_b hT h5
  have := tokP_b (B := B) h5
  omega
theorem deedF_m {L o e : Nat} {B : Nat → Int} (hT : Tp L B) (he : e ≤ L) : Mn e L (deedF L B o e).1 := by
  have m0 : Mn e L (0, 0, e) := fun _ => ⟨Nat.le_refl e, he⟩
  unfold deedF
  split
  · exact wrdT_m hT (numT_m hT (wrdT_m hT (numT_m hT (wrdT_m hT (numT_m hT m0)))))
  split
  · exact wrdT_m hT (numT_m hT (wrdT_m hT (numT_m hT m0)))
  split
  · exact wrdT_m hT (numT_m hT m0)
  split
  · exact wrdT_m hT (numT_m hT (wrdT_m hT (numT_m hT (wrdT_m hT (numT_m hT m0)))))
  split
  · exact wrdT_m hT (numT_m hT (wrdT_m hT (numT_m hT (wrdT_m hT (numT_m hT m0)))))
  · exact wrdT_m hT (numT_m hT (wrdT_m hT (numT_m hT m0)))
theorem deedF_day {L e : Nat} {B : Nat → Int} (h : (deedF L B 10 e).1.1 = 0) : 1 ≤ (deedF L B 10 e).2.1 ∧ (deedF L B 10 e).2.1 ≤ 60 := by
  have h : (wrdT L B 38 (numT L B 1 60 (0, 0, e))).1 = 0 := h
  exact (numT_0 (wrdT_0 h).1).2.2.1
noncomputable def bcF (T : TT) (o : Nat) : Int := if 10 < o then 1 else if o < 5 ∧ (T.2.2.2 o).isSome = true then 4 else if T.1 = 24 then 6 else 0
noncomputable def clF (L : Nat) (B : Nat → Int) (i : Nat) (T : TT) : Tr × TT :=
  if bcF T (tokO L B i) ≠ 0 then ((bcF T (tokO L B i), tokP L B i, 0), T) else
  if tokO L B i < 5 then (if (lawF L B (tokO L B i) 302 (tokE L B i) [] [] 0).1 ≠ 0 then (((lawF L B (tokO L B i) 302 (tokE L B i) [] [] 0).1, (lawF L B (tokO L B i) 302 (tokE L B i) [] [] 0).2.1, 0), T) else ((0, 0, (lawF L B (tokO L B i) 302 (tokE L B i) [] [] 0).2.2.1), addL T (tokO L B i) (lawF L B (tokO L B i) 302 (tokE L B i) [] [] 0).2.2.2)) else
  (if (deedF L B (tokO L B i) (tokE L B i)).1.1 ≠ 0 then ((deedF L B (tokO L B i) (tokE L B i)).1, T) else ((deedF L B (tokO L B i) (tokE L B i)).1, addD T ((tokO L B i : Nat), (deedF L B (tokO L B i) (tokE L B i)).2)))
noncomputable def txF (L : Nat) (B : Nat → Int) : Nat → Nat → TT → Tr × TT
  | 0, _, T => ((1, 0, 0), T)
  | k + 1, i, T => if tokO L B i = 40 then ((0, 0, i), T) else if (clF L B i T).1.1 ≠ 0 then clF L B i T else txF L B k (clF L B i T).1.2.2 (clF L B i T).2
/-- what holds of what was read -/
def PInv (i : Nat) (T : TT) : Prop := T.1 ≤ 24 ∧ T.2.2.1.length ≤ i ∧ (∀ l f ops, l < 5 → T.2.2.2 l = some (f, ops) → (∃ p1 p2, T.2.2.1 = p1 ++ (ops ++ p2) ∧ p1.length = f) ∧ Wf l ops 0 0 (if l = 0 then 0 else 1) (if l = 0 then 1 else 0) ∧ ∃ k, k < T.1 ∧ T.2.1 k = (((l : Nat) : Int), ((f : Nat) : Int), ((f + ops.length : Nat) : Int), 0) ∧ ∀ j, j < k → (T.2.1 j).1 ≠ l) ∧ (∀ l : Nat, l < 5 → T.2.2.2 l = none → ∀ k, k < T.1 → (T.2.1 k).1 ≠ l) ∧ ∀ k, k < T.1 → (0 ≤ (T.2.1 k).1 ∧ (T.2.1 k).1 ≤ 10) ∧ ((T.2.1 k).1 = 10 → 0 ≤ (T.2.1 k).2.1 ∧ (T.2.1 k).2.1 ≤ 60)
theorem PInv_D {i e o : Nat} {T : TT} {x : Int × Int × Int} (h : PInv i T) (hn : T.1 < 24) (ho : 5 ≤ o ∧ o ≤ 10) (hd : o = 10 → 0 ≤ x.1 ∧ x.1 ≤ 60) (he : i ≤ e) : PInv e (addD T ((o : Nat), x)) := by
  obtain ⟨h1, h2, h3, h4, h5⟩ := h
  have e1 : ∀ k, k < T.1 → (addD T ((o : Nat), x)).2.1 k = T.2.1 k := fun k hk => if_neg (by omega)
  have e2 : (addD T ((o : Nat), x)).2.1 T.1 = (((o : Nat) : Int), x) := if_pos rfl
  refine ⟨hn, Nat.le_trans h2 he, fun l f ops hl q => ?_, fun l hl q k hk => ?_, fun k hk => ?_⟩
  · obtain ⟨a, b, k, hk, c1, c2⟩ := h3 l f ops hl q
    refine ⟨a, b, k, Nat.lt_succ_of_lt hk, (e1 k hk).trans c1, fun j hj => ?_⟩
    rw [e1 j (by omega)]
    exact c2 j hj
  · have hk : k < T.1 + 1 := hk
    by_cases z : k = T.1
    · subst z
      rw [e2]
      show ((o : Nat) : Int) ≠ l
      omega
    · rw [e1 k (by omega)]
      exact h4 l hl q k (by omega)
  · have hk : k < T.1 + 1 := hk
    by_cases z : k = T.1
    · subst z
      rw [e2]
      exact ⟨⟨show (0 : Int) ≤ ((o : Nat) : Int) by omega, show ((o : Nat) : Int) ≤ 10 by omega⟩, fun q => hd (by have q : ((o : Nat) : Int) = 10 := q; omega)⟩
    · rw [e1 k (by omega)]
      exact h5 k (by omega)
theorem PInv_L {i e l : Nat} {T : TT} {ops : List (Int × Int)} (h : PInv i T) (hn : T.1 < 24) (hl : l < 5) (h0 : T.2.2.2 l = none) (hd : LwDone l T.2.2.1.length e ops) (he : i ≤ e) : PInv e (addL T l ops) := by
  obtain ⟨h1, h2, h3, h4, h5⟩ := h
  have e1 : ∀ k, k < T.1 → (addL T l ops).2.1 k = T.2.1 k := fun k hk => if_neg (by omega)
  have e2 : (addL T l ops).2.1 T.1 = (((l : Nat) : Int), (T.2.2.1.length : Int), ((T.2.2.1.length + ops.length : Nat) : Int), 0) := if_pos rfl
  have e3 : ∀ j, j ≠ l → (addL T l ops).2.2.2 j = T.2.2.2 j := fun j hj => if_neg hj
  have e4 : (addL T l ops).2.2.2 l = some (T.2.2.1.length, ops) := if_pos rfl
  refine ⟨hn, ?_, fun j f os hj q => ?_, fun j hj q k hk => ?_, fun k hk => ?_⟩
  · show (T.2.2.1 ++ ops).length ≤ e
    rw [List.length_append]
    exact hd.2
  · by_cases z : j = l
    · subst z
      rw [e4] at q
      have q := Option.some.inj q
      have q1 : T.2.2.1.length = f := congrArg Prod.fst q
      have q2 : ops = os := congrArg Prod.snd q
      subst q1 q2
      refine ⟨⟨T.2.2.1, [], by rw [List.append_nil]; rfl, rfl⟩, hd.1, T.1, Nat.lt_succ_self _, e2, fun k hk => ?_⟩
      rw [e1 k hk]
      exact h4 j hj h0 k hk
    · rw [e3 j z] at q
      obtain ⟨⟨p1, p2, a1, a2⟩, b, k, hk, c1, c2⟩ := h3 j f os hj q
      refine ⟨⟨p1, p2 ++ ops, ?_, a2⟩, b, k, Nat.lt_succ_of_lt hk, (e1 k hk).trans c1, fun m hm => ?_⟩
      · show T.2.2.1 ++ ops = _
        rw [a1, List.append_assoc, List.append_assoc]
      · rw [e1 m (by omega)]
        exact c2 m hm
  · have hk : k < T.1 + 1 := hk
    by_cases z : j = l
    · subst z
      rw [e4] at q
      cases q
    · rw [e3 j z] at q
      by_cases y : k = T.1
      · subst y
        rw [e2]
        show ((l : Nat) : Int) ≠ j
        omega
      · rw [e1 k (by omega)]
        exact h4 j hj q k (by omega)
  · have hk : k < T.1 + 1 := hk
    by_cases z : k = T.1
    · subst z
      rw [e2]
      exact ⟨⟨show (0 : Int) ≤ ((l : Nat) : Int) by omega, show ((l : Nat) : Int) ≤ 10 by omega⟩, fun q => by have q : ((l : Nat) : Int) = 10 := q; omega⟩
    · rw [e1 k (by omega)]
      exact h5 k (by omega)
theorem bcF_0 {T : TT} {o : Nat} (h : bcF T o = 0) (h24 : T.1 ≤ 24) : o ≤ 10 ∧ (o < 5 → T.2.2.2 o = none) ∧ T.1 < 24 := by
  unfold bcF at h
  by_cases c1 : 10 < o
  · rw [if_pos c1] at h
    cases h
  rw [if_neg c1] at h
  by_cases c2 : o < 5 ∧ (T.2.2.2 o).isSome = true
  · rw [if_pos c2] at h
    cases h
  rw [if_neg c2] at h
  by_cases c3 : T.1 = 24
  · rw [if_pos c3] at h
    cases h
  · refine ⟨by omega, fun q => ?_, by omega⟩
    cases hz : T.2.2.2 o with
    | none => rfl
    | some y => exact absurd ⟨q, by rw [hz]; rfl⟩ c2
theorem PInv_cl {L i : Nat} {B : Nat → Int} {T : TT} (hT : Tp L B) (hi : i ≤ L) (h40 : tokO L B i ≠ 40) (h : PInv i T) (h0 : (clF L B i T).1.1 = 0) : PInv (clF L B i T).1.2.2 (clF L B i T).2 ∧ i < (clF L B i T).1.2.2 ∧ (clF L B i T).1.2.2 ≤ L := by
  obtain ⟨e1, e2⟩ := tok_go hT hi h40
  unfold clF at h0 ⊢
  by_cases c1 : bcF T (tokO L B i) ≠ 0
  · rw [if_pos c1] at h0
    exact absurd h0 c1
  rw [if_neg c1] at h0 ⊢
  have c1 : bcF T (tokO L B i) = 0 := by omega
  obtain ⟨b1, b2, b3⟩ := bcF_0 c1 h.1
  by_cases c2 : tokO L B i < 5
  · rw [if_pos c2] at h0 ⊢
    by_cases c3 : (lawF L B (tokO L B i) 302 (tokE L B i) [] [] 0).1 ≠ 0
    · rw [if_pos c3] at h0
      exact absurd h0 c3
    · rw [if_neg c3]
      have hp := h.2.1
      have c3 : (lawF L B (tokO L B i) 302 (tokE L B i) [] [] 0).1 = 0 := by omega
      obtain ⟨d1, d2, d3⟩ := lawF_done (F := T.2.2.1.length) hT 302 (tokE L B i) [] [] 0 e2 (Iv_start (by omega)) c3
      have d4 : i < (lawF L B (tokO L B i) 302 (tokE L B i) [] [] 0).2.2.1 := by omega
      exact ⟨PInv_L h b3 c2 (b2 c2) d1 (Nat.le_of_lt d4), d4, d2⟩
  · rw [if_neg c2] at h0 ⊢
    by_cases c3 : (deedF L B (tokO L B i) (tokE L B i)).1.1 ≠ 0
    · rw [if_pos c3] at h0
      exact absurd h0 c3
    · rw [if_neg c3]
      have d := deedF_m (o := tokO L B i) hT e2 (by omega)
      have d4 : i < (deedF L B (tokO L B i) (tokE L B i)).1.2.2 := by omega
      refine ⟨PInv_D h b3 (by omega) (fun q => ?_) (Nat.le_of_lt d4), d4, d.2⟩
      have := deedF_day (L := L) (B := B) (e := tokE L B i) (by rw [← q]; omega)
      rw [q]
      omega
