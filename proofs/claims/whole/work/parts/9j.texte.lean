/-! TEXTS: what a law's code is -/
theorem Wf_app {l : Nat} : ∀ (ops : List (Int × Int)) (a b a1 b1 : Nat) (ops2 : List (Int × Int)) (a2 b2 : Nat), Wf l ops a b a1 b1 → Wf l ops2 a1 b1 a2 b2 → Wf l (ops ++ ops2) a b a2 b2
  | [], a, b, a1, b1, ops2, a2, b2, h, g => by
    obtain ⟨rfl, rfl⟩ := h
    exact g
  | (o, v) :: r, a, b, a1, b1, ops2, a2, b2, h, g => by
    rcases h with ⟨h1, h2, h3, h4, h⟩ | ⟨h1, h2, h3, h4, h5, h⟩ | ⟨h1, h2, h⟩ | ⟨h1, h2, h3, h⟩ | ⟨h1, h2, h3, h⟩ | ⟨h1, h2, h3, h⟩ | ⟨h1, h2, h3, h⟩
    · exact Or.inl ⟨h1, h2, h3, h4, Wf_app r _ _ _ _ _ _ _ h g⟩
    · exact Or.inr (Or.inl ⟨h1, h2, h3, h4, h5, Wf_app r _ _ _ _ _ _ _ h g⟩)
    · exact Or.inr (Or.inr (Or.inl ⟨h1, h2, Wf_app r _ _ _ _ _ _ _ h g⟩))
    · exact Or.inr (Or.inr (Or.inr (Or.inl ⟨h1, h2, h3, Wf_app r _ _ _ _ _ _ _ h g⟩)))
    · exact Or.inr (Or.inr (Or.inr (Or.inr (Or.inl ⟨h1, h2, h3, Wf_app r _ _ _ _ _ _ _ h g⟩))))
    · exact Or.inr (Or.inr (Or.inr (Or.inr (Or.inr (Or.inl ⟨h1, h2, h3, Wf_app r _ _ _ _ _ _ _ h g⟩)))))
    · exact Or.inr (Or.inr (Or.inr (Or.inr (Or.inr (Or.inr ⟨h1, h2, h3, Wf_app r _ _ _ _ _ _ _ h g⟩)))))
theorem Sv_mem {l : Nat} {o : Int} : ∀ st, Sv l st → o ∈ st → (2 ≤ o ∧ o ≤ 8) ∨ (10 ≤ o ∧ o ≤ 15) ∨ (20 ≤ o ∧ o ≤ 22) ∨ o = 40 ∨ o = 41
  | [], _, h => by cases h
  | x :: r, ⟨h1, h2⟩, h => by
    rcases List.mem_cons.mp h with rfl | z
    · unfold Okp at h1
      omega
    · exact Sv_mem r h2 z
theorem Okp_u {l : Nat} {x t : Int} (h : x = 2 ∨ x = 3 ∨ x = 8 ∨ x = 40 ∨ x = 41) : Okp l x t := Or.inl h
theorem Okp_cm {l : Nat} {x t : Int} (hx : 10 ≤ x ∧ x ≤ 15) (hl : l = 0) (ht : t = -1 ∨ (20 ≤ t ∧ t ≤ 22)) : Okp l x t := Or.inr (Or.inr (Or.inr (Or.inl ⟨hx, hl, ht⟩)))
theorem Okp_no {l : Nat} {x t : Int} (hx : x = 20) (hl : l = 0) (ht : t = -1 ∨ (20 ≤ t ∧ t ≤ 22)) : Okp l x t := Or.inr (Or.inr (Or.inr (Or.inr (Or.inl ⟨hx, hl, ht⟩))))
theorem Okp_ao {l : Nat} {x t : Int} (hx : x = 21 ∨ x = 22) (hl : l = 0) (ht : t = -1 ∨ (20 ≤ t ∧ t ≤ 22)) (hn : t = -1 ∨ rk t < rk x) : Okp l x t := by
  have k20 : rk 20 = 3 := by decide
  have k21 : rk 21 = 2 := by decide
  have k22 : rk 22 = 1 := by decide
  have h3 : t = -1 ∨ t = 20 ∨ t = 21 ∨ t = 22 := by omega
  rcases hx with rfl | rfl
  · refine Or.inr (Or.inr (Or.inr (Or.inr (Or.inr (Or.inl ⟨rfl, hl, ?_⟩)))))
    rcases h3 with h | h | h | h
    · exact Or.inl h
    · subst h; omega
    · subst h; omega
    · exact Or.inr h
  · refine Or.inr (Or.inr (Or.inr (Or.inr (Or.inr (Or.inr ⟨rfl, hl, ?_⟩)))))
    rcases h3 with h | h | h | h
    · exact h
    · subst h; omega
    · subst h; omega
    · subst h; omega
theorem Okp_bin {l : Nat} {x t : Int} (hx : 4 ≤ x ∧ x ≤ 7) (hm : t = -1 ∨ ((2 ≤ t ∧ t ≤ 8) ∨ (10 ≤ t ∧ t ≤ 15) ∨ (20 ≤ t ∧ t ≤ 22) ∨ t = 40 ∨ t = 41)) (h41 : t ≠ 41) (hn : t = -1 ∨ rk t < rk x) : Okp l x t := by
  have k : rk 2 = 7 ∧ rk 3 = 7 ∧ rk 4 = 5 ∧ rk 5 = 5 ∧ rk 6 = 6 ∧ rk 7 = 6 ∧ rk 8 = 7 := by decide
  obtain ⟨k2, k3, k4, k5, k6, k7, k8⟩ := k
  have hx4 : x = 4 ∨ x = 5 ∨ x = 6 ∨ x = 7 := by omega
  rcases hm with h | ⟨h1, h2⟩ | h | h | h | h
  · rcases hx4 with e | e | e | e
    · exact Or.inr (Or.inl ⟨Or.inl e, Or.inl h⟩)
    · exact Or.inr (Or.inl ⟨Or.inr e, Or.inl h⟩)
    · exact Or.inr (Or.inr (Or.inl ⟨Or.inl e, Or.inl h⟩))
    · exact Or.inr (Or.inr (Or.inl ⟨Or.inr e, Or.inl h⟩))
  · have ht : t = 2 ∨ t = 3 ∨ t = 4 ∨ t = 5 ∨ t = 6 ∨ t = 7 ∨ t = 8 := by omega
    rcases ht with rfl | rfl | rfl | rfl | rfl | rfl | rfl <;> rcases hx4 with rfl | rfl | rfl | rfl
    all_goals first
      | omega
      | exact Or.inr (Or.inr (Or.inl ⟨Or.inl rfl, Or.inr (Or.inr (Or.inl rfl))⟩))
      | exact Or.inr (Or.inr (Or.inl ⟨Or.inr rfl, Or.inr (Or.inr (Or.inl rfl))⟩))
      | exact Or.inr (Or.inr (Or.inl ⟨Or.inl rfl, Or.inr (Or.inr (Or.inr (Or.inl rfl)))⟩))
      | exact Or.inr (Or.inr (Or.inl ⟨Or.inr rfl, Or.inr (Or.inr (Or.inr (Or.inl rfl)))⟩))
  · rcases hx4 with e | e | e | e
    · exact Or.inr (Or.inl ⟨Or.inl e, Or.inr (Or.inr (Or.inl h))⟩)
    · exact Or.inr (Or.inl ⟨Or.inr e, Or.inr (Or.inr (Or.inl h))⟩)
    · exact Or.inr (Or.inr (Or.inl ⟨Or.inl e, Or.inr (Or.inr (Or.inr (Or.inr (Or.inl h))))⟩))
    · exact Or.inr (Or.inr (Or.inl ⟨Or.inr e, Or.inr (Or.inr (Or.inr (Or.inr (Or.inl h))))⟩))
  · rcases hx4 with e | e | e | e
    · exact Or.inr (Or.inl ⟨Or.inl e, Or.inr (Or.inr (Or.inr h))⟩)
    · exact Or.inr (Or.inl ⟨Or.inr e, Or.inr (Or.inr (Or.inr h))⟩)
    · exact Or.inr (Or.inr (Or.inl ⟨Or.inl e, Or.inr (Or.inr (Or.inr (Or.inr (Or.inr h))))⟩))
    · exact Or.inr (Or.inr (Or.inl ⟨Or.inr e, Or.inr (Or.inr (Or.inr (Or.inr (Or.inr h))))⟩))
  · rcases hx4 with e | e | e | e
    · exact Or.inr (Or.inl ⟨Or.inl e, Or.inr (Or.inl h)⟩)
    · exact Or.inr (Or.inl ⟨Or.inr e, Or.inr (Or.inl h)⟩)
    · exact Or.inr (Or.inr (Or.inl ⟨Or.inl e, Or.inr (Or.inl h)⟩))
    · exact Or.inr (Or.inr (Or.inl ⟨Or.inr e, Or.inr (Or.inl h)⟩))
  · exact absurd h h41
theorem Okp_2 {l : Nat} {o x : Int} (h : Okp l o x) : 2 ≤ o := by
  rcases h with h | ⟨h, -⟩ | ⟨h, -⟩ | ⟨h, -⟩ | ⟨h, -⟩ | ⟨h, -⟩ | ⟨h, -⟩ <;> omega
theorem Okp_x {l : Nat} {o x : Int} (h : Okp l o x) : (10 ≤ o ∧ o ≤ 22 → x = -1 ∨ (20 ≤ x ∧ x ≤ 22)) ∧ (10 ≤ o ∧ o ≤ 22 → l = 0) := by
  rcases h with h | ⟨h, -⟩ | ⟨h, -⟩ | ⟨h, hl, hx⟩ | ⟨h, hl, hx⟩ | ⟨h, hl, hx⟩ | ⟨h, hl, hx⟩
  · exact ⟨fun q => by omega, fun q => by omega⟩
  · exact ⟨fun q => by omega, fun q => by omega⟩
  · exact ⟨fun q => by omega, fun q => by omega⟩
  · exact ⟨fun _ => hx, fun _ => hl⟩
  · exact ⟨fun _ => hx, fun _ => hl⟩
  · exact ⟨fun _ => hx.imp id (fun q => by omega), fun _ => hl⟩
  · exact ⟨fun _ => Or.inl hx, fun _ => hl⟩
theorem wf_A {l : Nat} {k : Int} (hk : 5 ≤ k) : ∀ st, Sv l st → Wf l (setl k st).2 (vals st + 1) (trus st) (vals (setl k st).1 + 1) (trus (setl k st).1)
  | [], _ => ⟨rfl, rfl⟩
  | o :: r, h => by
    have ih := wf_A hk r h.2
    have hm := Sv_mem (o :: r) h List.mem_cons_self
    obtain ⟨r1, r2, r3, r4, r5, r6, r7, r8⟩ := rk_t (o := o)
    have e : setl k (o :: r) = if k ≤ rk o then ((setl k r).1, (o, 0) :: (setl k r).2) else (o :: r, []) := rfl
    have ev : vals (o :: r) = vals r + (if (4 ≤ o ∧ o ≤ 8) ∨ (10 ≤ o ∧ o ≤ 15) then 1 else 0) := rfl
    have et : trus (o :: r) = trus r + (if o = 21 ∨ o = 22 then 1 else 0) := rfl
    rw [e]
    by_cases q : k ≤ rk o
    · rw [if_pos q, ev, et, if_neg (by omega : ¬ (o = 21 ∨ o = 22))]
      by_cases z : 4 ≤ o
      · rw [if_pos (by omega)]
        refine Or.inr (Or.inr (Or.inr (Or.inl ⟨z, by omega, by omega, ?_⟩)))
        rw [show vals r + 1 + 1 - 1 = vals r + 1 from by omega]
        exact ih
      · rw [if_neg (by omega)]
        exact Or.inr (Or.inr (Or.inl ⟨by omega, by omega, ih⟩))
    · rw [if_neg q]
      exact ⟨rfl, rfl⟩
theorem asks_of {l : Nat} : ∀ st, Sv l st → (tp st = -1 ∨ (20 ≤ tp st ∧ tp st ≤ 22)) → ∀ o, o ∈ st → 20 ≤ o ∧ o ≤ 22
  | [], _, _, o, h => by cases h
  | x :: r, ⟨h1, h2⟩, ht, o, h => by
    rw [tp_cons] at ht
    have h3 := Okp_2 h1
    have h4 : 20 ≤ x ∧ x ≤ 22 := by omega
    rcases List.mem_cons.mp h with rfl | z
    · exact h4
    · exact asks_of r h2 ((Okp_x h1).1 (by omega)) o z
theorem vals_as : ∀ st : List Int, (∀ o, o ∈ st → 20 ≤ o ∧ o ≤ 22) → vals st = 0
  | [], _ => rfl
  | o :: r, h => by
    have h1 := h o List.mem_cons_self
    show vals r + (if (4 ≤ o ∧ o ≤ 8) ∨ (10 ≤ o ∧ o ≤ 15) then 1 else 0) = 0
    rw [if_neg (by omega), vals_as r (fun x hx => h x (List.mem_cons_of_mem _ hx))]
theorem wf_T {l : Nat} {k : Int} : ∀ st : List Int, (∀ o, o ∈ st → 20 ≤ o ∧ o ≤ 22) → Wf l (setl k st).2 0 (trus st + 1) 0 (trus (setl k st).1 + 1)
  | [], _ => ⟨rfl, rfl⟩
  | o :: r, h => by
    have h1 := h o List.mem_cons_self
    have ih := wf_T (l := l) (k := k) r (fun x hx => h x (List.mem_cons_of_mem _ hx))
    have e : setl k (o :: r) = if k ≤ rk o then ((setl k r).1, (o, 0) :: (setl k r).2) else (o :: r, []) := rfl
    have et : trus (o :: r) = trus r + (if o = 21 ∨ o = 22 then 1 else 0) := rfl
    rw [e]
    by_cases q : k ≤ rk o
    · rw [if_pos q, et]
      by_cases z : o = 20
      · rw [if_neg (by omega)]
        exact Or.inr (Or.inr (Or.inr (Or.inr (Or.inr (Or.inl ⟨z, rfl, by omega, ih⟩)))))
      · rw [if_pos (by omega)]
        refine Or.inr (Or.inr (Or.inr (Or.inr (Or.inr (Or.inr ⟨by omega, rfl, by omega, ?_⟩)))))
        rw [show trus r + 1 + 1 - 1 = trus r + 1 from by omega]
        exact ih
    · rw [if_neg q]
      exact ⟨rfl, rfl⟩
theorem wf_C {l : Nat} {k : Int} (hk : k ≤ 4) {st : List Int} (h : Sv l st) (ht : 10 ≤ tp st ∧ tp st ≤ 15) : Wf l (setl k st).2 (vals st + 1) (trus st) 0 (trus (setl k st).1 + 1) ∧ (∀ o, o ∈ (setl k st).1 → 20 ≤ o ∧ o ≤ 22) := by
  cases st with
  | nil =>
    rw [tp_nil] at ht
    omega
  | cons o r =>
    rw [tp_cons] at ht
    obtain ⟨h1, h2⟩ := h
    obtain ⟨r1, r2, r3, r4, r5, r6, r7, r8⟩ := rk_t (o := o)
    have has := asks_of r h2 ((Okp_x h1).1 (by omega))
    have e : setl k (o :: r) = if k ≤ rk o then ((setl k r).1, (o, 0) :: (setl k r).2) else (o :: r, []) := rfl
    have ev : vals (o :: r) = vals r + (if (4 ≤ o ∧ o ≤ 8) ∨ (10 ≤ o ∧ o ≤ 15) then 1 else 0) := rfl
    have et : trus (o :: r) = trus r + (if o = 21 ∨ o = 22 then 1 else 0) := rfl
    rw [e, if_pos (by rw [r5 ht]; exact hk), ev, et, if_pos (by omega), if_neg (by omega), vals_as r has]
    have hsub : ∀ (s : List Int), (∀ o, o ∈ s → 20 ≤ o ∧ o ≤ 22) → ∀ o, o ∈ (setl k s).1 → 20 ≤ o ∧ o ≤ 22 := fun s => by
      induction s with
      | nil => exact fun h => h
      | cons x s ih =>
        intro hs y hy
        have e : setl k (x :: s) = if k ≤ rk x then ((setl k s).1, (x, 0) :: (setl k s).2) else (x :: s, []) := rfl
        rw [e] at hy
        split at hy
        · exact ih (fun z hz => hs z (List.mem_cons_of_mem _ hz)) y hy
        · exact hs y hy
    exact ⟨Or.inr (Or.inr (Or.inr (Or.inr (Or.inl ⟨ht.1, ht.2, rfl, wf_T r has⟩)))), hsub r has⟩
def Iv (l F i : Nat) (st : List Int) (cd : List (Int × Int)) (fl : Int) : Prop := Sv l st ∧ dep st ≤ 8 ∧ (fl = 0 ∨ (fl = 1 ∧ Wv st)) ∧ F + cd.length + st.length ≤ i ∧ Wf l cd 0 0 (vals st + (if fl = 1 then 1 else 0)) (trus st)
theorem Iv_emi {l F i e : Nat} {st : List Int} {cd : List (Int × Int)} {x v : Int} (h : Iv l F i st cd 0) (he : i < e) (hx : (x = 0 ∧ 0 ≤ v ∧ v ≤ 9999) ∨ (x = 1 ∧ 0 ≤ v ∧ v < 8 ∧ (6 ≤ v → l = 2 ∨ l = 3))) : Iv l F e (setl 7 st).1 (cd ++ (x, v) :: (setl 7 st).2) 1 := by
  obtain ⟨h1, h2, h3, h4, h5⟩ := h
  rw [if_neg (by decide)] at h5
  have hl := h1.len8 h2
  have hv := vt_len st
  have hs := setl_len (k := 7) st
  obtain ⟨s1, s2⟩ := setl_sv (k := 7) st h1
  refine ⟨s1, by omega, Or.inr ⟨rfl, set7_wv⟩, ?_, ?_⟩
  · rw [List.length_append, List.length_cons]
    omega
  · try rw [if_pos rfl]
    refine Wf_app cd _ _ _ _ _ _ _ h5 ?_
    have hA := wf_A (k := 7) (by decide) st h1
    rcases hx with ⟨rfl, v1, v2⟩ | ⟨rfl, v1, v2, v3⟩
    · exact Or.inl ⟨rfl, v1, v2, by omega, hA⟩
    · exact Or.inr (Or.inl ⟨rfl, v1, v2, v3, by omega, hA⟩)
theorem Iv_opn {l F i e : Nat} {st : List Int} {cd : List (Int × Int)} {x : Int} (h : Iv l F i st cd 0) (he : i < e) (h8 : dep st ≠ 8) (hx : x = 2 ∨ x = 3 ∨ x = 40 ∨ x = 41 ∨ (x = 20 ∧ l = 0 ∧ (tp st = -1 ∨ (20 ≤ tp st ∧ tp st ≤ 22)))) : Iv l F e (x :: st) cd 0 := by
  obtain ⟨h1, h2, h3, h4, h5⟩ := h
  have hok : Okp l x (tp st) := by
    rcases hx with e | e | e | e | ⟨e, hl, ht⟩
    · exact Okp_u (Or.inl e)
    · exact Okp_u (Or.inr (Or.inl e))
    · exact Okp_u (Or.inr (Or.inr (Or.inr (Or.inl e))))
    · exact Okp_u (Or.inr (Or.inr (Or.inr (Or.inr e))))
    · exact Okp_no e hl ht
  have hxx : x ≠ 21 ∧ x ≠ 22 ∧ ¬ ((4 ≤ x ∧ x ≤ 8) ∨ (10 ≤ x ∧ x ≤ 15)) := by
    rcases hx with rfl | rfl | rfl | rfl | ⟨rfl, -, -⟩ <;> decide
  clear hx
  refine ⟨⟨hok, h1⟩, ?_, Or.inl rfl, ?_, ?_⟩
  · rw [dep_c]
    split <;> omega
  · rw [List.length_cons]
    omega
  · have ev : vals (x :: st) = vals st + (if (4 ≤ x ∧ x ≤ 8) ∨ (10 ≤ x ∧ x ≤ 15) then 1 else 0) := rfl
    have et : trus (x :: st) = trus st + (if x = 21 ∨ x = 22 then 1 else 0) := rfl
    rw [if_neg (show ¬ ((0 : Int) = 1) by decide)] at h5 ⊢
    rw [ev, et, if_neg hxx.2.2, if_neg (fun q => Or.elim q hxx.1 hxx.2.1)]
    exact h5
theorem opn_0 {x : Int} {st : List Int} (h : (opn x st).1 = 0) : dep st ≠ 8 ∧ opn x st = (0, x :: st, [], 0) := by
  unfold opn at *
  by_cases q : dep st = 8
  · rw [if_pos q] at h
    exact absurd h (show ¬ (3 : Int) = 0 by decide)
  · rw [if_neg q]
    exact ⟨q, rfl⟩
theorem Iv_one {l F i e o : Nat} {n : Int} {st : List Int} {cd : List (Int × Int)} (h : Iv l F i st cd 0) (he : i < e) (hn : 0 ≤ n) (h0 : (oneF l o n st).1 = 0) : Iv l F e (oneF l o n st).2.1 (cd ++ (oneF l o n st).2.2.1) (oneF l o n st).2.2.2 := by
  unfold oneF at *
  by_cases c1 : o = 39
  · rw [if_pos c1] at h0 ⊢
    by_cases c2 : 9999 < n
    · rw [if_pos c2] at h0
      exact absurd h0 (show ¬ (2 : Int) = 0 by decide)
    · rw [if_neg c2]
      exact Iv_emi h he (Or.inl ⟨rfl, hn, by omega⟩)
  rw [if_neg c1] at h0 ⊢
  by_cases c2 : 10 ≤ o ∧ o ≤ 17
  · rw [if_pos c2] at h0 ⊢
    by_cases c3 : 16 ≤ o ∧ l ≠ 2 ∧ l ≠ 3
    · rw [if_pos c3] at h0
      exact absurd h0 (show ¬ (5 : Int) = 0 by decide)
    · rw [if_neg c3]
      exact Iv_emi h he (Or.inr ⟨rfl, by omega, by omega, fun q => by omega⟩)
  rw [if_neg c2] at h0 ⊢
  have go : ∀ x : Int, (opn x st).1 = 0 → (x = 2 ∨ x = 3 ∨ x = 40 ∨ x = 41 ∨ (x = 20 ∧ l = 0 ∧ (tp st = -1 ∨ (20 ≤ tp st ∧ tp st ≤ 22)))) → Iv l F e (opn x st).2.1 (cd ++ (opn x st).2.2.1) (opn x st).2.2.2 := fun x h0 hx => by
    obtain ⟨q1, q2⟩ := opn_0 h0
    rw [q2]
    show Iv l F e (x :: st) (cd ++ []) 0
    rw [List.append_nil]
    exact Iv_opn h he q1 hx
  by_cases c3 : o = 36
  · rw [if_pos c3] at h0 ⊢
    exact go 40 h0 (by omega)
  rw [if_neg c3] at h0 ⊢
  by_cases c4 : o = 30
  · rw [if_pos c4] at h0 ⊢
    exact go 3 h0 (by omega)
  rw [if_neg c4] at h0 ⊢
  by_cases c5 : o = 33
  · rw [if_pos c5] at h0 ⊢
    exact go 2 h0 (by omega)
  rw [if_neg c5] at h0 ⊢
  by_cases c6 : o = 34
  · rw [if_pos c6] at h0 ⊢
    exact go 41 h0 (by omega)
  rw [if_neg c6] at h0 ⊢
  by_cases c7 : o = 22 ∧ l = 0 ∧ (tp st = -1 ∨ (20 ≤ tp st ∧ tp st ≤ 22))
  · rw [if_pos c7] at h0 ⊢
    exact go 20 h0 (by omega)
  · rw [if_neg c7] at h0
    exact absurd h0 (show ¬ (1 : Int) = 0 by decide)
/-- a law's code, whole -/
def LwDone (l F e : Nat) (cd : List (Int × Int)) : Prop := Wf l cd 0 0 (if l = 0 then 0 else 1) (if l = 0 then 1 else 0) ∧ F + cd.length ≤ e
theorem Iv_bh {l F i e o : Nat} {st : List Int} {cd : List (Int × Int)} (h : Iv l F i st cd 1) (he : i < e) (h0 : (bhF l o st).1 = 0) : ((bhF l o st).2.2.2 ≠ 2 → Iv l F e (bhF l o st).2.1 (cd ++ (bhF l o st).2.2.1) (bhF l o st).2.2.2) ∧ ((bhF l o st).2.2.2 = 2 → LwDone l F e (cd ++ (bhF l o st).2.2.1)) := by
  obtain ⟨h1, h2, h3, h4, h5⟩ := h
  have h3 : Wv st := by
    rcases h3 with h3 | h3
    · exact absurd h3 (by decide)
    · exact h3.2
  rw [if_pos rfl] at h5
  unfold bhF at *
  by_cases c1 : tp st = 41
  · rw [if_pos c1] at h0 ⊢
    by_cases c2 : o = 19
    · rw [if_pos c2]
      refine ⟨fun _ => ?_, fun q => absurd q (show ¬ ((0 : Int) = 2) by decide)⟩
      cases st with
      | nil =>
        rw [tp_nil] at c1
        omega
      | cons x r =>
        have c1 : x = 41 := c1
        subst c1
        have k8 : rk 8 = 7 := rk_t.1 (by omega)
        have k41 : rk 41 = 0 := rk_t.2.1 (by omega)
        show Iv l F e (8 :: r) (cd ++ []) 0
        rw [List.append_nil]
        refine ⟨⟨Okp_u (Or.inr (Or.inr (Or.inl rfl))), h1.2⟩, ?_, Or.inl rfl, ?_, ?_⟩
        · rw [dep_c] at h2 ⊢
          rw [k41] at h2
          rw [k8]
          exact h2
        · rw [List.length_cons] at h4 ⊢
          omega
        · have ev : vals (41 :: r) = vals r + 0 := rfl
          have et : trus (41 :: r) = trus r + 0 := rfl
          have ev8 : vals (8 :: r) = vals r + 1 := rfl
          have et8 : trus (8 :: r) = trus r + 0 := rfl
          rw [ev, et] at h5
          try rw [if_neg (by decide)]
          rw [ev8, et8]
          exact h5
    · rw [if_neg c2] at h0
      exact absurd h0 (show ¬ (1 : Int) = 0 by decide)
  rw [if_neg c1] at h0 ⊢
  obtain ⟨t5, -⟩ := set5_top st h1 h3 c1
  have l5 := setl_len (k := 5) st
  obtain ⟨s5, d5⟩ := setl_sv (k := 5) st h1
  have w5 := wf_A (k := 5) (by decide) st h1
  have n5 := setl_top (k := 5) st
  by_cases c2 : 29 ≤ o ∧ o ≤ 32
  · rw [if_pos c2]
    refine ⟨fun _ => ?_, fun q => absurd q (show ¬ ((0 : Int) = 2) by decide)⟩
    have hx : 4 ≤ (o : Int) - 25 ∧ (o : Int) - 25 ≤ 7 := by omega
    generalize (o : Int) - 25 = x at *
    have hk : rk x = 5 ∨ rk x = 6 := by
      have : x = 4 ∨ x = 5 ∨ x = 6 ∨ x = 7 := by omega
      rcases this with rfl | rfl | rfl | rfl <;> decide
    have lk := setl_len (k := rk x) st
    obtain ⟨sk, dk⟩ := setl_sv (k := rk x) st h1
    have wk := wf_A (k := rk x) (by omega) st h1
    have nk := setl_top (k := rk x) st
    have two := setl_two (k := 5) (m := rk x) (by omega) st
    show Iv l F e (x :: (setl (rk x) st).1) (cd ++ (setl (rk x) st).2) 0
    have hok : Okp l x (tp (setl (rk x) st).1) := by
      have hin : tp (setl (rk x) st).1 = -1 ∨ tp (setl (rk x) st).1 ∈ st := by
        have sub : ∀ s : List Int, ∀ y, y ∈ (setl (rk x) s).1 → y ∈ s := fun s => by
          induction s with
          | nil => exact fun y h => h
          | cons z s ih =>
            intro y hy
            have e : setl (rk x) (z :: s) = if rk x ≤ rk z then ((setl (rk x) s).1, (z, 0) :: (setl (rk x) s).2) else (z :: s, []) := rfl
            rw [e] at hy
            split at hy
            · exact List.mem_cons_of_mem _ (ih y hy)
            · exact hy
        cases hs : (setl (rk x) st).1 with
        | nil => exact Or.inl rfl
        | cons y s =>
          right
          refine sub st _ ?_
          rw [hs]
          exact List.mem_cons_self
      have t41 : tp (setl (rk x) st).1 ≠ 41 := by
        intro q
        have q2 : setl 5 (setl (rk x) st).1 = ((setl (rk x) st).1, []) := setl_no (Or.inr (by rw [q, rk_t.2.1 (by omega)]; decide))
        rw [two, q2] at t5
        have t5 : tp (setl (rk x) st).1 = -1 ∨ tp (setl (rk x) st).1 = 40 ∨ (10 ≤ tp (setl (rk x) st).1 ∧ tp (setl (rk x) st).1 ≤ 15) ∨ (20 ≤ tp (setl (rk x) st).1 ∧ tp (setl (rk x) st).1 ≤ 22) := t5
        rw [q] at t5
        omega
      have hm : tp (setl (rk x) st).1 = -1 ∨ ((2 ≤ tp (setl (rk x) st).1 ∧ tp (setl (rk x) st).1 ≤ 8) ∨ (10 ≤ tp (setl (rk x) st).1 ∧ tp (setl (rk x) st).1 ≤ 15) ∨ (20 ≤ tp (setl (rk x) st).1 ∧ tp (setl (rk x) st).1 ≤ 22) ∨ tp (setl (rk x) st).1 = 40 ∨ tp (setl (rk x) st).1 = 41) := hin.imp id (fun q => Sv_mem st h1 q)
      exact Okp_bin hx hm t41 nk
    refine ⟨⟨hok, sk⟩, ?_, Or.inl rfl, ?_, ?_⟩
    · rw [dep_c, if_neg (by omega)]
      omega
    · rw [List.length_append, List.length_cons]
      omega
    · have ev : vals (x :: (setl (rk x) st).1) = vals (setl (rk x) st).1 + (if (4 ≤ x ∧ x ≤ 8) ∨ (10 ≤ x ∧ x ≤ 15) then 1 else 0) := rfl
      have et : trus (x :: (setl (rk x) st).1) = trus (setl (rk x) st).1 + (if x = 21 ∨ x = 22 then 1 else 0) := rfl
      try rw [if_neg (by decide)]
      rw [ev, et, if_pos (by omega), if_neg (by omega)]
      exact Wf_app cd _ _ _ _ _ _ _ h5 wk
  rw [if_neg c2] at h0 ⊢
  by_cases c3 : o = 37 ∧ tp (setl 5 st).1 = 40
  · rw [if_pos c3]
    refine ⟨fun _ => ?_, fun q => absurd q (show ¬ ((1 : Int) = 2) by decide)⟩
    show Iv l F e (setl 7 (setl 5 st).1.tail).1 (cd ++ ((setl 5 st).2 ++ (setl 7 (setl 5 st).1.tail).2)) 1
    cases hs : (setl 5 st).1 with
    | nil =>
      rw [hs, tp_nil] at c3
      omega
    | cons x r =>
      rw [hs] at c3 s5 d5 l5 w5
      have hx : x = 40 := c3.2
      subst hx
      have k40 : rk 40 = 0 := rk_t.2.1 (by omega)
      rw [dep_c, k40, if_pos (by omega)] at d5
      rw [List.length_cons] at l5
      have l7 := setl_len (k := 7) r
      obtain ⟨s7, d7⟩ := setl_sv (k := 7) r s5.2
      have w7 := wf_A (k := 7) (by decide) r s5.2
      have ev : vals (40 :: r) = vals r + 0 := rfl
      have et : trus (40 :: r) = trus r + 0 := rfl
      rw [ev, et] at w5
      show Iv l F e (setl 7 r).1 (cd ++ ((setl 5 st).2 ++ (setl 7 r).2)) 1
      refine ⟨s7, by omega, Or.inr ⟨rfl, set7_wv⟩, ?_, ?_⟩
      · rw [List.length_append, List.length_append]
        omega
      · try rw [if_pos rfl]
        exact Wf_app cd _ _ _ _ _ _ _ h5 (Wf_app _ _ _ _ _ _ _ _ w5 w7)
  rw [if_neg c3] at h0 ⊢
  by_cases c4 : (23 ≤ o ∧ o ≤ 28) ∧ l = 0 ∧ (tp (setl 5 st).1 = -1 ∨ (20 ≤ tp (setl 5 st).1 ∧ tp (setl 5 st).1 ≤ 22))
  · rw [if_pos c4]
    refine ⟨fun _ => ?_, fun q => absurd q (show ¬ ((0 : Int) = 2) by decide)⟩
    have hx : 10 ≤ (o : Int) - 13 ∧ (o : Int) - 13 ≤ 15 := by omega
    generalize (o : Int) - 13 = x at *
    have hk := (rk_t (o := x)).2.2.2.2.1 hx
    show Iv l F e (x :: (setl 5 st).1) (cd ++ (setl 5 st).2) 0
    refine ⟨⟨Okp_cm hx c4.2.1 c4.2.2, s5⟩, ?_, Or.inl rfl, ?_, ?_⟩
    · rw [dep_c, if_neg (by omega)]
      omega
    · rw [List.length_append, List.length_cons]
      omega
    · have ev : vals (x :: (setl 5 st).1) = vals (setl 5 st).1 + (if (4 ≤ x ∧ x ≤ 8) ∨ (10 ≤ x ∧ x ≤ 15) then 1 else 0) := rfl
      have et : trus (x :: (setl 5 st).1) = trus (setl 5 st).1 + (if x = 21 ∨ x = 22 then 1 else 0) := rfl
      try rw [if_neg (by decide)]
      rw [ev, et, if_pos (by omega), if_neg (by omega)]
      exact Wf_app cd _ _ _ _ _ _ _ h5 w5
  rw [if_neg c4] at h0 ⊢
  by_cases c5 : (o = 20 ∨ o = 21) ∧ (10 ≤ tp (setl 5 st).1 ∧ tp (setl 5 st).1 ≤ 15)
  · rw [if_pos c5]
    refine ⟨fun _ => ?_, fun q => absurd q (show ¬ ((0 : Int) = 2) by decide)⟩
    have hx : 42 - (o : Int) = 21 ∨ 42 - (o : Int) = 22 := by omega
    generalize 42 - (o : Int) = x at *
    have hkx : rk x = 2 ∨ rk x = 1 := by rcases hx with rfl | rfl <;> decide
    obtain ⟨wC, aC⟩ := wf_C (k := rk x) (by omega) s5 c5.2
    have lk := setl_len (k := rk x) (setl 5 st).1
    obtain ⟨sk, dk⟩ := setl_sv (k := rk x) (setl 5 st).1 s5
    have nk := setl_top (k := rk x) (setl 5 st).1
    have hl0 : l = 0 := by
      cases hs : (setl 5 st).1 with
      | nil =>
        rw [hs, tp_nil] at c5
        omega
      | cons y r =>
        rw [hs] at s5 c5
        rw [tp_cons] at c5
        exact (Okp_x s5.1).2 (by omega)
    have htop : tp (setl (rk x) (setl 5 st).1).1 = -1 ∨ (20 ≤ tp (setl (rk x) (setl 5 st).1).1 ∧ tp (setl (rk x) (setl 5 st).1).1 ≤ 22) := by
      cases hs : (setl (rk x) (setl 5 st).1).1 with
      | nil => exact Or.inl rfl
      | cons y r =>
        right
        refine aC y ?_
        rw [hs]
        exact List.mem_cons_self
    show Iv l F e (x :: (setl (rk x) (setl 5 st).1).1) (cd ++ ((setl 5 st).2 ++ (setl (rk x) (setl 5 st).1).2)) 0
    refine ⟨⟨Okp_ao hx hl0 htop nk, sk⟩, ?_, Or.inl rfl, ?_, ?_⟩
    · rw [dep_c, if_neg (by omega)]
      omega
    · rw [List.length_append, List.length_append, List.length_cons]
      omega
    · have ev : vals (x :: (setl (rk x) (setl 5 st).1).1) = vals (setl (rk x) (setl 5 st).1).1 + (if (4 ≤ x ∧ x ≤ 8) ∨ (10 ≤ x ∧ x ≤ 15) then 1 else 0) := rfl
      have et : trus (x :: (setl (rk x) (setl 5 st).1).1) = trus (setl (rk x) (setl 5 st).1).1 + (if x = 21 ∨ x = 22 then 1 else 0) := rfl
      try rw [if_neg (by decide)]
      rw [ev, et, if_neg (by omega), if_pos (by omega), vals_as _ aC]
      exact Wf_app cd _ _ _ _ _ _ _ h5 (Wf_app _ _ _ _ _ _ _ _ w5 wC)
  rw [if_neg c5] at h0 ⊢
  by_cases c6 : o = 38 ∧ (l = 0 ∧ (10 ≤ tp (setl 5 st).1 ∧ tp (setl 5 st).1 ≤ 15) ∨ l ≠ 0 ∧ tp (setl 5 st).1 = -1)
  · rw [if_pos c6]
    refine ⟨fun q => absurd rfl q, fun _ => ?_⟩
    show LwDone l F e (cd ++ ((setl 5 st).2 ++ (setl 1 (setl 5 st).1).2))
    have l1 := setl_len (k := 1) (setl 5 st).1
    refine ⟨?_, by rw [List.length_append, List.length_append]; omega⟩
    rcases c6.2 with ⟨hl, ht⟩ | ⟨hl, ht⟩
    · obtain ⟨wC, aC⟩ := wf_C (k := 1) (by decide) s5 ht
      have he : (setl 1 (setl 5 st).1).1 = [] := by
        cases hs : (setl 1 (setl 5 st).1).1 with
        | nil => rfl
        | cons y r =>
          exfalso
          have n1 := setl_top (k := 1) (setl 5 st).1
          have ha := aC y (by rw [hs]; exact List.mem_cons_self)
          rw [hs, tp_cons] at n1
          have := rk_t (o := y)
          omega
      rw [he] at wC
      rw [if_pos hl, if_pos hl]
      exact Wf_app cd _ _ _ _ _ _ _ h5 (Wf_app _ _ _ _ _ _ _ _ w5 wC)
    · have he := tp_0 s5 ht
      rw [he] at w5 ⊢
      rw [if_neg hl, if_neg hl]
      exact Wf_app cd _ _ _ _ _ _ _ h5 (Wf_app _ _ _ _ _ _ _ _ w5 ⟨rfl, rfl⟩)
  · rw [if_neg c6] at h0
    exact absurd h0 (show ¬ (1 : Int) = 0 by decide)
