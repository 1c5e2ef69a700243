/-! TEXTS: a law read, token by token -/
def rk (o : Int) : Int := if 40 ≤ o then 0 else if o = 22 then 1 else if o = 21 then 2 else if o = 20 then 3 else if 10 ≤ o then 4 else if o = 3 ∨ o = 2 ∨ o = 8 then 7 else if 6 ≤ o then 6 else 5
def tp (st : List Int) : Int := st.headD (-1)
def dep : List Int → Nat
  | [] => 0
  | o :: r => dep r + (if rk o = 0 ∨ rk o = 3 ∨ rk o = 7 then 1 else 0)
def setl (k : Int) : List Int → List Int × List (Int × Int)
  | [] => ([], [])
  | o :: r => if k ≤ rk o then ((setl k r).1, (o, 0) :: (setl k r).2) else (o :: r, [])
def isCm (x : Int) : Prop := 10 ≤ x ∧ x ≤ 15
def isAs (x : Int) : Prop := 20 ≤ x ∧ x ≤ 22
def askA (l : Nat) (st : List Int) : Prop := l = 0 ∧ (tp st = -1 ∨ (20 ≤ tp st ∧ tp st ≤ 22))
abbrev Rs : Type := Int × List Int × List (Int × Int) × Int
noncomputable def opn (x : Int) (st : List Int) : Rs := if dep st = 8 then (3, st, [], 0) else (0, x :: st, [], 0)
def emi (e : Int × Int) (st : List Int) : Rs := (0, (setl 7 st).1, e :: (setl 7 st).2, 1)
noncomputable def oneF (l o : Nat) (n : Int) (st : List Int) : Rs :=
  if o = 39 then (if 9999 < n then (2, st, [], 0) else emi (0, n) st) else
  if 10 ≤ o ∧ o ≤ 17 then (if 16 ≤ o ∧ l ≠ 2 ∧ l ≠ 3 then (5, st, [], 0) else emi (1, (o : Int) - 10) st) else
  if o = 36 then opn 40 st else if o = 30 then opn 3 st else if o = 33 then opn 2 st else if o = 34 then opn 41 st else
  if o = 22 ∧ l = 0 ∧ (tp st = -1 ∨ (20 ≤ tp st ∧ tp st ≤ 22)) then opn 20 st else (1, st, [], 0)
noncomputable def bhF (l o : Nat) (st : List Int) : Rs :=
  if tp st = 41 then (if o = 19 then (0, 8 :: st.tail, [], 0) else (1, st, [], 1)) else
  if 29 ≤ o ∧ o ≤ 32 then (0, ((o : Int) - 25) :: (setl (rk ((o : Int) - 25)) st).1, (setl (rk ((o : Int) - 25)) st).2, 0) else
  if o = 37 ∧ tp (setl 5 st).1 = 40 then (0, (setl 7 (setl 5 st).1.tail).1, (setl 5 st).2 ++ (setl 7 (setl 5 st).1.tail).2, 1) else
  if (23 ≤ o ∧ o ≤ 28) ∧ l = 0 ∧ (tp (setl 5 st).1 = -1 ∨ (20 ≤ tp (setl 5 st).1 ∧ tp (setl 5 st).1 ≤ 22)) then (0, ((o : Int) - 13) :: (setl 5 st).1, (setl 5 st).2, 0) else
  if (o = 20 ∨ o = 21) ∧ (10 ≤ tp (setl 5 st).1 ∧ tp (setl 5 st).1 ≤ 15) then (0, (42 - (o : Int)) :: (setl (rk (42 - (o : Int))) (setl 5 st).1).1, (setl 5 st).2 ++ (setl (rk (42 - (o : Int))) (setl 5 st).1).2, 0) else
  if o = 38 ∧ (l = 0 ∧ (10 ≤ tp (setl 5 st).1 ∧ tp (setl 5 st).1 ≤ 15) ∨ l ≠ 0 ∧ tp (setl 5 st).1 = -1) then (0, (setl 1 (setl 5 st).1).1, (setl 5 st).2 ++ (setl 1 (setl 5 st).1).2, 2) else
  (1, (setl 5 st).1, (setl 5 st).2, 1)
noncomputable def stF (l o : Nat) (n : Int) (fl : Int) (st : List Int) : Rs := if fl = 0 then oneF l o n st else bhF l o st
/-- fault, its place, where it ends, the code -/
noncomputable def lawF (L : Nat) (B : Nat → Int) (l : Nat) : Nat → Nat → List Int → List (Int × Int) → Int → Int × Nat × Nat × List (Int × Int)
  | 0, _, _, _, _ => (1, 0, 0, [])
  | k + 1, i, st, cd, fl =>
    if (stF l (tokO L B i) (tokN L B i) fl st).1 ≠ 0 then ((stF l (tokO L B i) (tokN L B i) fl st).1, tokP L B i, 0, []) else
    if (stF l (tokO L B i) (tokN L B i) fl st).2.2.2 = 2 then (0, 0, tokE L B i, cd ++ (stF l (tokO L B i) (tokN L B i) fl st).2.2.1) else
    lawF L B l k (tokE L B i) (stF l (tokO L B i) (tokN L B i) fl st).2.1 (cd ++ (stF l (tokO L B i) (tokN L B i) fl st).2.2.1) (stF l (tokO L B i) (tokN L B i) fl st).2.2.2
/-! what may stand on what -/
def Okp (l : Nat) (o x : Int) : Prop := (o = 2 ∨ o = 3 ∨ o = 8 ∨ o = 40 ∨ o = 41) ∨ ((o = 4 ∨ o = 5) ∧ (x = -1 ∨ x = 40 ∨ (10 ≤ x ∧ x ≤ 15) ∨ (20 ≤ x ∧ x ≤ 22))) ∨ ((o = 6 ∨ o = 7) ∧ (x = -1 ∨ x = 40 ∨ x = 4 ∨ x = 5 ∨ (10 ≤ x ∧ x ≤ 15) ∨ (20 ≤ x ∧ x ≤ 22))) ∨ ((10 ≤ o ∧ o ≤ 15) ∧ l = 0 ∧ (x = -1 ∨ (20 ≤ x ∧ x ≤ 22))) ∨ (o = 20 ∧ l = 0 ∧ (x = -1 ∨ (20 ≤ x ∧ x ≤ 22))) ∨ (o = 21 ∧ l = 0 ∧ (x = -1 ∨ x = 22)) ∨ (o = 22 ∧ l = 0 ∧ x = -1)
def Sv (l : Nat) : List Int → Prop
  | [] => True
  | o :: r => Okp l o (tp r) ∧ Sv l r
def Wv (st : List Int) : Prop := tp st ≠ 2 ∧ tp st ≠ 3 ∧ tp st ≠ 8
def vals : List Int → Nat
  | [] => 0
  | o :: r => vals r + (if (4 ≤ o ∧ o ≤ 8) ∨ (10 ≤ o ∧ o ≤ 15) then 1 else 0)
def trus : List Int → Nat
  | [] => 0
  | o :: r => trus r + (if o = 21 ∨ o = 22 then 1 else 0)
def kq (x : Int) : Nat := if x = 22 then 1 else if x = 21 then 2 else if 10 ≤ x ∧ x ≤ 15 then 3 else if x = 4 ∨ x = 5 then 4 else if x = 6 ∨ x = 7 then 5 else 0
theorem tp_nil : tp [] = -1 := rfl
theorem tp_cons {o : Int} {r : List Int} : tp (o :: r) = o := rfl
theorem tp_0 {l : Nat} {st : List Int} (h : Sv l st) (e : tp st = -1) : st = [] := by
  cases st with
  | nil => rfl
  | cons o r =>
    obtain ⟨h1, -⟩ := h
    unfold Okp at h1
    rw [tp_cons] at e
    omega
theorem rk_t {o : Int} : (o = 2 ∨ o = 3 ∨ o = 8 → rk o = 7) ∧ (o = 40 ∨ o = 41 → rk o = 0) ∧ (o = 4 ∨ o = 5 → rk o = 5) ∧ (o = 6 ∨ o = 7 → rk o = 6) ∧ (10 ≤ o ∧ o ≤ 15 → rk o = 4) ∧ (o = 20 → rk o = 3) ∧ (o = 21 → rk o = 2) ∧ (o = 22 → rk o = 1) := by
  unfold rk
  refine ⟨fun h => ?_, fun h => ?_, fun h => ?_, fun h => ?_, fun h => ?_, fun h => ?_, fun h => ?_, fun h => ?_⟩ <;> repeat' split
  all_goals omega
theorem Sv.len {l : Nat} : ∀ st, Sv l st → st.length ≤ 6 * dep st + kq (tp st)
  | [], _ => Nat.zero_le _
  | o :: r, ⟨h1, h2⟩ => by
    have ih := Sv.len r h2
    obtain ⟨r1, r2, r3, r4, r5, r6, r7, r8⟩ := rk_t (o := o)
    have hk : kq (tp r) ≤ 5 := by
      unfold kq
      repeat' split
      all_goals omega
    show r.length + 1 ≤ 6 * (dep r + (if rk o = 0 ∨ rk o = 3 ∨ rk o = 7 then 1 else 0)) + kq o
    by_cases q : rk o = 0 ∨ rk o = 3 ∨ rk o = 7
    · rw [if_pos q]
      omega
    · rw [if_neg q]
      have hlt : kq (tp r) + 1 ≤ kq o := by
        unfold Okp at h1
        unfold kq
        rcases h1 with h1 | h1 | h1 | h1 | h1 | h1 | h1
        · omega
        all_goals
          repeat' split
          all_goals omega
      omega
theorem Sv.len8 {l : Nat} {st : List Int} (h : Sv l st) (h8 : dep st ≤ 8) : st.length ≤ 53 := by
  have := h.len
  have hk : kq (tp st) ≤ 5 := by
    unfold kq
    repeat' split
    all_goals omega
  omega
theorem vt_len : ∀ st : List Int, vals st + trus st ≤ st.length
  | [] => Nat.le_refl _
  | o :: r => by
    have ih := vt_len r
    show vals r + (if (4 ≤ o ∧ o ≤ 8) ∨ (10 ≤ o ∧ o ≤ 15) then 1 else 0) + (trus r + (if o = 21 ∨ o = 22 then 1 else 0)) ≤ r.length + 1
    by_cases q : (4 ≤ o ∧ o ≤ 8) ∨ (10 ≤ o ∧ o ≤ 15)
    · rw [if_pos q, if_neg (by omega)]
      omega
    · rw [if_neg q]
      split <;> omega
theorem setl_len {k : Int} : ∀ st, (setl k st).1.length + (setl k st).2.length = st.length
  | [] => rfl
  | o :: r => by
    have ih := setl_len (k := k) r
    have e : setl k (o :: r) = if k ≤ rk o then ((setl k r).1, (o, 0) :: (setl k r).2) else (o :: r, []) := rfl
    rw [e]
    split
    · show (setl k r).1.length + ((setl k r).2.length + 1) = r.length + 1
      omega
    · rfl
theorem setl_sv {l : Nat} {k : Int} : ∀ st, Sv l st → Sv l (setl k st).1 ∧ dep (setl k st).1 ≤ dep st
  | [], h => ⟨h, Nat.le_refl _⟩
  | o :: r, h => by
    obtain ⟨i1, i2⟩ := setl_sv (k := k) r h.2
    have e : setl k (o :: r) = if k ≤ rk o then ((setl k r).1, (o, 0) :: (setl k r).2) else (o :: r, []) := rfl
    have e2 : dep (o :: r) = dep r + (if rk o = 0 ∨ rk o = 3 ∨ rk o = 7 then 1 else 0) := rfl
    rw [e]
    split
    · exact ⟨i1, by show dep (setl k r).1 ≤ _; omega⟩
    · exact ⟨h, Nat.le_refl _⟩
theorem setl_top {k : Int} : ∀ st, tp (setl k st).1 = -1 ∨ rk (tp (setl k st).1) < k
  | [] => Or.inl rfl
  | o :: r => by
    have ih := setl_top (k := k) r
    have e : setl k (o :: r) = if k ≤ rk o then ((setl k r).1, (o, 0) :: (setl k r).2) else (o :: r, []) := rfl
    rw [e]
    split
    · exact ih
    · right
      show rk o < k
      omega
/-- in two steps -/
theorem setl_two {k m : Int} (h : k ≤ m) : ∀ st, setl k st = ((setl k (setl m st).1).1, (setl m st).2 ++ (setl k (setl m st).1).2)
  | [] => rfl
  | o :: r => by
    have ih := setl_two h r
    have e : setl m (o :: r) = if m ≤ rk o then ((setl m r).1, (o, 0) :: (setl m r).2) else (o :: r, []) := rfl
    rw [e]
    by_cases q : m ≤ rk o
    · rw [if_pos q]
      have e2 : setl k (o :: r) = if k ≤ rk o then ((setl k r).1, (o, 0) :: (setl k r).2) else (o :: r, []) := rfl
      rw [e2, if_pos (by omega)]
      show ((setl k r).1, (o, 0) :: (setl k r).2) = ((setl k (setl m r).1).1, (o, 0) :: ((setl m r).2 ++ (setl k (setl m r).1).2))
      rw [ih]
    · rw [if_neg q]
      rfl
theorem setl_no {k : Int} {st : List Int} (h : tp st = -1 ∧ st = [] ∨ rk (tp st) < k) : setl k st = (st, []) := by
  cases st with
  | nil => rfl
  | cons o r =>
    have e : setl k (o :: r) = if k ≤ rk o then ((setl k r).1, (o, 0) :: (setl k r).2) else (o :: r, []) := rfl
    rw [e, if_neg]
    rcases h with ⟨-, h⟩ | h
    · cases h
    · have h : rk o < k := h
      omega
/-- behind the sums -/
theorem set5_top {l : Nat} : ∀ st, Sv l st → Wv st → tp st ≠ 41 → (tp (setl 5 st).1 = -1 ∨ tp (setl 5 st).1 = 40 ∨ (10 ≤ tp (setl 5 st).1 ∧ tp (setl 5 st).1 ≤ 15) ∨ (20 ≤ tp (setl 5 st).1 ∧ tp (setl 5 st).1 ≤ 22)) ∧ (40 ∈ st ↔ 40 ∈ (setl 5 st).1)
  | [], _, _, _ => ⟨Or.inl rfl, Iff.rfl⟩
  | o :: r, ⟨h1, h2⟩, hw, h41 => by
    unfold Wv at hw
    rw [tp_cons] at hw h41
    obtain ⟨r1, r2, r3, r4, r5, r6, r7, r8⟩ := rk_t (o := o)
    have e : setl 5 (o :: r) = if 5 ≤ rk o then ((setl 5 r).1, (o, 0) :: (setl 5 r).2) else (o :: r, []) := rfl
    unfold Okp at h1
    rw [e]
    by_cases q : 5 ≤ rk o
    · rw [if_pos q]
      have ho : 4 ≤ o ∧ o ≤ 7 := by omega
      have ih := set5_top r h2 (by unfold Wv; omega) (by omega)
      refine ⟨ih.1, ?_⟩
      rw [← ih.2, List.mem_cons]
      exact ⟨fun z => by rcases z with z | z; · omega
                         · exact z, Or.inr⟩
    · rw [if_neg q]
      exact ⟨by rw [tp_cons]; omega, Iff.rfl⟩
theorem no40 {l : Nat} : ∀ st, Sv l st → (tp st = -1 ∨ (10 ≤ tp st ∧ tp st ≤ 15) ∨ (20 ≤ tp st ∧ tp st ≤ 22)) → ¬ (40 : Int) ∈ st
  | [], _, _ => fun h => by cases h
  | o :: r, ⟨h1, h2⟩, ht => by
    rw [tp_cons] at ht
    unfold Okp at h1
    have ih := no40 r h2 (by omega)
    intro h
    rcases List.mem_cons.mp h with z | z
    · omega
    · exact ih z
theorem tp_in {st : List Int} {x : Int} (h : tp st = x) (hx : x ≠ -1) : x ∈ st := by
  cases st with
  | nil => exact absurd h.symm (fun e => hx e)
  | cons o r =>
    have h : o = x := h
    rw [h]
    exact List.mem_cons_self
theorem set7_wv {st : List Int} : Wv (setl 7 st).1 := by
  have h := setl_top (k := 7) st
  obtain ⟨r1, r2, r3, r4, r5, r6, r7, r8⟩ := rk_t (o := tp (setl 7 st).1)
  unfold Wv
  refine ⟨fun e => ?_, fun e => ?_, fun e => ?_⟩ <;> omega
theorem dep_c {o : Int} {r : List Int} : dep (o :: r) = dep r + (if rk o = 0 ∨ rk o = 3 ∨ rk o = 7 then 1 else 0) := rfl
