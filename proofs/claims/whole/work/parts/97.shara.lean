/-! SHARES: all orders of at most five, and how often a set is ahead -/
def permT (n : Nat) : List (List Nat) := if n = 1 then [[0]] else if n = 2 then [[0, 1], [1, 0]] else if n = 3 then [[0, 1, 2], [0, 2, 1], [1, 0, 2], [1, 2, 0], [2, 0, 1], [2, 1, 0]] else if n = 4 then [[0, 1, 2, 3], [0, 1, 3, 2], [0, 2, 1, 3], [0, 2, 3, 1], [0, 3, 1, 2], [0, 3, 2, 1], [1, 0, 2, 3], [1, 0, 3, 2], [1, 2, 0, 3], [1, 2, 3, 0], [1, 3, 0, 2], [1, 3, 2, 0], [2, 0, 1, 3], [2, 0, 3, 1], [2, 1, 0, 3], [2, 1, 3, 0], [2, 3, 0, 1], [2, 3, 1, 0], [3, 0, 1, 2], [3, 0, 2, 1], [3, 1, 0, 2], [3, 1, 2, 0], [3, 2, 0, 1], [3, 2, 1, 0]] else [[0, 1, 2, 3, 4], [0, 1, 2, 4, 3], [0, 1, 3, 2, 4], [0, 1, 3, 4, 2], [0, 1, 4, 2, 3], [0, 1, 4, 3, 2], [0, 2, 1, 3, 4], [0, 2, 1, 4, 3], [0, 2, 3, 1, 4], [0, 2, 3, 4, 1], [0, 2, 4, 1, 3], [0, 2, 4, 3, 1], [0, 3, 1, 2, 4], [0, 3, 1, 4, 2], [0, 3, 2, 1, 4], [0, 3, 2, 4, 1], [0, 3, 4, 1, 2], [0, 3, 4, 2, 1], [0, 4, 1, 2, 3], [0, 4, 1, 3, 2], [0, 4, 2, 1, 3], [0, 4, 2, 3, 1], [0, 4, 3, 1, 2], [0, 4, 3, 2, 1], [1, 0, 2, 3, 4], [1, 0, 2, 4, 3], [1, 0, 3, 2, 4], [1, 0, 3, 4, 2], [1, 0, 4, 2, 3], [1, 0, 4, 3, 2], [1, 2, 0, 3, 4], [1, 2, 0, 4, 3], [1, 2, 3, 0, 4], [1, 2, 3, 4, 0], [1, 2, 4, 0, 3], [1, 2, 4, 3, 0], [1, 3, 0, 2, 4], [1, 3, 0, 4, 2], [1, 3, 2, 0, 4], [1, 3, 2, 4, 0], [1, 3, 4, 0, 2], [1, 3, 4, 2, 0], [1, 4, 0, 2, 3], [1, 4, 0, 3, 2], [1, 4, 2, 0, 3], [1, 4, 2, 3, 0], [1, 4, 3, 0, 2], [1, 4, 3, 2, 0], [2, 0, 1, 3, 4], [2, 0, 1, 4, 3], [2, 0, 3, 1, 4], [2, 0, 3, 4, 1], [2, 0, 4, 1, 3], [2, 0, 4, 3, 1], [2, 1, 0, 3, 4], [2, 1, 0, 4, 3], [2, 1, 3, 0, 4], [2, 1, 3, 4, 0], [2, 1, 4, 0, 3], [2, 1, 4, 3, 0], [2, 3, 0, 1, 4], [2, 3, 0, 4, 1], [2, 3, 1, 0, 4], [2, 3, 1, 4, 0], [2, 3, 4, 0, 1], [2, 3, 4, 1, 0], [2, 4, 0, 1, 3], [2, 4, 0, 3, 1], [2, 4, 1, 0, 3], [2, 4, 1, 3, 0], [2, 4, 3, 0, 1], [2, 4, 3, 1, 0], [3, 0, 1, 2, 4], [3, 0, 1, 4, 2], [3, 0, 2, 1, 4], [3, 0, 2, 4, 1], [3, 0, 4, 1, 2], [3, 0, 4, 2, 1], [3, 1, 0, 2, 4], [3, 1, 0, 4, 2], [3, 1, 2, 0, 4], [3, 1, 2, 4, 0], [3, 1, 4, 0, 2], [3, 1, 4, 2, 0], [3, 2, 0, 1, 4], [3, 2, 0, 4, 1], [3, 2, 1, 0, 4], [3, 2, 1, 4, 0], [3, 2, 4, 0, 1], [3, 2, 4, 1, 0], [3, 4, 0, 1, 2], [3, 4, 0, 2, 1], [3, 4, 1, 0, 2], [3, 4, 1, 2, 0], [3, 4, 2, 0, 1], [3, 4, 2, 1, 0], [4, 0, 1, 2, 3], [4, 0, 1, 3, 2], [4, 0, 2, 1, 3], [4, 0, 2, 3, 1], [4, 0, 3, 1, 2], [4, 0, 3, 2, 1], [4, 1, 0, 2, 3], [4, 1, 0, 3, 2], [4, 1, 2, 0, 3], [4, 1, 2, 3, 0], [4, 1, 3, 0, 2], [4, 1, 3, 2, 0], [4, 2, 0, 1, 3], [4, 2, 0, 3, 1], [4, 2, 1, 0, 3], [4, 2, 1, 3, 0], [4, 2, 3, 0, 1], [4, 2, 3, 1, 0], [4, 3, 0, 1, 2], [4, 3, 0, 2, 1], [4, 3, 1, 0, 2], [4, 3, 1, 2, 0], [4, 3, 2, 0, 1], [4, 3, 2, 1, 0]]
def swp (l : List Nat) (x y : Nat) : List Nat := (l.set x (l.getD y 0)).set y (l.getD x 0)
def fI (l : List Nat) : Nat → Option Nat
  | 0 => none
  | i + 1 => if l.getD i 0 ≤ l.getD (i + 1) 0 then some i else fI l i
def fK (l : List Nat) (p : Nat) : Nat → Nat
  | 0 => 0
  | k + 1 => if l.getD p 0 ≤ l.getD (k + 1) 0 then k + 1 else fK l p k
def rvv : Nat → Nat → Nat → List Nat → List Nat
  | 0, _, _, l => l
  | f + 1, x, y, l => if y ≤ x then l else rvv f (x + 1) (y - 1) (swp l x y)
def nextP (l : List Nat) : Option (List Nat) := match fI l (l.length - 1) with
  | none => none
  | some i => some (rvv 5 (i + 1) (l.length - 1) (swp l i (fK l i (l.length - 1))))
def chP (n : Nat) : List (List Nat) → Bool
  | [] => true
  | [l] => l.length == n && (l.all (fun r => decide (r < n)) && (nextP l == none))
  | l :: m :: r => l.length == n && (l.all (fun r => decide (r < n)) && (nextP l == some m && chP n (m :: r)))
theorem permT_ok : ∀ n, n < 6 → 1 ≤ n → chP n (permT n) = true ∧ (permT n).head? = some (List.range n) := by decide +kernel
def pc (a : Nat) : Nat := (a.testBit 0).toNat + (a.testBit 1).toNat + (a.testBit 2).toNat + (a.testBit 3).toNat + (a.testBit 4).toNat + (a.testBit 5).toNat
def memK (s k : Nat) : List Nat := (List.range k).filter (fun v => s.testBit v)
def ordN (n : Nat) : Nat := if n = 0 then 1 else if n = 1 then 1 else if n = 2 then 2 else if n = 3 then 6 else if n = 4 then 24 else if n = 5 then 120 else if n = 6 then 720 else 0
theorem ordB (n : Nat) : ordN n ≤ 720 := by
  unfold ordN
  repeat' split
  all_goals omega
def okA (s v a : Nat) : Bool := (a &&& s == a) && !(a.testBit v)
def wgt (s a : Nat) : Nat := ordN (pc a) * ordN (pc s - 1 - pc a)
def amask (mem : List Nat) (v : Nat) : List Nat → Nat
  | [] => 0
  | r :: rs => if mem.getD r 0 = v then 0 else amask mem v rs ||| 2 ^ mem.getD r 0
def masks (s v : Nat) : List Nat := (permT (pc s)).map (amask (memK s 6) v)
def chS (s v : Nat) : Bool := !(s.testBit v) || (decide (5 < pc s) || ((decide (1 ≤ pc s) && (masks s v).length == ordN (pc s)) && ((masks s v).all (fun m => decide (m < 64)) && ((List.range 64).all (fun a => (masks s v).count a == cond (okA s v a) (wgt s a) 0) && ((permT (pc s)).all (fun l => l.any (fun r => (memK s 6).getD r 0 == v)) && (memK s 6).all (fun w => decide (w < 6)))))))
theorem chS_all : ((List.range 64).all fun s => (List.range 6).all fun v => chS s v) = true := by decide +kernel
theorem chS_ok {s v : Nat} (hs : s < 64) (hv : v < 6) (hb : s.testBit v = true) (h5 : pc s ≤ 5) : 1 ≤ pc s ∧ (masks s v).length = ordN (pc s) ∧ (∀ m, m ∈ masks s v → m < 64) ∧ (∀ a, a < 64 → (masks s v).count a = if okA s v a = true then wgt s a else 0) ∧ (∀ l, l ∈ permT (pc s) → ∃ r, r ∈ l ∧ (memK s 6).getD r 0 = v) ∧ (∀ w, w ∈ memK s 6 → w < 6) := by
  have h := List.all_eq_true.mp (List.all_eq_true.mp chS_all s (List.mem_range.mpr hs)) v (List.mem_range.mpr hv)
  unfold chS at h
  rw [hb, decide_eq_false (by omega : ¬ 5 < pc s), Bool.not_true, Bool.false_or, Bool.false_or] at h
  rw [Bool.and_eq_true, Bool.and_eq_true, Bool.and_eq_true, Bool.and_eq_true, Bool.and_eq_true] at h
  obtain ⟨⟨h1, h2⟩, h3, h4, h5, h6⟩ := h
  refine ⟨of_decide_eq_true h1, eq_of_beq h2, fun m hm => of_decide_eq_true (List.all_eq_true.mp h3 m hm), fun a ha => ?_, fun l hl => ?_, fun w hw => of_decide_eq_true (List.all_eq_true.mp h6 w hw)⟩
  · have := eq_of_beq (List.all_eq_true.mp h4 a (List.mem_range.mpr ha))
    rw [this]
    cases okA s v a <;> rfl
  · have := List.all_eq_true.mp h5 l hl
    rw [List.any_eq_true] at this
    obtain ⟨r, hr, e⟩ := this
    exact ⟨r, hr, eq_of_beq e⟩
/-! what is taken at most from a set -/
def mst (T : Nat → Int) (a : Nat) : Nat → Int
  | 0 => 0
  | k + 1 => if a.testBit k = true then max (mst T a k) (T k) else mst T a k
theorem mst_or {T : Nat → Int} {a v : Nat} : ∀ n, mst T (a ||| 2 ^ v) n = if v < n then max (mst T a n) (T v) else mst T a n
  | 0 => by
    rw [if_neg (by omega)]
    rfl
  | n + 1 => by
    have ih := mst_or (T := T) (a := a) (v := v) n
    have eb : (a ||| 2 ^ v).testBit n = (a.testBit n || decide (v = n)) := by rw [Nat.testBit_or, Nat.testBit_two_pow]
    have e1 : mst T (a ||| 2 ^ v) (n + 1) = if (a ||| 2 ^ v).testBit n = true then max (mst T (a ||| 2 ^ v) n) (T n) else mst T (a ||| 2 ^ v) n := rfl
    have e2 : mst T a (n + 1) = if a.testBit n = true then max (mst T a n) (T n) else mst T a n := rfl
    rw [e1, e2, eb, ih]
    by_cases e : v = n
    · subst e
      rw [decide_eq_true rfl, Bool.or_true]
      try rw [if_pos rfl]
      rw [if_neg (by omega), if_pos (by omega)]
      split <;> omega
    · rw [decide_eq_false e, Bool.or_false]
      by_cases q : v < n
      · have q1 : v < n + 1 := by omega
        simp only [if_pos q, if_pos q1]
        split <;> omega
      · have q1 : ¬ v < n + 1 := by omega
        simp only [if_neg q, if_neg q1]
theorem mst_0 {T : Nat → Int} : ∀ n, mst T 0 n = 0
  | 0 => rfl
  | n + 1 => by
    have e2 : mst T 0 (n + 1) = if Nat.testBit 0 n = true then max (mst T 0 n) (T n) else mst T 0 n := rfl
    rw [e2, Nat.zero_testBit]
    try rw [if_neg (by decide)]
    exact mst_0 n
theorem mst_r {T : Nat → Int} {a : Nat} (hT : ∀ k, 0 ≤ T k ∧ T k ≤ 99) : ∀ n, 0 ≤ mst T a n ∧ mst T a n ≤ 99
  | 0 => ⟨Int.le_refl _, by show (0 : Int) ≤ 99; omega⟩
  | n + 1 => by
    have ih := mst_r (a := a) hT n
    have e2 : mst T a (n + 1) = if a.testBit n = true then max (mst T a n) (T n) else mst T a n := rfl
    have := hT n
    rw [e2]
    split <;> omega
def gA (T : Nat → Int) (v a : Nat) : Nat := (T v - mst T a 6).toNat
def addF (T : Nat → Int) (mem : List Nat) (v : Nat) : List Nat → Int → Int
  | [], _ => 0
  | r :: rs, m => if mem.getD r 0 = v then (if T v ≤ m then 0 else T v - m) else addF T mem v rs (if T (mem.getD r 0) ≤ m then m else T (mem.getD r 0))
theorem addF_g {T : Nat → Int} {mem : List Nat} {v : Nat} : ∀ (l : List Nat) (m : Int), 0 ≤ m → (∀ r, r ∈ l → mem.getD r 0 < 6) → (∃ r, r ∈ l ∧ mem.getD r 0 = v) → addF T mem v l m = max 0 (T v - max m (mst T (amask mem v l) 6))
  | [], m, _, _, ⟨r, hr, _⟩ => by cases hr
  | r :: rs, m, hm, hl, ⟨q, hq, eq⟩ => by
    have e1 : addF T mem v (r :: rs) m = if mem.getD r 0 = v then (if T v ≤ m then 0 else T v - m) else addF T mem v rs (if T (mem.getD r 0) ≤ m then m else T (mem.getD r 0)) := rfl
    have e2 : amask mem v (r :: rs) = if mem.getD r 0 = v then 0 else amask mem v rs ||| 2 ^ mem.getD r 0 := rfl
    rw [e1, e2]
    by_cases e : mem.getD r 0 = v
    · rw [if_pos e, if_pos e, mst_0]
      split <;> omega
    · have hq2 : q ∈ rs := by
        rcases List.mem_cons.mp hq with z | z
        · subst z
          exact absurd eq e
        · exact z
      have hr6 := hl r List.mem_cons_self
      rw [if_neg e, if_neg e, addF_g rs _ (by split <;> omega) (fun x hx => hl x (List.mem_cons_of_mem _ hx)) ⟨q, hq2, eq⟩, mst_or, if_pos hr6]
      split <;> omega
/-! sums over a list, by how often -/
def sumL (g : Nat → Nat) : List Nat → Nat
  | [] => 0
  | a :: l => g a + sumL g l
def sumN (g : Nat → Nat) : Nat → Nat
  | 0 => 0
  | n + 1 => sumN g n + g n
theorem sumN_cg {g g' : Nat → Nat} : ∀ n, (∀ a, a < n → g a = g' a) → sumN g n = sumN g' n
  | 0, _ => rfl
  | n + 1, h => by
    show sumN g n + g n = sumN g' n + g' n
    rw [sumN_cg n (fun a ha => h a (by omega)), h n (by omega)]
theorem sumN_add {g g' : Nat → Nat} : ∀ n, sumN (fun a => g a + g' a) n = sumN g n + sumN g' n
  | 0 => rfl
  | n + 1 => by
    show sumN (fun a => g a + g' a) n + (g n + g' n) = (sumN g n + g n) + (sumN g' n + g' n)
    rw [sumN_add n]
    omega
theorem sumN_one {g : Nat → Nat} {b : Nat} : ∀ n, sumN (fun a => if a = b then g a else 0) n = if b < n then g b else 0
  | 0 => by
    rw [if_neg (by omega)]
    rfl
  | n + 1 => by
    show sumN (fun a => if a = b then g a else 0) n + (if n = b then g n else 0) = _
    rw [sumN_one n]
    by_cases e : n = b
    · subst e
      rw [if_neg (by omega)]
      try rw [if_pos rfl]
      rw [if_pos (by omega)]
      omega
    · rw [if_neg e]
      by_cases q : b < n
      · rw [if_pos q, if_pos (by omega)]
        omega
      · rw [if_neg q, if_neg (by omega)]
theorem sumL_count {g : Nat → Nat} {M : Nat} : ∀ l : List Nat, (∀ a, a ∈ l → a < M) → sumL g l = sumN (fun a => l.count a * g a) M
  | [], _ => by
    have : ∀ n, sumN (fun a => List.count a [] * g a) n = 0 := fun n => by
      induction n with
      | zero => rfl
      | succ n ih =>
        show sumN (fun a => List.count a [] * g a) n + List.count n [] * g n = 0
        rw [ih, List.count_nil, Nat.zero_mul]
    exact (this M).symm
  | b :: l, h => by
    have ih := sumL_count (g := g) l (fun a ha => h a (List.mem_cons_of_mem _ ha))
    have hb := h b List.mem_cons_self
    have e : sumN (fun a => (b :: l).count a * g a) M = sumN (fun a => (fun a => l.count a * g a) a + (fun a => if a = b then g a else 0) a) M := sumN_cg M (fun a _ => by
      show (b :: l).count a * g a = l.count a * g a + if a = b then g a else 0
      by_cases q : a = b
      · subst q
        rw [List.count_cons_self]
        try rw [if_pos rfl]
        rw [Nat.add_mul, Nat.one_mul]
      · rw [List.count_cons_of_ne (fun z => q z.symm), if_neg q]
        omega)
    rw [e, sumN_add, ← ih, sumN_one, if_pos hb]
    show g b + sumL g l = _
    omega
def shA (T : Nat → Int) (s v n : Nat) : Nat := sumN (fun a => if okA s v a = true then wgt s a * gA T v a else 0) n
theorem shA_sum {T : Nat → Int} {s v : Nat} (hs : s < 64) (hv : v < 6) (hb : s.testBit v = true) (h5 : pc s ≤ 5) : shA T s v 64 = sumL (gA T v) (masks s v) := by
  obtain ⟨-, -, h3, h4, -, -⟩ := chS_ok hs hv hb h5
  rw [sumL_count _ h3]
  refine sumN_cg 64 (fun a ha => ?_)
  rw [h4 a ha]
  split
  · rfl
  · exact (Nat.zero_mul _).symm
theorem sumL_b {g : Nat → Nat} {b : Nat} (h : ∀ a, g a ≤ b) : ∀ l : List Nat, sumL g l ≤ b * l.length
  | [] => Nat.zero_le _
  | a :: l => by
    have ih := sumL_b h l
    have := h a
    show g a + sumL g l ≤ b * (l.length + 1)
    rw [Nat.mul_add, Nat.mul_one]
    omega
