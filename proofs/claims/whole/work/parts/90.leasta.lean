/-! LEAST TO PAY: sets of winds -/
def owB (c : Co) (N w : Nat) : Bool := decide (w < N) && (decide (c (24 + w) = 0) && decide (0 < c w))
def subS (c : Co) (N s : Nat) : Nat → Bool
  | 0 => true
  | w + 1 => subS c N s w && (!(s.testBit w) || owB c N w)
def penS (c : Co) (s : Nat) : Nat → Int
  | 0 => 0
  | w + 1 => penS c s w + if s.testBit w = true then c w else 0
def payS (c : Co) (s : Nat) : Nat → Co
  | 0 => c
  | w + 1 => if s.testBit w = true then upc (payS c s w) w 0 else payS c s w
theorem subS_no {c : Co} {N s m : Nat} (h : subS c N s m = false) : ∀ n, m ≤ n → subS c N s n = false
  | 0, hn => by
    obtain rfl : m = 0 := by omega
    exact h
  | n + 1, hn => by
    by_cases e : m = n + 1
    · subst e; exact h
    · show (subS c N s n && _) = false
      rw [subS_no h n (by omega), Bool.false_and]
theorem subS_at {c : Co} {N s w : Nat} : ∀ n, w < n → subS c N s n = true → s.testBit w = true → owB c N w = true
  | 0, h, _, _ => by omega
  | n + 1, h, hs, hb => by
    have hs : (subS c N s n && (!(s.testBit n) || owB c N n)) = true := hs
    rw [Bool.and_eq_true] at hs
    by_cases e : w = n
    · subst e
      rw [hb] at hs
      exact hs.2
    · exact subS_at n (by omega) hs.1 hb
theorem bitK : ∀ s, s < 64 → ∀ w, w < 6 → decide (((Int32.ofNat s >>> (Int32.ofNat w &&& 31)) &&& 1) = 1) = s.testBit w := by decide +kernel
theorem bitI {x y : Int32} {s w : Nat} (hx : x.toInt = s) (hs : s < 64) (hy : y.toInt = w) (hw : w < 6) : (((x >>> (y &&& 31)) &&& 1) = 1) = (s.testBit w = true) := by
  rw [ofN hx (by omega), ofN hy (by omega), ← bitK s hs w hw]
  exact propext decide_eq_true_iff.symm
theorem bitHi : ∀ N, N < 7 → ∀ s, s < 64 → s < 2 ^ N → ∀ w, w < 6 → N ≤ w → s.testBit w = false := by decide +kernel
theorem bitOver : ∀ N, N < 7 → ∀ s, s < 64 → 2 ^ N ≤ s → ∃ w, w < 6 ∧ N ≤ w ∧ s.testBit w = true := by decide +kernel
theorem subS_hi {c : Co} {N s : Nat} (hN : N ≤ 6) (hs : s < 2 ^ N) : ∀ n, N ≤ n → n ≤ 6 → subS c N s n = subS c N s N
  | 0, h, _ => by
    obtain rfl : N = 0 := by omega
    rfl
  | n + 1, h, h6 => by
    by_cases e : N = n + 1
    · rw [e]
    · have hp : 2 ^ N ≤ 64 := Nat.pow_le_pow_right (n := 2) (by omega) hN
      have hb := bitHi N (by omega) s (by omega) hs n (by omega) (by omega)
      show (subS c N s n && (!(s.testBit n) || owB c N n)) = _
      rw [hb, subS_hi hN hs n (by omega) (by omega)]
      simp
theorem subS_over {c : Co} {N s : Nat} (hN : N ≤ 6) (h64 : s < 64) (hs : 2 ^ N ≤ s) : subS c N s 6 = false := by
  obtain ⟨w, w6, hw, hb⟩ := bitOver N (by omega) s h64 hs
  cases q : subS c N s 6
  · rfl
  · have := subS_at 6 w6 q hb
    unfold owB at this
    rw [decide_eq_false (by omega), Bool.false_and] at this
    cases this
theorem penS_b {E : En} {c : Co} {s : Nat} (hO : Ok E c) : ∀ n, n ≤ eN E → -999 * (n : Int) ≤ penS c s n ∧ penS c s n ≤ 9999 * n
  | 0, _ => by
    show -999 * ((0 : Nat) : Int) ≤ 0 ∧ (0 : Int) ≤ 9999 * ((0 : Nat) : Int)
    omega
  | n + 1, hn => by
    have ih := penS_b (s := s) hO n (by omega)
    have hw := (hO.w (w := n) (by omega)).1
    show _ ≤ penS c s n + _ ∧ penS c s n + _ ≤ _
    split <;> omega
theorem penS_0 {c : Co} {N s : Nat} : ∀ n, subS c N s n = true → 0 ≤ penS c s n
  | 0, _ => Int.le_refl _
  | n + 1, h => by
    have hb : s.testBit n = true → owB c N n = true := fun q => subS_at (n + 1) (by omega) h q
    have h : (subS c N s n && (!(s.testBit n) || owB c N n)) = true := h
    rw [Bool.and_eq_true] at h
    have ih := penS_0 n h.1
    show 0 ≤ penS c s n + _
    split
    next q =>
      have := hb q
      unfold owB at this
      rw [Bool.and_eq_true, Bool.and_eq_true] at this
      have := of_decide_eq_true this.2.2
      omega
    next q => omega
theorem payS_ok {E : En} {c : Co} {s : Nat} (hO : Ok E c) : ∀ n, n ≤ eN E → Ok E (payS c s n) ∧ (∀ k, n ≤ k → payS c s n k = c k)
  | 0, _ => ⟨hO, fun _ _ => rfl⟩
  | n + 1, hn => by
    obtain ⟨i1, i2⟩ := payS_ok (s := s) hO n (by omega)
    have h6 := hO.1
    have e : payS c s (n + 1) = if s.testBit n = true then upc (payS c s n) n 0 else payS c s n := rfl
    rw [e]
    split
    · exact ⟨i1.O (by omega) (by omega), fun k hk => by rw [upc_ne (by omega)]; exact i2 k (by omega)⟩
    · exact ⟨i1, fun k hk => i2 k (by omega)⟩
theorem payS_tk {E : En} {c : Co} {s : Nat} (hO : Ok E c) (hT : TkOk E c) : TkOk E (payS c s (eN E)) := fun v hv => by
  have h6 := hO.1
  obtain ⟨-, e⟩ := payS_ok (s := s) hO (eN E) (Nat.le_refl _)
  rw [e _ (by omega), e 42 (by omega)]
  exact hT v hv
/-- pence, the set (-1: none), of the first k sets -/
def lsS (E : En) (c : Co) (n : Nat) (h : Int) : Nat → Int × Int
  | 0 => (-1, -1)
  | s + 1 => if subS c (eN E) s 6 = true ∧ ((lsS E c n h s).1 = -1 ∨ penS c s (eN E) < (lsS E c n h s).1) ∧ tkN E (payS c s (eN E)) (canN c n) ≤ h then (penS c s (eN E), (s : Int)) else lsS E c n h s
theorem lsS_b {E : En} {c : Co} {n : Nat} {h : Int} (hN : eN E ≤ 6) : ∀ k, ((lsS E c n h k).1 = -1 ∧ (lsS E c n h k).2 = -1) ∨ ((0 ≤ (lsS E c n h k).2 ∧ (lsS E c n h k).2 < k) ∧ 0 ≤ (lsS E c n h k).1 ∧ (lsS E c n h k).1 = penS c (lsS E c n h k).2.toNat (eN E))
  | 0 => Or.inl ⟨rfl, rfl⟩
  | s + 1 => by
    have ih := lsS_b (c := c) (n := n) (h := h) hN s
    have e : lsS E c n h (s + 1) = if subS c (eN E) s 6 = true ∧ ((lsS E c n h s).1 = -1 ∨ penS c s (eN E) < (lsS E c n h s).1) ∧ tkN E (payS c s (eN E)) (canN c n) ≤ h then (penS c s (eN E), (s : Int)) else lsS E c n h s := rfl
    rw [e]
    split
    next q =>
      refine Or.inr ⟨?_, ?_, ?_⟩
      · dsimp only
        omega
      · dsimp only
        have : subS c (eN E) s (eN E) = true := by
          cases z : subS c (eN E) s (eN E)
          · rw [subS_no z 6 hN] at q
            cases q.1
          · rfl
        exact penS_0 _ this
      · rfl
    next q =>
      rcases ih with i | i
      · exact Or.inl i
      · exact Or.inr ⟨by omega, i.2⟩
theorem lsS_stay {E : En} {c : Co} {n : Nat} {h : Int} {m : Nat} : ∀ k, m ≤ k → (∀ s, m ≤ s → s < k → subS c (eN E) s 6 = false) → lsS E c n h k = lsS E c n h m
  | 0, hk, _ => by
    obtain rfl : m = 0 := by omega
    rfl
  | k + 1, hk, hs => by
    by_cases e : m = k + 1
    · rw [e]
    · have ih := lsS_stay (E := E) (c := c) (n := n) (h := h) k (by omega) (fun s h1 h2 => hs s h1 (by omega))
      rw [← ih]
      show (if subS c (eN E) k 6 = true ∧ _ then _ else _) = _
      rw [if_neg (fun q => by rw [hs k (by omega) (by omega)] at q; cases q.1)]
/-- the reference's bits of those that can be paid -/
def csB (b : Nat → Bool) : Nat → Int32
  | 0 => 0
  | n + 1 => cond (b n) (csB b n ||| (1 <<< (Int32.ofNat n &&& 31))) (csB b n)
def b6 (x0 x1 x2 x3 x4 x5 : Bool) (n : Nat) : Bool := if n = 0 then x0 else if n = 1 then x1 else if n = 2 then x2 else if n = 3 then x3 else if n = 4 then x4 else x5
def inB (b : Nat → Bool) (s : Nat) : Nat → Bool
  | 0 => true
  | w + 1 => inB b s w && (!(s.testBit w) || b w)
theorem csK : ∀ x0 x1 x2 x3 x4 x5 : Bool, (0 ≤ (csB (b6 x0 x1 x2 x3 x4 x5) 6).toInt ∧ (csB (b6 x0 x1 x2 x3 x4 x5) 6).toInt < 64) ∧ ∀ s, s < 64 → decide ((Int32.ofNat s &&& (csB (b6 x0 x1 x2 x3 x4 x5) 6 ^^^ (-1))) = 0) = inB (b6 x0 x1 x2 x3 x4 x5) s 6 ∧ (inB (b6 x0 x1 x2 x3 x4 x5) s 6 = true → (s : Int) ≤ (csB (b6 x0 x1 x2 x3 x4 x5) 6).toInt) := by decide +kernel
theorem csB_cg {b b' : Nat → Bool} : ∀ n, (∀ k, k < n → b k = b' k) → csB b n = csB b' n
  | 0, _ => rfl
  | n + 1, h => by
    show cond (b n) _ _ = cond (b' n) _ _
    rw [h n (by omega), csB_cg n (fun k hk => h k (by omega))]
theorem inB_cg {b b' : Nat → Bool} {s : Nat} : ∀ n, (∀ k, k < n → b k = b' k) → inB b s n = inB b' s n
  | 0, _ => rfl
  | n + 1, h => by
    show (inB b s n && _) = (inB b' s n && _)
    rw [h n (by omega), inB_cg n (fun k hk => h k (by omega))]
theorem b6_id (b : Nat → Bool) : ∀ k, k < 6 → b k = b6 (b 0) (b 1) (b 2) (b 3) (b 4) (b 5) k := fun k hk => by
  have : k = 0 ∨ k = 1 ∨ k = 2 ∨ k = 3 ∨ k = 4 ∨ k = 5 := by omega
  rcases this with rfl | rfl | rfl | rfl | rfl | rfl <;> rfl
theorem csB_k (b : Nat → Bool) : (0 ≤ (csB b 6).toInt ∧ (csB b 6).toInt < 64) ∧ ∀ s, s < 64 → (((Int32.ofNat s &&& (csB b 6 ^^^ (-1))) = 0) = (inB b s 6 = true)) ∧ (inB b s 6 = true → (s : Int) ≤ (csB b 6).toInt) := by
  have h := csK (b 0) (b 1) (b 2) (b 3) (b 4) (b 5)
  rw [← csB_cg 6 (b6_id b)] at h
  refine ⟨h.1, fun s hs => ?_⟩
  have h2 := h.2 s hs
  rw [← inB_cg 6 (b6_id b)] at h2
  refine ⟨?_, h2.2⟩
  rw [← h2.1]
  exact propext decide_eq_true_iff.symm
theorem inB_sub {c : Co} {N s : Nat} : ∀ n, inB (owB c N) s n = subS c N s n
  | 0 => rfl
  | n + 1 => by
    show (inB (owB c N) s n && _) = (subS c N s n && _)
    rw [inB_sub n]
theorem csB_hi {b : Nat → Bool} {N : Nat} (h : ∀ w, N ≤ w → b w = false) : ∀ n, N ≤ n → csB b n = csB b N
  | 0, hn => by
    obtain rfl : N = 0 := by omega
    rfl
  | n + 1, hn => by
    by_cases e : N = n + 1
    · rw [e]
    · show cond (b n) _ _ = _
      rw [h n (by omega), csB_hi h n (by omega)]
      rfl
theorem pow2N {x : Int32} {N : Nat} (h : x.toInt = N) (hN : N ≤ 6) : ((1 : Int32) <<< (x &&& 31)).toInt = (2 ^ N : Nat) := by
  have e : x = Int32.ofNat N := ofN h (by omega)
  have : N = 0 ∨ N = 1 ∨ N = 2 ∨ N = 3 ∨ N = 4 ∨ N = 5 ∨ N = 6 := by omega
  rcases this with rfl | rfl | rfl | rfl | rfl | rfl | rfl <;> subst e <;> decide
