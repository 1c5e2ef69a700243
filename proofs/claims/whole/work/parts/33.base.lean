/-! NUMBERS: an Int32's integer, without conditions, for omega. -/
theorem ta (x y : Int32) : (x + y).toInt = (x.toInt + y.toInt + 2147483648) % 4294967296 - 2147483648 := by
  rw [Int32.toInt_add, Int.bmod_def]
  split <;> omega
theorem ts (x y : Int32) : (x - y).toInt = (x.toInt - y.toInt + 2147483648) % 4294967296 - 2147483648 := by
  rw [Int32.toInt_sub, Int.bmod_def]
  split <;> omega
theorem tm (x y : Int32) : (x * y).toInt = (x.toInt * y.toInt + 2147483648) % 4294967296 - 2147483648 := by
  rw [Int32.toInt_mul, Int.bmod_def]
  split <;> omega
theorem tn (x : Int32) : (-x).toInt = (-x.toInt + 2147483648) % 4294967296 - 2147483648 := by
  rw [Int32.toInt_neg, Int.bmod_def]
  split <;> omega
theorem tl0 : (0 : Int32).toInt = 0 := rfl
theorem tl1 : (1 : Int32).toInt = 1 := rfl
theorem tlm : (-1 : Int32).toInt = -1 := rfl
theorem trng (x : Int32) : -2147483648 ≤ x.toInt ∧ x.toInt < 2147483648 := ⟨by have := Int32.le_toInt x; omega, by have := Int32.toInt_lt x; omega⟩
theorem ile (x y : Int32) : (x ≤ y) = (x.toInt ≤ y.toInt) := propext Int32.le_iff_toInt_le
theorem ilt (x y : Int32) : (x < y) = (x.toInt < y.toInt) := propext Int32.lt_iff_toInt_lt
theorem ieq (x y : Int32) : (x = y) = (x.toInt = y.toInt) := propext Int32.toInt_inj.symm
theorem ix_nat {x : Int32} {n : Nat} (h : x.toInt = (n : Int)) : ix x = n := by
  unfold ix
  rw [h]
  exact Int.toNat_natCast n
theorem ix_to {x : Int32} (h : 0 ≤ x.toInt) : ((ix x : Nat) : Int) = x.toInt := by
  unfold ix
  omega
theorem i10 : ((1 : Int32) = 0) = False := eq_false (by decide)
theorem nbeq {a b : Nat} (h : a ≠ b) : Nat.beq a b = false := Bool.eq_false_iff.mpr (fun q => h (Nat.eq_of_beq_eq_true q))
theorem nble {a b : Nat} (h : b < a) : Nat.ble a b = false := Bool.eq_false_iff.mpr (fun q => by have := Nat.le_of_ble_eq_true q; omega)
/-! THE STORE READ AS INTEGERS; what stays the same; the core of a world. -/
def rd (σ : Sg) (a k : Nat) : Int := (gI σ a k).toInt
theorem rd_def (σ : Sg) (a k : Nat) : (gI σ a k).toInt = rd σ a k := rfl
theorem rd_sI (σ : Sg) (a k : Nat) (v : Int32) (x y : Nat) : rd (sI σ a k v) x y = if x = a ∧ y = k then v.toInt else rd σ x y := by
  unfold rd
  rw [gI_sI]
  split <;> rfl
theorem rd_sL (σ : Sg) (a k : Nat) (v : Int64) (x y : Nat) : rd (sL σ a k v) x y = rd σ x y := rfl
theorem rd_sR (σ : Sg) (a k v : Nat) (x y : Nat) : rd (sR σ a k v) x y = rd σ x y := rfl
theorem gIne {σ : Sg} {a k : Nat} {v : Int32} {x y : Nat} (h : x ≠ a) : gI (sI σ a k v) x y = gI σ x y := by
  rw [gI_sI, if_neg (fun q => h q.1)]
theorem rdne {σ : Sg} {a k : Nat} {v : Int32} {x y : Nat} (h : x ≠ a) : rd (sI σ a k v) x y = rd σ x y := by
  unfold rd
  rw [gIne h]
theorem gIne2 {σ : Sg} {a k : Nat} {v : Int32} {x y : Nat} (h : y ≠ k) : gI (sI σ a k v) x y = gI σ x y := by
  rw [gI_sI, if_neg (fun q => h q.2)]
theorem rdne2 {σ : Sg} {a k : Nat} {v : Int32} {x y : Nat} (h : y ≠ k) : rd (sI σ a k v) x y = rd σ x y := by
  unfold rd
  rw [gIne2 h]
theorem gIeq {σ : Sg} {a k : Nat} {v : Int32} : gI (sI σ a k v) a k = v := by
  rw [gI_sI, if_pos ⟨rfl, rfl⟩]
theorem rdeq {σ : Sg} {a k : Nat} {v : Int32} : rd (sI σ a k v) a k = v.toInt := by
  unfold rd
  rw [gIeq]
/-! numbers, with conditions -/
theorem tP {x y : Int32} (h : -2147483648 ≤ x.toInt + y.toInt ∧ x.toInt + y.toInt < 2147483648) : (x + y).toInt = x.toInt + y.toInt := by
  rw [ta]; omega
theorem tM {x y : Int32} (h : -2147483648 ≤ x.toInt - y.toInt ∧ x.toInt - y.toInt < 2147483648) : (x - y).toInt = x.toInt - y.toInt := by
  rw [ts]; omega
theorem tX {x y : Int32} (h : -2147483648 ≤ x.toInt * y.toInt ∧ x.toInt * y.toInt < 2147483648) : (x * y).toInt = x.toInt * y.toInt := by
  rw [tm]; omega
theorem tN {x : Int32} (h : x.toInt ≠ -2147483648) : (-x).toInt = -x.toInt := by
  have := trng x
  rw [tn]; omega
theorem tD {x y : Int32} (h : 0 ≤ x.toInt) (h2 : 0 < y.toInt) : (x / y).toInt = x.toInt / y.toInt := by
  rw [Int32.toInt_div_of_ne_right _ _ (fun e => by rw [e] at h2; exact absurd h2 (by decide)), Int.tdiv_eq_ediv_of_nonneg h]
theorem tDt {x y : Int32} (h2 : y.toInt ≠ -1) : (x / y).toInt = x.toInt.tdiv y.toInt := by
  rw [Int32.toInt_div_of_ne_right _ _ (fun e => h2 (by rw [e]; rfl))]
theorem tR {x y : Int32} (h : 0 ≤ x.toInt) : (x % y).toInt = x.toInt % y.toInt := by
  rw [Int32.toInt_mod, Int.tmod_eq_emod_of_nonneg h]
theorem ix_of {x : Int32} {n : Nat} (h : x.toInt = (n : Int)) : ix x = n := ix_nat h
theorem ixk {k x : Int32} {n : Nat} (hk : k.toInt = (n : Int)) (h : n < 1000000 ∧ 0 ≤ x.toInt ∧ x.toInt < 1000000) : ix (k + x) = n + ix x := by
  refine ix_nat ?_
  have := ix_to h.2.1
  rw [ta, hk]
  omega
theorem tk {k x : Int32} {n : Nat} (hk : k.toInt = (n : Int)) (h : n < 1000000 ∧ -1000000 ≤ x.toInt ∧ x.toInt < 1000000) : (k + x).toInt = n + x.toInt := by
  rw [ta, hk]
  omega
theorem inb_k {k x : Int32} {n N : Nat} (hk : k.toInt = (n : Int)) (h : n < 1000000 ∧ 0 ≤ x.toInt ∧ x.toInt < 1000000) (hN : n + x.toInt < N) : inb (k + x) N := by
  unfold inb
  rw [tk hk ⟨h.1, by omega, h.2.2⟩]
  omega
theorem ix1 {x : Int32} (h : 0 ≤ x.toInt ∧ x.toInt < 1000000) : ix (x + 1) = ix x + 1 := by
  refine ix_nat ?_
  have := ix_to h.1
  rw [ta, tl1]
  omega
theorem t1 {x : Int32} (h : -1000000 ≤ x.toInt ∧ x.toInt < 1000000) : (x + 1).toInt = x.toInt + 1 := by
  rw [ta, tl1]
  omega
theorem ixz {x : Int32} (h : x.toInt = 0) : ix x = 0 := ix_nat h
theorem inb_i {i : Int32} {n : Nat} (h : 0 ≤ i.toInt ∧ i.toInt < (n : Int)) : inb i n := h
theorem zB_1 : zB 1 = true := rfl
theorem zB_0 : zB 0 = true := rfl
theorem zB_v {v : Int32} (h : v.toInt = 0 ∨ v.toInt = 1) : zB v = true := by
  have : v = 0 ∨ v = 1 := by
    rcases h with h | h
    · exact Or.inl (Int32.toInt_inj.1 h)
    · exact Or.inr (Int32.toInt_inj.1 h)
  rcases this with rfl | rfl <;> rfl
theorem ne0 {v : Int32} (h : v.toInt ≠ 0) : ¬ (v = 0) := fun e => h (by rw [e]; rfl)
theorem eq0 {v : Int32} (h : v.toInt = 0) : v = 0 := Int32.toInt_inj.1 h
theorem eqv {v w : Int32} (h : v.toInt = w.toInt) : v = w := Int32.toInt_inj.1 h
/-! what stays the same, but for some cells -/
def inS (S : List (Nat × Nat × Nat)) (a k : Nat) : Bool := S.any (fun e => Nat.beq e.1 a && (Nat.ble e.2.1 k && Nat.blt k e.2.2))
def Fr (S : List (Nat × Nat × Nat)) (σ σ' : Sg) : Prop := (∀ a k, inS S a k = false → gI σ' a k = gI σ a k) ∧ (∀ a k, inS S a k = false → gL σ' a k = gL σ a k) ∧ (∀ a k, inS S a k = false → gR σ' a k = gR σ a k) ∧ ln σ' = ln σ
theorem Fr.rf {S : List (Nat × Nat × Nat)} {σ : Sg} : Fr S σ σ := ⟨fun _ _ _ => rfl, fun _ _ _ => rfl, fun _ _ _ => rfl, rfl⟩
theorem Fr.tr {S : List (Nat × Nat × Nat)} {a b c : Sg} (h : Fr S a b) (g : Fr S b c) : Fr S a c := ⟨fun x k e => (g.1 x k e).trans (h.1 x k e), fun x k e => (g.2.1 x k e).trans (h.2.1 x k e), fun x k e => (g.2.2.1 x k e).trans (h.2.2.1 x k e), g.2.2.2.trans h.2.2.2⟩
theorem inS_sub {S T : List (Nat × Nat × Nat)} (hs : ∀ e, e ∈ S → e ∈ T) {a k : Nat} (h : inS T a k = false) : inS S a k = false := by
  unfold inS at *
  rw [List.any_eq_false] at *
  intro e he
  exact h e (hs e he)
theorem Fr.mo {S T : List (Nat × Nat × Nat)} {a b : Sg} (hs : ∀ e, e ∈ S → e ∈ T) (h : Fr S a b) : Fr T a b := ⟨fun x k e => h.1 x k (inS_sub hs e), fun x k e => h.2.1 x k (inS_sub hs e), fun x k e => h.2.2.1 x k (inS_sub hs e), h.2.2.2⟩
theorem Fr.rd {S : List (Nat × Nat × Nat)} {a b : Sg} (h : Fr S a b) {x k : Nat} (e : inS S x k = false) : rd b x k = rd a x k := by
  show (gI b x k).toInt = (gI a x k).toInt
  rw [h.1 x k e]
theorem Fr.sI {S : List (Nat × Nat × Nat)} {σ : Sg} {a k : Nat} {v : Int32} (e : inS S a k = true) : Fr S σ (sI σ a k v) := by
  refine ⟨fun x y h => ?_, fun _ _ _ => rfl, fun _ _ _ => rfl, rfl⟩
  rw [gI_sI, if_neg]
  rintro ⟨rfl, rfl⟩
  rw [e] at h
  cases h
theorem Fr.sL {S : List (Nat × Nat × Nat)} {σ : Sg} {a k : Nat} {v : Int64} (e : inS S a k = true) : Fr S σ (sL σ a k v) := by
  refine ⟨fun _ _ _ => rfl, fun x y h => ?_, fun _ _ _ => rfl, rfl⟩
  rw [gL_sL, if_neg]
  rintro ⟨rfl, rfl⟩
  rw [e] at h
  cases h
theorem Fr.sR {S : List (Nat × Nat × Nat)} {σ : Sg} {a k v : Nat} (e : inS S a k = true) : Fr S σ (sR σ a k v) := by
  refine ⟨fun _ _ _ => rfl, fun _ _ _ => rfl, fun x y h => ?_, rfl⟩
  rw [gR_sR, if_neg]
  rintro ⟨rfl, rfl⟩
  rw [e] at h
  cases h
theorem Fr.cp {S : List (Nat × Nat × Nat)} {σ : Sg} {a sp b dp n : Nat} (e : ∀ k, dp ≤ k → k < dp + n → inS S b k = true) : Fr S σ (cpI σ a sp b dp n) := by
  refine ⟨fun x y h => ?_, fun _ _ _ => rfl, fun _ _ _ => rfl, rfl⟩
  rw [gI_cpI]
  by_cases hx : x = b
  · rw [if_pos hx]
    subst hx
    by_cases hy : dp ≤ y ∧ y < dp + n
    · rw [e y hy.1 hy.2] at h
      cases h
    · rw [if_neg hy]
  · rw [if_neg hx]
theorem inS_r {a k lo hi : Nat} {S : List (Nat × Nat × Nat)} (hm : (a, lo, hi) ∈ S) (h : lo ≤ k ∧ k < hi) : inS S a k = true := by
  unfold inS
  rw [List.any_eq_true]
  refine ⟨_, hm, ?_⟩
  show (Nat.beq a a && (Nat.ble lo k && Nat.blt k hi)) = true
  rw [Nat.beq_refl, Nat.ble_eq_true_of_le h.1]
  exact Nat.ble_eq_true_of_le h.2
/-! THE CORE: OWED 0, FORCE 6, WEIGHT 12, DUE 18, GONE 24 (of six winds), PURSE 30, TAKEN 36 (of six villages), DAY 42, X 43 -/
abbrev Co : Type := Nat → Int
def upc (c : Co) (k : Nat) (v : Int) : Co := fun x => if x = k then v else c x
theorem upc_eq {c : Co} {k : Nat} {v : Int} : upc c k v k = v := if_pos rfl
theorem upc_ne {c : Co} {k : Nat} {v : Int} {j : Nat} (h : j ≠ k) : upc c k v j = c j := if_neg h
/-- the class's row as a core; the object a is the row -/
def rc (σ : Sg) (a : Nat) : Co := fun k => if k < 44 then rd σ a k else 0
theorem rc_at {σ : Sg} {a k : Nat} (h : k < 44) : rc σ a k = rd σ a k := if_pos h
theorem rc_sI {σ : Sg} {a k : Nat} {v : Int32} (h : k < 44) : rc (sI σ a k v) a = upc (rc σ a) k v.toInt := by
  funext j
  show (if j < 44 then rd (sI σ a k v) a j else 0) = if j = k then v.toInt else (if j < 44 then rd σ a j else 0)
  by_cases e : j = k
  · subst e
    rw [if_pos h, rdeq]
    try rw [if_pos rfl]
  · rw [if_neg e]
    by_cases q : j < 44
    · rw [if_pos q, if_pos q, rdne2 e]
    · rw [if_neg q, if_neg q]
theorem rc_sIb {σ : Sg} {a k : Nat} {v : Int32} (h : 44 ≤ k) : rc (sI σ a k v) a = rc σ a := by
  funext j
  unfold rc
  by_cases e : j < 44
  · rw [if_pos e, if_pos e, rdne2 (by omega)]
  · rw [if_neg e, if_neg e]
theorem rc_ne {σ : Sg} {a b k : Nat} {v : Int32} (h : a ≠ b) : rc (sI σ b k v) a = rc σ a := by
  funext j
  unfold rc
  rw [rdne h]
theorem Fr_rc {S : List (Nat × Nat × Nat)} {σ σ' : Sg} (h : Fr S σ σ') {a : Nat} (e : ∀ k, k < 44 → inS S a k = false) : rc σ' a = rc σ a := by
  funext j
  unfold rc
  by_cases q : j < 44
  · rw [if_pos q, if_pos q, h.rd (e j q)]
  · rw [if_neg q, if_neg q]
/-- where the reference's array has a core's cell -/
def mix (k : Nat) : Nat := if k < 6 then 15 + 8 * k else if k < 12 then 16 + 8 * (k - 6) else if k < 18 then 13 + 8 * (k - 12) else if k < 24 then 14 + 8 * (k - 18) else if k < 30 then 17 + 8 * (k - 24) else if k < 36 then 61 + 4 * (k - 30) else if k < 42 then 62 + 4 * (k - 36) else k - 34
def mc (σ : Sg) (a : Nat) : Co := fun k => if k < 44 then rd σ a (mix k) else 0
theorem mix_lt {k : Nat} (h : k < 44) : mix k < 84 := by
  unfold mix
  repeat' split
  all_goals omega
theorem mix_inj {j k : Nat} (hj : j < 44) (hk : k < 44) (h : mix j = mix k) : j = k := by
  unfold mix at h
  repeat' split at h
  all_goals omega
theorem mix_o {w : Nat} (h : w < 6) : mix w = 15 + 8 * w := if_pos h
theorem mix_f {w : Nat} (h : w < 6) : mix (6 + w) = 16 + 8 * w := by
  unfold mix
  rw [if_neg (by omega), if_pos (by omega)]
  omega
theorem mix_w {w : Nat} (h : w < 6) : mix (12 + w) = 13 + 8 * w := by
  unfold mix
  rw [if_neg (by omega), if_neg (by omega), if_pos (by omega)]
  omega
theorem mix_d {w : Nat} (h : w < 6) : mix (18 + w) = 14 + 8 * w := by
  unfold mix
  rw [if_neg (by omega), if_neg (by omega), if_neg (by omega), if_pos (by omega)]
  omega
theorem mix_g {w : Nat} (h : w < 6) : mix (24 + w) = 17 + 8 * w := by
  unfold mix
  rw [if_neg (by omega), if_neg (by omega), if_neg (by omega), if_neg (by omega), if_pos (by omega)]
  omega
theorem mix_p {w : Nat} (h : w < 6) : mix (30 + w) = 61 + 4 * w := by
  unfold mix
  rw [if_neg (by omega), if_neg (by omega), if_neg (by omega), if_neg (by omega), if_neg (by omega), if_pos (by omega)]
  omega
theorem mix_t {w : Nat} (h : w < 6) : mix (36 + w) = 62 + 4 * w := by
  unfold mix
  rw [if_neg (by omega), if_neg (by omega), if_neg (by omega), if_neg (by omega), if_neg (by omega), if_neg (by omega), if_pos (by omega)]
  omega
theorem mc_sI {σ : Sg} {a n k : Nat} {v : Int32} (h : k < 44) (hn : n = mix k) : mc (sI σ a n v) a = upc (mc σ a) k v.toInt := by
  subst hn
  funext j
  show (if j < 44 then rd (sI σ a (mix k) v) a (mix j) else 0) = if j = k then v.toInt else (if j < 44 then rd σ a (mix j) else 0)
  by_cases e : j = k
  · subst e
    rw [if_pos h, rdeq]
    try rw [if_pos rfl]
  · rw [if_neg e]
    by_cases q : j < 44
    · rw [if_pos q, if_pos q, rdne2 (fun z => e (mix_inj q h z))]
    · rw [if_neg q, if_neg q]
theorem mc_sIo {σ : Sg} {a n : Nat} {v : Int32} (h : ∀ k, k < 44 → mix k ≠ n) : mc (sI σ a n v) a = mc σ a := by
  funext j
  unfold mc
  by_cases q : j < 44
  · rw [if_pos q, if_pos q, rdne2 (h j q)]
  · rw [if_neg q, if_neg q]
theorem mc_ne {σ : Sg} {a b k : Nat} {v : Int32} (h : a ≠ b) : mc (sI σ b k v) a = mc σ a := by
  funext j
  unfold mc
  rw [rdne h]
theorem mc_at {σ : Sg} {a k : Nat} (h : k < 44) : mc σ a k = rd σ a (mix k) := if_pos h
theorem Fr_mc {S : List (Nat × Nat × Nat)} {σ σ' : Sg} (h : Fr S σ σ') {a : Nat} (e : ∀ k, k < 84 → inS S a k = false) : mc σ' a = mc σ a := by
  funext j
  unfold mc
  by_cases q : j < 44
  · rw [if_pos q, if_pos q, h.rd (e _ (mix_lt q))]
  · rw [if_neg q, if_neg q]
