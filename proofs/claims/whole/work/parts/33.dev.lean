/-! NUMBERS: an Int32's integer, without conditions, for omega. -/
theorem ta (x y : Int32) : (x + y).toInt = (x.toInt + y.toInt + 2147483648) % 4294967296 - 2147483648 := by
  rw [Int32.toInt_add, Int.bmod_def]
  split <;> omega
theorem ts (x y : Int32) : (x - y).toInt = (x.toInt - y.toInt + 2147483648) % 4294967296 - 2147483648 := by
  rw [Int32.toInt_sub, Int.bmod_def]
  split <;> omega
theorem tm (x y : Int32) : (x * y).toInt = (x.toInt * y.toInt + 2147483648) % 4294967296 - 2147483648 := by
  rw [Int32.toInt_mul, Int.bmod_def]
  split <;> omega
theorem tn (x : Int32) : (-x).toInt = (-x.toInt + 2147483648) % 4294967296 - 2147483648 := by
  rw [Int32.toInt_neg, Int.bmod_def]
  split <;> omega
theorem tl0 : (0 : Int32).toInt = 0 := rfl
theorem tl1 : (1 : Int32).toInt = 1 := rfl
theorem tlm : (-1 : Int32).toInt = -1 := rfl
theorem tlit (n : Nat) : (OfNat.ofNat n : Int32).toInt = ((n : Int) + 2147483648) % 4294967296 - 2147483648 := by
  show (Int32.ofNat n).toInt = _
  rw [Int32.toInt_ofNat', Int.bmod_def]
  split <;> omega
theorem trng (x : Int32) : -2147483648 ≤ x.toInt ∧ x.toInt < 2147483648 := ⟨by have := Int32.le_toInt x; omega, by have := Int32.toInt_lt x; omega⟩
theorem ile (x y : Int32) : (x ≤ y) = (x.toInt ≤ y.toInt) := propext Int32.le_iff_toInt_le
theorem ilt (x y : Int32) : (x < y) = (x.toInt < y.toInt) := propext Int32.lt_iff_toInt_lt
theorem ieq (x y : Int32) : (x = y) = (x.toInt = y.toInt) := propext Int32.toInt_inj.symm
theorem ix_nat {x : Int32} {n : Nat} (h : x.toInt = (n : Int)) : ix x = n := by
  unfold ix
  rw [h]
  exact Int.toNat_natCast n
theorem ix_to {x : Int32} (h : 0 ≤ x.toInt) : ((ix x : Nat) : Int) = x.toInt := by
  unfold ix
  omega
theorem tests (w k : Int32) (h : 0 ≤ w.toInt ∧ w.toInt < 6) (hk : 0 ≤ k.toInt ∧ k.toInt < 8) : inb ((12 + 8 * w) + k) 4016 := by
  unfold inb
  simp only [ta, tm, tlit]
  omega
theorem sM_get {d : Nat} {Φ : Po} {σ : Sg} {w k : Int32} {n : Nat} (hn : n < 4016) (he : w.toInt * 8 + k.toInt + 12 = n) (hw : 0 ≤ w.toInt ∧ w.toInt < 1000) (hk : 0 ≤ k.toInt ∧ k.toInt < 8) (h : Φ (some (.int (gI σ 121 n))) σ) : wp true (d + 1) nM_get [.ref 120, .int w, .int k] σ Φ := by
  apply wM_get
  simp only [pI, pL, pR, pV, eM_get_0]
  have e : ((12 + 8 * w) + k).toInt = (n : Int) := by
    simp only [ta, tm, tlit]
    omega
  rw [ix_nat e]
  refine ⟨?_, h⟩
  unfold inb
  rw [e]
  omega
/-! THE STORE READ AS INTEGERS; what stays the same; the core of a world. -/
def rd (σ : Sg) (a k : Nat) : Int := (gI σ a k).toInt
theorem rd_def (σ : Sg) (a k : Nat) : (gI σ a k).toInt = rd σ a k := rfl
theorem rd_sI (σ : Sg) (a k : Nat) (v : Int32) (x y : Nat) : rd (sI σ a k v) x y = if x = a ∧ y = k then v.toInt else rd σ x y := by
  unfold rd
  rw [gI_sI]
  split <;> rfl
theorem rd_sL (σ : Sg) (a k : Nat) (v : Int64) (x y : Nat) : rd (sL σ a k v) x y = rd σ x y := rfl
theorem rd_sR (σ : Sg) (a k v : Nat) (x y : Nat) : rd (sR σ a k v) x y = rd σ x y := rfl
theorem gIne {σ : Sg} {a k : Nat} {v : Int32} {x y : Nat} (h : x ≠ a) : gI (sI σ a k v) x y = gI σ x y := by
  rw [gI_sI, if_neg (fun q => h q.1)]
theorem rdne {σ : Sg} {a k : Nat} {v : Int32} {x y : Nat} (h : x ≠ a) : rd (sI σ a k v) x y = rd σ x y := by
  unfold rd
  rw [gIne h]
theorem gIne2 {σ : Sg} {a k : Nat} {v : Int32} {x y : Nat} (h : y ≠ k) : gI (sI σ a k v) x y = gI σ x y := by
  rw [gI_sI, if_neg (fun q => h q.2)]
theorem rdne2 {σ : Sg} {a k : Nat} {v : Int32} {x y : Nat} (h : y ≠ k) : rd (sI σ a k v) x y = rd σ x y := by
  unfold rd
  rw [gIne2 h]
theorem gIeq {σ : Sg} {a k : Nat} {v : Int32} : gI (sI σ a k v) a k = v := by
  rw [gI_sI, if_pos ⟨rfl, rfl⟩]
theorem rdeq {σ : Sg} {a k : Nat} {v : Int32} : rd (sI σ a k v) a k = v.toInt := by
  unfold rd
  rw [gIeq]
/-! numbers, with conditions -/
theorem tP {x y : Int32} (h : -2147483648 ≤ x.toInt + y.toInt ∧ x.toInt + y.toInt < 2147483648) : (x + y).toInt = x.toInt + y.toInt := by
  rw [ta]; omega
theorem tM {x y : Int32} (h : -2147483648 ≤ x.toInt - y.toInt ∧ x.toInt - y.toInt < 2147483648) : (x - y).toInt = x.toInt - y.toInt := by
  rw [ts]; omega
theorem tX {x y : Int32} (h : -2147483648 ≤ x.toInt * y.toInt ∧ x.toInt * y.toInt < 2147483648) : (x * y).toInt = x.toInt * y.toInt := by
  rw [tm]; omega
theorem tN {x : Int32} (h : x.toInt ≠ -2147483648) : (-x).toInt = -x.toInt := by
  have := trng x
  rw [tn]; omega
theorem tD {x y : Int32} (h : 0 ≤ x.toInt) (h2 : 0 < y.toInt) : (x / y).toInt = x.toInt / y.toInt := by
  rw [Int32.toInt_div_of_ne_right _ _ (fun e => by rw [e] at h2; exact absurd h2 (by decide)), Int.tdiv_eq_ediv_of_nonneg h]
theorem tDt {x y : Int32} (h2 : y.toInt ≠ -1) : (x / y).toInt = x.toInt.tdiv y.toInt := by
  rw [Int32.toInt_div_of_ne_right _ _ (fun e => h2 (by rw [e]; rfl))]
theorem tR {x y : Int32} (h : 0 ≤ x.toInt) : (x % y).toInt = x.toInt % y.toInt := by
  rw [Int32.toInt_mod, Int.tmod_eq_emod_of_nonneg h]
theorem ix_of {x : Int32} {n : Nat} (h : x.toInt = (n : Int)) : ix x = n := ix_nat h
theorem ixk {k x : Int32} {n : Nat} (hk : k.toInt = (n : Int)) (h : n < 1000000 ∧ 0 ≤ x.toInt ∧ x.toInt < 1000000) : ix (k + x) = n + ix x := by
  refine ix_nat ?_
  have := ix_to h.2.1
  rw [ta, hk]
  omega
theorem tk {k x : Int32} {n : Nat} (hk : k.toInt = (n : Int)) (h : n < 1000000 ∧ -1000000 ≤ x.toInt ∧ x.toInt < 1000000) : (k + x).toInt = n + x.toInt := by
  rw [ta, hk]
  omega
theorem inb_k {k x : Int32} {n N : Nat} (hk : k.toInt = (n : Int)) (h : n < 1000000 ∧ 0 ≤ x.toInt ∧ x.toInt < 1000000) (hN : n + x.toInt < N) : inb (k + x) N := by
  unfold inb
  rw [tk hk ⟨h.1, by omega, h.2.2⟩]
  omega
theorem ix1 {x : Int32} (h : 0 ≤ x.toInt ∧ x.toInt < 1000000) : ix (x + 1) = ix x + 1 := by
  refine ix_nat ?_
  have := ix_to h.1
  rw [ta, tl1]
  omega
theorem t1 {x : Int32} (h : -1000000 ≤ x.toInt ∧ x.toInt < 1000000) : (x + 1).toInt = x.toInt + 1 := by
  rw [ta, tl1]
  omega
theorem ixz {x : Int32} (h : x.toInt = 0) : ix x = 0 := ix_nat h
theorem inb_i {i : Int32} {n : Nat} (h : 0 ≤ i.toInt ∧ i.toInt < (n : Int)) : inb i n := h
theorem zB_1 : zB 1 = true := rfl
theorem zB_0 : zB 0 = true := rfl
theorem zB_v {v : Int32} (h : v.toInt = 0 ∨ v.toInt = 1) : zB v = true := by
  have : v = 0 ∨ v = 1 := by
    rcases h with h | h
    · exact Or.inl (Int32.toInt_inj.1 h)
    · exact Or.inr (Int32.toInt_inj.1 h)
  rcases this with rfl | rfl <;> rfl
theorem ne0 {v : Int32} (h : v.toInt ≠ 0) : ¬ (v = 0) := fun e => h (by rw [e]; rfl)
theorem eq0 {v : Int32} (h : v.toInt = 0) : v = 0 := Int32.toInt_inj.1 h
theorem eqv {v w : Int32} (h : v.toInt = w.toInt) : v = w := Int32.toInt_inj.1 h
/-! what stays the same, but for some cells -/
def inS (S : List (Nat × Nat × Nat)) (a k : Nat) : Bool := S.any (fun e => Nat.beq e.1 a && (Nat.ble e.2.1 k && Nat.blt k e.2.2))
def Fr (S : List (Nat × Nat × Nat)) (σ σ' : Sg) : Prop := (∀ a k, inS S a k = false → gI σ' a k = gI σ a k) ∧ (∀ a k, inS S a k = false → gL σ' a k = gL σ a k) ∧ (∀ a k, inS S a k = false → gR σ' a k = gR σ a k) ∧ ln σ' = ln σ
theorem Fr.rf {S : List (Nat × Nat × Nat)} {σ : Sg} : Fr S σ σ := ⟨fun _ _ _ => rfl, fun _ _ _ => rfl, fun _ _ _ => rfl, rfl⟩
theorem Fr.tr {S : List (Nat × Nat × Nat)} {a b c : Sg} (h : Fr S a b) (g : Fr S b c) : Fr S a c := ⟨fun x k e => (g.1 x k e).trans (h.1 x k e), fun x k e => (g.2.1 x k e).trans (h.2.1 x k e), fun x k e => (g.2.2.1 x k e).trans (h.2.2.1 x k e), g.2.2.2.trans h.2.2.2⟩
theorem inS_sub {S T : List (Nat × Nat × Nat)} (hs : ∀ e, e ∈ S → e ∈ T) {a k : Nat} (h : inS T a k = false) : inS S a k = false := by
  unfold inS at *
  rw [List.any_eq_false] at *
  intro e he
  exact h e (hs e he)
theorem Fr.mo {S T : List (Nat × Nat × Nat)} {a b : Sg} (hs : ∀ e, e ∈ S → e ∈ T) (h : Fr S a b) : Fr T a b := ⟨fun x k e => h.1 x k (inS_sub hs e), fun x k e => h.2.1 x k (inS_sub hs e), fun x k e => h.2.2.1 x k (inS_sub hs e), h.2.2.2⟩
theorem Fr.rd {S : List (Nat × Nat × Nat)} {a b : Sg} (h : Fr S a b) {x k : Nat} (e : inS S x k = false) : rd b x k = rd a x k := by
  show (gI b x k).toInt = (gI a x k).toInt
  rw [h.1 x k e]
theorem Fr.sI {S : List (Nat × Nat × Nat)} {σ : Sg} {a k : Nat} {v : Int32} (e : inS S a k = true) : Fr S σ (sI σ a k v) := by
  refine ⟨fun x y h => ?_, fun _ _ _ => rfl, fun _ _ _ => rfl, rfl⟩
  rw [gI_sI, if_neg]
  rintro ⟨rfl, rfl⟩
  rw [e] at h
  cases h
theorem Fr.sL {S : List (Nat × Nat × Nat)} {σ : Sg} {a k : Nat} {v : Int64} (e : inS S a k = true) : Fr S σ (sL σ a k v) := by
  refine ⟨fun _ _ _ => rfl, fun x y h => ?_, fun _ _ _ => rfl, rfl⟩
  rw [gL_sL, if_neg]
  rintro ⟨rfl, rfl⟩
  rw [e] at h
  cases h
theorem Fr.sR {S : List (Nat × Nat × Nat)} {σ : Sg} {a k v : Nat} (e : inS S a k = true) : Fr S σ (sR σ a k v) := by
  refine ⟨fun _ _ _ => rfl, fun _ _ _ => rfl, fun x y h => ?_, rfl⟩
  rw [gR_sR, if_neg]
  rintro ⟨rfl, rfl⟩
  rw [e] at h
  cases h
theorem Fr.cp {S : List (Nat × Nat × Nat)} {σ : Sg} {a sp b dp n : Nat} (e : ∀ k, dp ≤ k → k < dp + n → inS S b k = true) : Fr S σ (cpI σ a sp b dp n) := by
  refine ⟨fun x y h => ?_, fun _ _ _ => rfl, fun _ _ _ => rfl, rfl⟩
  rw [gI_cpI]
  by_cases hx : x = b
  · rw [if_pos hx]
    subst hx
    by_cases hy : dp ≤ y ∧ y < dp + n
    · rw [e y hy.1 hy.2] at h
      cases h
    · rw [if_neg hy]
  · rw [if_neg hx]
theorem inS_r {a k lo hi : Nat} {S : List (Nat × Nat × Nat)} (hm : (a, lo, hi) ∈ S) (h : lo ≤ k ∧ k < hi) : inS S a k = true := by
  unfold inS
  rw [List.any_eq_true]
  refine ⟨_, hm, ?_⟩
  show (Nat.beq a a && (Nat.ble lo k && Nat.blt k hi)) = true
  rw [Nat.beq_refl, Nat.ble_eq_true_of_le h.1]
  exact Nat.ble_eq_true_of_le h.2
/-! THE CORE: OWED 0, FORCE 6, WEIGHT 12, DUE 18, GONE 24 (of six winds), PURSE 30, TAKEN 36 (of six villages), DAY 42, X 43 -/
abbrev Co : Type := Nat → Int
def upd (c : Co) (k : Nat) (v : Int) : Co := fun x => if x = k then v else c x
theorem upd_eq {c : Co} {k : Nat} {v : Int} : upd c k v k = v := if_pos rfl
theorem upd_ne {c : Co} {k : Nat} {v : Int} {j : Nat} (h : j ≠ k) : upd c k v j = c j := if_neg h
/-- the class's row as a core; the object a is the row -/
def rc (σ : Sg) (a : Nat) : Co := fun k => if k < 44 then rd σ a k else 0
theorem rc_at {σ : Sg} {a k : Nat} (h : k < 44) : rc σ a k = rd σ a k := if_pos h
theorem rc_sI {σ : Sg} {a k : Nat} {v : Int32} (h : k < 44) : rc (sI σ a k v) a = upd (rc σ a) k v.toInt := by
  funext j
  unfold rc upd
  rw [rd_sI]
  by_cases e : j = k
  · subst e
    rw [if_pos h, if_pos ⟨rfl, rfl⟩, if_pos rfl]
  · rw [if_neg (fun q => e q.2), if_neg e]
theorem rc_sIb {σ : Sg} {a k : Nat} {v : Int32} (h : 44 ≤ k) : rc (sI σ a k v) a = rc σ a := by
  funext j
  unfold rc
  by_cases e : j < 44
  · rw [if_pos e, if_pos e, rdne2 (by omega)]
  · rw [if_neg e, if_neg e]
theorem rc_ne {σ : Sg} {a b k : Nat} {v : Int32} (h : a ≠ b) : rc (sI σ b k v) a = rc σ a := by
  funext j
  unfold rc
  rw [rdne h]
theorem Fr.rc {S : List (Nat × Nat × Nat)} {σ σ' : Sg} (h : Fr S σ σ') {a : Nat} (e : ∀ k, k < 44 → inS S a k = false) : rc σ' a = rc σ a := by
  funext j
  unfold _root_.rc
  by_cases q : j < 44
  · rw [if_pos q, if_pos q, h.rd (e j q)]
  · rw [if_neg q, if_neg q]
/-- where the reference's array has a core's cell -/
def mix (k : Nat) : Nat := if k < 6 then 15 + 8 * k else if k < 12 then 16 + 8 * (k - 6) else if k < 18 then 13 + 8 * (k - 12) else if k < 24 then 14 + 8 * (k - 18) else if k < 30 then 17 + 8 * (k - 24) else if k < 36 then 61 + 4 * (k - 30) else if k < 42 then 62 + 4 * (k - 36) else k - 34
def mc (σ : Sg) (a : Nat) : Co := fun k => if k < 44 then rd σ a (mix k) else 0
theorem mix_lt {k : Nat} (h : k < 44) : mix k < 84 := by
  unfold mix
  repeat' split
  all_goals omega
theorem mix_inj {j k : Nat} (hj : j < 44) (hk : k < 44) (h : mix j = mix k) : j = k := by
  unfold mix at h
  repeat' split at h
  all_goals omega
theorem mix_o {w : Nat} (h : w < 6) : mix w = 15 + 8 * w := if_pos h
theorem mix_f {w : Nat} (h : w < 6) : mix (6 + w) = 16 + 8 * w := by
  unfold mix
  rw [if_neg (by omega), if_pos (by omega)]
  omega
theorem mix_w {w : Nat} (h : w < 6) : mix (12 + w) = 13 + 8 * w := by
  unfold mix
  rw [if_neg (by omega), if_neg (by omega), if_pos (by omega)]
  omega
theorem mix_d {w : Nat} (h : w < 6) : mix (18 + w) = 14 + 8 * w := by
  unfold mix
  rw [if_neg (by omega), if_neg (by omega), if_neg (by omega), if_pos (by omega)]
  omega
theorem mix_g {w : Nat} (h : w < 6) : mix (24 + w) = 17 + 8 * w := by
  unfold mix
  rw [if_neg (by omega), if_neg (by omega), if_neg (by omega), if_neg (by omega), if_pos (by omega)]
  omega
theorem mix_p {w : Nat} (h : w < 6) : mix (30 + w) = 61 + 4 * w := by
  unfold mix
  rw [if_neg (by omega), if_neg (by omega), if_neg (by omega), if_neg (by omega), if_neg (by omega), if_pos (by omega)]
  omega
theorem mix_t {w : Nat} (h : w < 6) : mix (36 + w) = 62 + 4 * w := by
  unfold mix
  rw [if_neg (by omega), if_neg (by omega), if_neg (by omega), if_neg (by omega), if_neg (by omega), if_neg (by omega), if_pos (by omega)]
  omega
theorem mc_sI {σ : Sg} {a n k : Nat} {v : Int32} (h : k < 44) (hn : n = mix k) : mc (sI σ a n v) a = upd (mc σ a) k v.toInt := by
  subst hn
  funext j
  unfold mc upd
  by_cases e : j = k
  · subst e
    rw [if_pos h, rdeq, if_pos rfl]
  · rw [if_neg e]
    by_cases q : j < 44
    · rw [if_pos q, if_pos q, rdne2 (fun z => e (mix_inj q h z))]
    · rw [if_neg q, if_neg q]
theorem mc_sIo {σ : Sg} {a n : Nat} {v : Int32} (h : ∀ k, k < 44 → mix k ≠ n) : mc (sI σ a n v) a = mc σ a := by
  funext j
  unfold mc
  by_cases q : j < 44
  · rw [if_pos q, if_pos q, rdne2 (h j q)]
  · rw [if_neg q, if_neg q]
theorem mc_ne {σ : Sg} {a b k : Nat} {v : Int32} (h : a ≠ b) : mc (sI σ b k v) a = mc σ a := by
  funext j
  unfold mc
  rw [rdne h]
theorem mc_at {σ : Sg} {a k : Nat} (h : k < 44) : mc σ a k = rd σ a (mix k) := if_pos h
theorem Fr.mc {S : List (Nat × Nat × Nat)} {σ σ' : Sg} (h : Fr S σ σ') {a : Nat} (e : ∀ k, k < 84 → inS S a k = false) : mc σ' a = mc σ a := by
  funext j
  unfold _root_.mc
  by_cases q : j < 44
  · rw [if_pos q, if_pos q, h.rd (e _ (mix_lt q))]
  · rw [if_neg q, if_neg q]
/-! LEAVES: numbers' own methods -/
theorem jle (x y : Int64) : (x ≤ y) = (x.toInt ≤ y.toInt) := propext Int64.le_iff_toInt_le
theorem jlt (x y : Int64) : (x < y) = (x.toInt < y.toInt) := propext Int64.lt_iff_toInt_lt
theorem jeq (x y : Int64) : (x = y) = (x.toInt = y.toInt) := propext Int64.toInt_inj.symm
theorem jrng (x : Int64) : -9223372036854775808 ≤ x.toInt ∧ x.toInt < 9223372036854775808 := ⟨by have := Int64.le_toInt x; omega, by have := Int64.toInt_lt x; omega⟩
theorem jP {x y : Int64} (h : -9223372036854775808 ≤ x.toInt + y.toInt ∧ x.toInt + y.toInt < 9223372036854775808) : (x + y).toInt = x.toInt + y.toInt := by
  rw [Int64.toInt_add, Int.bmod_def]; split <;> omega
theorem jM {x y : Int64} (h : -9223372036854775808 ≤ x.toInt - y.toInt ∧ x.toInt - y.toInt < 9223372036854775808) : (x - y).toInt = x.toInt - y.toInt := by
  rw [Int64.toInt_sub, Int.bmod_def]; split <;> omega
theorem jX {x y : Int64} (h : -9223372036854775808 ≤ x.toInt * y.toInt ∧ x.toInt * y.toInt < 9223372036854775808) : (x * y).toInt = x.toInt * y.toInt := by
  rw [Int64.toInt_mul, Int.bmod_def]; split <;> omega
theorem jN {x : Int64} (h : x.toInt ≠ -9223372036854775808) : (-x).toInt = -x.toInt := by
  have := jrng x
  rw [Int64.toInt_neg, Int.bmod_def]; split <;> omega
theorem jDt {x y : Int64} (h : y.toInt ≠ -1 ∨ x.toInt ≠ -9223372036854775808) : (x / y).toInt = x.toInt.tdiv y.toInt := by
  rcases h with h | h
  · rw [Int64.toInt_div_of_ne_right _ _ (fun e => h (by rw [e]; rfl))]
  · rw [Int64.toInt_div_of_ne_left _ _ (fun e => h (by rw [e]; rfl))]
theorem jRt {x y : Int64} : (x % y).toInt = x.toInt.tmod y.toInt := Int64.toInt_mod _ _
theorem j32 {x : Int64} (h : -2147483648 ≤ x.toInt ∧ x.toInt < 2147483648) : (Int64.toInt32 x).toInt = x.toInt := by
  rw [Int64.toInt_toInt32, Int.bmod_def]; split <;> omega
theorem sJ_max {d : Nat} {Φ : Po} {σ : Sg} {x y : Int32} (h : ∀ v : Int32, v.toInt = max x.toInt y.toInt → Φ (some (.int v)) σ) : wp true (d + 1) nJ_max [.int x, .int y] σ Φ := by
  apply wJ_max
  simp only [pI, pL, pR, pV, eJ_max_0, eJ_max_9, eJ_max_10]
  simp only [cond, zB_1, zB_0, ne_eq, not_false_eq_true, true_and, and_true, ↓reduceIte, lg_cmp_ge, lg_cmp_le, lg_cmp_gt, lg_cmp_lt, lg_cmp_eq, ile, ilt, ieq, jle, jlt, jeq, Int32.toInt_toInt64, Int32.reduceToInt, Int64.reduceToInt, Int32.reduceNeg, Int64.reduceNeg, Int.reduceNeg, Int.reduceEq, Int.reduceLT, Int.reduceLE, Nat.reduceEqDiff, and_self, and_false, false_and, reduceCtorEq]
  split
  · exact h _ (by omega)
  · exact h _ (by omega)
theorem sJ_min {d : Nat} {Φ : Po} {σ : Sg} {x y : Int32} (h : ∀ v : Int32, v.toInt = min x.toInt y.toInt → Φ (some (.int v)) σ) : wp true (d + 1) nJ_min [.int x, .int y] σ Φ := by
  apply wJ_min
  simp only [pI, pL, pR, pV, eJ_min_0, eJ_min_9, eJ_min_10]
  simp only [cond, zB_1, zB_0, ne_eq, not_false_eq_true, true_and, and_true, ↓reduceIte, lg_cmp_ge, lg_cmp_le, lg_cmp_gt, lg_cmp_lt, lg_cmp_eq, ile, ilt, ieq, jle, jlt, jeq, Int32.toInt_toInt64, Int32.reduceToInt, Int64.reduceToInt, Int32.reduceNeg, Int64.reduceNeg, Int.reduceNeg, Int.reduceEq, Int.reduceLT, Int.reduceLE, Nat.reduceEqDiff, and_self, and_false, false_and, reduceCtorEq]
  split
  · exact h _ (by omega)
  · exact h _ (by omega)
theorem sJ_maxL {d : Nat} {Φ : Po} {σ : Sg} {x y : Int64} (h : ∀ v : Int64, v.toInt = max x.toInt y.toInt → Φ (some (.long v)) σ) : wp true (d + 1) nJ_maxL [.long x, .long y] σ Φ := by
  apply wJ_maxL
  simp only [pI, pL, pR, pV, eJ_maxL_0, eJ_maxL_10, eJ_maxL_11]
  simp only [cond, zB_1, zB_0, ne_eq, not_false_eq_true, true_and, and_true, ↓reduceIte, lg_cmp_ge, lg_cmp_le, lg_cmp_gt, lg_cmp_lt, lg_cmp_eq, ile, ilt, ieq, jle, jlt, jeq, Int32.toInt_toInt64, Int32.reduceToInt, Int64.reduceToInt, Int32.reduceNeg, Int64.reduceNeg, Int.reduceNeg, Int.reduceEq, Int.reduceLT, Int.reduceLE, Nat.reduceEqDiff, and_self, and_false, false_and, reduceCtorEq]
  split
  · exact h _ (by omega)
  · exact h _ (by omega)
theorem sJ_minL {d : Nat} {Φ : Po} {σ : Sg} {x y : Int64} (h : ∀ v : Int64, v.toInt = min x.toInt y.toInt → Φ (some (.long v)) σ) : wp true (d + 1) nJ_minL [.long x, .long y] σ Φ := by
  apply wJ_minL
  simp only [pI, pL, pR, pV, eJ_minL_0, eJ_minL_10, eJ_minL_11]
  simp only [cond, zB_1, zB_0, ne_eq, not_false_eq_true, true_and, and_true, ↓reduceIte, lg_cmp_ge, lg_cmp_le, lg_cmp_gt, lg_cmp_lt, lg_cmp_eq, ile, ilt, ieq, jle, jlt, jeq, Int32.toInt_toInt64, Int32.reduceToInt, Int64.reduceToInt, Int32.reduceNeg, Int64.reduceNeg, Int.reduceNeg, Int.reduceEq, Int.reduceLT, Int.reduceLE, Nat.reduceEqDiff, and_self, and_false, false_and, reduceCtorEq]
  split
  · exact h _ (by omega)
  · exact h _ (by omega)
def iabs (x : Int) : Int := if 0 ≤ x then x else -x
theorem sJ_abs {d : Nat} {Φ : Po} {σ : Sg} {x : Int32} (hx : x.toInt ≠ -2147483648) (h : ∀ v : Int32, v.toInt = iabs x.toInt → Φ (some (.int v)) σ) : wp true (d + 1) nJ_abs [.int x] σ Φ := by
  apply wJ_abs
  simp only [pI, pL, pR, pV, eJ_abs_0, eJ_abs_9, eJ_abs_10]
  simp only [cond, zB_1, zB_0, ne_eq, not_false_eq_true, true_and, and_true, ↓reduceIte, lg_cmp_ge, lg_cmp_le, lg_cmp_gt, lg_cmp_lt, lg_cmp_eq, ile, ilt, ieq, jle, jlt, jeq, Int32.toInt_toInt64, Int32.reduceToInt, Int64.reduceToInt, Int32.reduceNeg, Int64.reduceNeg, Int.reduceNeg, Int.reduceEq, Int.reduceLT, Int.reduceLE, Nat.reduceEqDiff, and_self, and_false, false_and, reduceCtorEq]
  unfold iabs at h
  split
  · exact h _ (by rw [if_pos (by assumption)])
  · exact h _ (by rw [if_neg (by assumption), tN hx])
theorem xor_sign {x y : Int32} (hy : 0 ≤ y.toInt) : (0 ≤ (x ^^^ y).toInt) ↔ 0 ≤ x.toInt := by
  have e1 : (x ^^^ y).toBitVec.msb = decide ((x ^^^ y).toInt < 0) := BitVec.msb_eq_toInt
  have e2 : x.toBitVec.msb = decide (x.toInt < 0) := BitVec.msb_eq_toInt
  have e3 : y.toBitVec.msb = decide (y.toInt < 0) := BitVec.msb_eq_toInt
  rw [Int32.toBitVec_xor, BitVec.msb_xor, e2, e3, decide_eq_false (by omega : ¬ y.toInt < 0), Bool.xor_false] at e1
  have := decide_eq_decide.mp e1
  omega
theorem sJ_floorDiv {d : Nat} {Φ : Po} {σ : Sg} {x y : Int32} (hy : 0 < y.toInt) (h : ∀ v : Int32, v.toInt = x.toInt / y.toInt → Φ (some (.int v)) σ) : wp true (d + 1) nJ_floorDiv [.int x, .int y] σ Φ := by
  apply wJ_floorDiv
  simp only [pI, pL, pR, pV, eJ_floorDiv_0, eJ_floorDiv_21]
  have hx := trng x
  have hyr := trng y
  have e1 : (x / y).toInt = x.toInt.tdiv y.toInt := tDt (by omega)
  have hm : x.toInt.tdiv y.toInt * y.toInt + x.toInt.tmod y.toInt = x.toInt := Int.tdiv_mul_add_tmod _ _
  refine ⟨fun e => by rw [e] at hy; exact absurd hy (by decide), ?_⟩
  split
  next h0 =>
    rw [ile] at h0
    have h0 : 0 ≤ x.toInt := (xor_sign (by omega)).mp h0
    exact h _ (by rw [e1, Int.tdiv_eq_ediv_of_nonneg h0])
  next h0 =>
    rw [ile] at h0
    have h0 : ¬ 0 ≤ x.toInt := fun q => h0 ((xor_sign (by omega)).mpr q)
    have hr : -y.toInt < x.toInt.tmod y.toInt ∧ x.toInt.tmod y.toInt ≤ 0 := by
      have a1 : (-x.toInt).tmod y.toInt = -(x.toInt.tmod y.toInt) := Int.neg_tmod ..
      have a2 := Int.tmod_eq_emod_of_nonneg (b := y.toInt) (by omega : 0 ≤ -x.toInt)
      have a3 := Int.emod_lt_of_pos (-x.toInt) hy
      have a4 := Int.emod_nonneg (-x.toInt) (by omega : y.toInt ≠ 0)
      omega
    have ep : (x / y * y).toInt = x.toInt.tdiv y.toInt * y.toInt := by rw [tX (by rw [e1]; omega), e1]
    split
    next h1 =>
      rw [ieq, ep] at h1
      refine h _ ?_
      rw [e1]
      have : x.toInt.tmod y.toInt = 0 := by omega
      refine (Int.ediv_eq_of_eq_mul_left (by omega) ?_).symm
      omega
    next h1 =>
      rw [ieq, ep] at h1
      refine h _ ?_
      have b1 : -2147483648 ≤ x.toInt.tdiv y.toInt - 1 ∧ x.toInt.tdiv y.toInt - 1 < 2147483648 := by
        have c1 : x.toInt.tdiv y.toInt ≤ 0 := by
          apply Int.not_lt.mp
          intro q
          have : y.toInt ≤ x.toInt.tdiv y.toInt * y.toInt := Int.le_mul_of_one_le_left (by omega) (by omega)
          omega
        have c2 : x.toInt ≤ x.toInt.tdiv y.toInt - 1 + 1 := by
          have : x.toInt.tdiv y.toInt * y.toInt ≤ x.toInt.tdiv y.toInt * 1 := Int.mul_le_mul_of_nonpos_left (by omega) c1
          omega
        have : x.toInt ≠ x.toInt.tdiv y.toInt ∨ x.toInt ≠ -2147483648 := by
          apply Classical.or_iff_not_imp_left.mpr
          intro q e
          have q : x.toInt = x.toInt.tdiv y.toInt := Classical.not_not.mp q
          rw [← q] at hm h1
          have : x.toInt * y.toInt ≤ x.toInt * 1 := Int.mul_le_mul_of_nonpos_left (by omega) (by omega)
          omega
        omega
      rw [tM (by rw [e1]; exact b1), e1]
      show x.toInt.tdiv y.toInt - 1 = _
      have : x.toInt / y.toInt = x.toInt.tdiv y.toInt - 1 := by
        apply Int.ediv_emod_unique hy |>.mpr ?_ |>.1
        exact x.toInt.tmod y.toInt + y.toInt
        refine ⟨?_, by omega, by omega⟩
        rw [Int.mul_sub, Int.mul_comm y.toInt]
        omega
      rw [this]
/-! THE LAWS' MEANING: worlds' data that no day changes (winds, villages, quarters, roofs, laws of the ruling text); evaluation over two stacks -/
abbrev En : Type := Nat × Nat × (Nat → Int) × (Nat → Int) × (Nat → Option (List (Int × Int)))
def eN (E : En) : Nat := E.1
def eV (E : En) : Nat := E.2.1
def eQ (E : En) : Nat → Int := E.2.2.1
def eR (E : En) : Nat → Int := E.2.2.2.1
def eL (E : En) : Nat → Option (List (Int × Int)) := E.2.2.2.2
def clip (v : Int) : Int := if v < -1000000 then -1000000 else if 1000000 < v then 1000000 else v
def clamp (lo hi v : Int) : Int := if v < lo then lo else if hi < v then hi else v
def nmv (E : En) (c : Co) (w v f : Int) (k : Int) : Int :=
  if k = 0 then c 42 else if k = 5 then f else
  if k = 6 then (if v < 0 then 0 else eR E v.toNat) else if k = 7 then (if v < 0 then 0 else c (30 + v.toNat)) else
  if w < 0 then 0 else if k = 1 then eQ E w.toNat else if k = 2 then c w.toNat else if k = 3 then c (18 + w.toNat) else c (12 + w.toNat)
def dbt (E : En) (c : Co) (a : Int) : Int := if 0 ≤ a ∧ a < eN E then c a.toNat else 0
def rnd (a s : Int) : Int := if s = 0 then a else if a - a / s * s < a / s * s + s - a then a / s * s else a / s * s + s
def tw (o x y : Int) : Int := if o = 4 then x + y else if o = 5 then x - y else if o = 6 then x * y else if o = 7 then (if y = 0 then 0 else x.tdiv y) else rnd x (iabs y)
def cmq (o x y : Int) : Bool := if o = 10 then decide (x < y) else if o = 11 then decide (x ≤ y) else if o = 12 then decide (y < x) else if o = 13 then decide (y ≤ x) else if o = 14 then decide (x = y) else decide (x ≠ y)
def bi (b : Bool) : Int := cond b 1 0
def stp (E : En) (c : Co) (w v f : Int) (o a : Int) (s : List Int × List Int) : List Int × List Int :=
  if o = 0 then (a :: s.1, s.2) else if o = 1 then (nmv E c w v f a :: s.1, s.2) else
  if o = 2 then (dbt E c (s.1.headD 0) :: s.1.tail, s.2) else if o = 3 then (-(s.1.headD 0) :: s.1.tail, s.2) else
  if o < 10 then (clip (tw o (s.1.tail.headD 0) (s.1.headD 0)) :: s.1.tail.tail, s.2) else
  if o < 20 then (s.1.tail.tail, bi (cmq o (s.1.tail.headD 0) (s.1.headD 0)) :: s.2) else
  if o = 20 then (s.1, (1 - s.2.headD 0) :: s.2.tail) else
  if o = 21 then (s.1, (min (s.2.tail.headD 0) (s.2.headD 0)) :: s.2.tail.tail) else (s.1, (max (s.2.tail.headD 0) (s.2.headD 0)) :: s.2.tail.tail)
def evl (E : En) (c : Co) (w v f : Int) : List (Int × Int) → List Int × List Int → List Int × List Int
  | [], s => s
  | (o, a) :: r, s => evl E c w v f r (stp E c w v f o a s)
/-- a law's code is such that it reckons: l the law, a values and b truths ahead, a', b' behind -/
def Wf (l : Nat) : List (Int × Int) → Nat → Nat → Nat → Nat → Prop
  | [], a, b, a', b' => a = a' ∧ b = b'
  | (o, v) :: r, a, b, a', b' =>
    (o = 0 ∧ 0 ≤ v ∧ v ≤ 9999 ∧ a + b < 60 ∧ Wf l r (a + 1) b a' b') ∨
    (o = 1 ∧ 0 ≤ v ∧ v < 8 ∧ (6 ≤ v → l = 2 ∨ l = 3) ∧ a + b < 60 ∧ Wf l r (a + 1) b a' b') ∨
    ((o = 2 ∨ o = 3) ∧ 1 ≤ a ∧ Wf l r a b a' b') ∨
    (4 ≤ o ∧ o ≤ 8 ∧ 2 ≤ a ∧ Wf l r (a - 1) b a' b') ∨
    (10 ≤ o ∧ o ≤ 15 ∧ a = 2 ∧ Wf l r 0 (b + 1) a' b') ∨
    (o = 20 ∧ a = 0 ∧ 1 ≤ b ∧ Wf l r 0 b a' b') ∨
    ((o = 21 ∨ o = 22) ∧ a = 0 ∧ 2 ≤ b ∧ Wf l r 0 (b - 1) a' b')
/-- what stands in the class's code for (o, v) -/
def enc (o v : Int) : Int := if o = 0 then v else if o = 1 then 10000 + v else if o = 2 then 10010 else if o = 3 then 10009 else if o = 4 then 10019 else if o = 5 then 10020 else if o = 6 then 10021 else if o = 7 then 10022 else if o = 8 then 10023 else if o < 20 then o + 10003 else if o = 20 then 10008 else if o = 21 then 10012 else 10011
def lawE (E : En) (c : Co) (l : Nat) (w v f : Int) (ops : List (Int × Int)) : Int := if l = 0 then (evl E c w v f ops ([], [])).2.headD 0 else (evl E c w v f ops ([], [])).1.headD 0
def comesF (E : En) (c : Co) (w : Nat) : Bool := match eL E 0 with
  | none => true
  | some ops => decide (lawE E c 0 w (-1) (c (6 + w)) ops ≠ 0)
def blowsF (E : En) (c : Co) (w : Nat) : Int := clamp 0 9 (match eL E 1 with
  | none => (c w).tdiv 10
  | some ops => lawE E c 1 w (-1) (c (6 + w)) ops)
def duesF (E : En) (c : Co) (w : Nat) : Int := clamp 0 99 (match eL E 4 with
  | none => c (18 + w)
  | some ops => lawE E c 4 w (-1) (c (6 + w)) ops)
def takesF (E : En) (c : Co) (w v : Nat) (f : Int) : Int := clamp 0 99 (match eL E 2 with
  | none => f - eR E v
  | some ops => lawE E c 2 w v f ops)
def catchF (E : En) (c : Co) (w : Int) (v : Nat) (f : Int) : Int := clamp 0 99 (match eL E 3 with
  | none => if w = -1 then 0 else 3
  | some ops => lawE E c 3 w v f ops)
theorem clamp_r {lo hi v : Int} (h : lo ≤ hi) : lo ≤ clamp lo hi v ∧ clamp lo hi v ≤ hi := by
  unfold clamp
  repeat' split
  all_goals omega
/-- the core's bounds: n winds, nv villages -/
def Ok (E : En) (c : Co) : Prop := eN E ≤ 6 ∧ eV E ≤ 6 ∧ (0 ≤ c 42 ∧ c 42 ≤ 9999) ∧ (0 ≤ c 43 ∧ c 43 < 30427) ∧
  (∀ w, w < eN E → (0 ≤ eQ E w ∧ eQ E w ≤ 3) ∧ (-999 ≤ c w ∧ c w ≤ 9999) ∧ (0 ≤ c (6 + w) ∧ c (6 + w) ≤ 9) ∧ (1 ≤ c (12 + w) ∧ c (12 + w) ≤ 99) ∧ (0 ≤ c (18 + w) ∧ c (18 + w) ≤ 999) ∧ (c (24 + w) = 0 ∨ c (24 + w) = 1)) ∧
  (∀ v, v < eV E → (0 ≤ eR E v ∧ eR E v ≤ 9) ∧ (0 ≤ c (30 + v) ∧ c (30 + v) ≤ 9999) ∧ (0 ≤ c (36 + v) ∧ c (36 + v) ≤ 99 * c 42))
def LwOk (E : En) : Prop := ∀ l ops, l < 5 → eL E l = some ops → ops.length ≤ 300 ∧ Wf l ops 0 0 (if l = 0 then 0 else 1) (if l = 0 then 1 else 0)
def Bv (l : List Int) : Prop := ∀ x, x ∈ l → -1000000 ≤ x ∧ x ≤ 1000000
def Bt (l : List Int) : Prop := ∀ x, x ∈ l → x = 0 ∨ x = 1
theorem Bv.cons {x : Int} {l : List Int} (h : -1000000 ≤ x ∧ x ≤ 1000000) (g : Bv l) : Bv (x :: l) := by
  intro y hy
  rcases List.mem_cons.mp hy with rfl | hy
  · exact h
  · exact g y hy
theorem Bt.cons {x : Int} {l : List Int} (h : x = 0 ∨ x = 1) (g : Bt l) : Bt (x :: l) := by
  intro y hy
  rcases List.mem_cons.mp hy with rfl | hy
  · exact h
  · exact g y hy
theorem clip_r (v : Int) : -1000000 ≤ clip v ∧ clip v ≤ 1000000 := by
  unfold clip
  repeat' split
  all_goals omega
theorem nmv_r {E : En} {c : Co} (hO : Ok E c) {w v f k : Int} (hw : w = -1 ∨ (0 ≤ w ∧ w < eN E)) (hv : v = -1 ∨ (0 ≤ v ∧ v < eV E)) (hf : 0 ≤ f ∧ f ≤ 9) : -1000000 ≤ nmv E c w v f k ∧ nmv E c w v f k ≤ 1000000 := by
  obtain ⟨h1, h2, h3, h4, h6, h7⟩ := hO
  unfold nmv
  have a1 : ∀ (_ : ¬ w < 0), w.toNat < eN E := fun q => by omega
  have a2 : ∀ (_ : ¬ v < 0), v.toNat < eV E := fun q => by omega
  repeat' split
  all_goals try omega
  all_goals first
    | (have := h6 _ (a1 (by assumption)); omega)
    | (have := h7 _ (a2 (by assumption)); omega)
theorem dbt_r {E : En} {c : Co} (hO : Ok E c) (a : Int) : -1000000 ≤ dbt E c a ∧ dbt E c a ≤ 1000000 := by
  obtain ⟨h1, h2, h3, h4, h6, h7⟩ := hO
  unfold dbt
  split
  · have := h6 a.toNat (by omega)
    omega
  · omega
theorem bi_r (b : Bool) : bi b = 0 ∨ bi b = 1 := by cases b <;> simp [bi]
/-! THE CLASS'S LAWS -/
def CodeAt (σ : Sg) (t : Nat) : Nat → List (Int × Int) → Prop
  | _, [] => True
  | i, (o, v) :: r => rd σ (89 + 5 * t) i = enc o v ∧ CodeAt σ t (i + 1) r
def TxL (σ : Sg) (t l : Nat) (x : Option (List (Int × Int))) : Prop := match x with
  | none => rd σ (90 + 5 * t) l = -1
  | some ops => 0 ≤ rd σ (90 + 5 * t) l ∧ rd σ (91 + 5 * t) l = rd σ (90 + 5 * t) l + ops.length ∧ rd σ (91 + 5 * t) l ≤ 300 ∧ CodeAt σ t (rd σ (90 + 5 * t) l).toNat ops
def CT (σ : Sg) (E : En) : Prop := (0 ≤ rd σ 1 9 ∧ rd σ 1 9 ≤ 4) ∧ (-1 ≤ rd σ 1 10 ∧ rd σ 1 10 < rd σ 1 9) ∧ (rd σ 1 10 = -1 → ∀ l, eL E l = none) ∧ (∀ t : Nat, t < 4 → rd σ 1 10 = t → ∀ l, l < 5 → TxL σ t l (eL E l))
/-- the class's world holds E -/
def CE (σ : Sg) (E : En) : Prop := rd σ 1 4 = eN E ∧ rd σ 1 6 = eV E ∧ (∀ w, w < 6 → rd σ 34 w = eQ E w) ∧ (∀ v, v < 6 → rd σ 35 v = eR E v) ∧ CT σ E ∧ LwOk E
theorem CodeAt.fr {S : List (Nat × Nat × Nat)} {σ σ' : Sg} (h : Fr S σ σ') {t : Nat} (e : ∀ k, inS S (89 + 5 * t) k = false) : ∀ (ops : List (Int × Int)) (i : Nat), CodeAt σ t i ops → CodeAt σ' t i ops
  | [], _, _ => trivial
  | (o, v) :: r, i, ⟨h1, h2⟩ => ⟨(h.rd (e i)).trans h1, CodeAt.fr h e r (i + 1) h2⟩
theorem CE.fr {S : List (Nat × Nat × Nat)} {σ σ' : Sg} (h : Fr S σ σ') (e1 : inS S 1 4 = false ∧ inS S 1 6 = false ∧ inS S 1 9 = false ∧ inS S 1 10 = false) (e2 : ∀ a k, (a = 34 ∨ a = 35 ∨ (88 ≤ a ∧ a < 108)) → inS S a k = false) {E : En} (g : CE σ E) : CE σ' E := by
  obtain ⟨g1, g2, g3, g4, ⟨g5, g6, g7, g8⟩, g9⟩ := g
  refine ⟨(h.rd e1.1).trans g1, (h.rd e1.2.1).trans g2, fun w hw => (h.rd (e2 _ _ (Or.inl rfl))).trans (g3 w hw), fun w hw => (h.rd (e2 _ _ (Or.inr (Or.inl rfl)))).trans (g4 w hw), ⟨?_, ?_, ?_, ?_⟩, g9⟩
  · rw [h.rd e1.2.2.1]; exact g5
  · rw [h.rd e1.2.2.1, h.rd e1.2.2.2]; exact g6
  · rw [h.rd e1.2.2.2]; exact g7
  · rw [h.rd e1.2.2.2]
    intro t ht hr l hl
    have g := g8 t ht hr l hl
    have a0 : ∀ k, inS S (89 + 5 * t) k = false := fun k => e2 _ _ (by omega)
    have a1 : ∀ k, inS S (90 + 5 * t) k = false := fun k => e2 _ _ (by omega)
    have a2 : ∀ k, inS S (91 + 5 * t) k = false := fun k => e2 _ _ (by omega)
    unfold TxL at *
    cases hx : eL E l with
    | none =>
      rw [hx] at g
      show rd σ' (90 + 5 * t) l = -1
      rw [h.rd (a1 l)]
      exact g
    | some ops =>
      rw [hx] at g
      show 0 ≤ rd σ' (90 + 5 * t) l ∧ rd σ' (91 + 5 * t) l = rd σ' (90 + 5 * t) l + ops.length ∧ rd σ' (91 + 5 * t) l ≤ 300 ∧ CodeAt σ' t (rd σ' (90 + 5 * t) l).toNat ops
      rw [h.rd (a1 l), h.rd (a2 l)]
      obtain ⟨b1, b2, b3, b4⟩ := g
      exact ⟨b1, b2, b3, CodeAt.fr h a0 _ _ b4⟩
def SkL (σ : Sg) : List Int → Prop
  | [] => True
  | x :: r => rd σ 109 r.length = x ∧ SkL σ r
theorem SkL_keep {σ : Sg} {n : Nat} {v : Int32} : ∀ (l : List Int), l.length ≤ n → SkL σ l → SkL (sI σ 109 n v) l
  | [], _, _ => trivial
  | x :: r, h, ⟨h1, h2⟩ => ⟨(rdne2 (by simp at h; omega)).trans h1, SkL_keep r (by simp at h; omega) h2⟩
theorem SkL_push {σ : Sg} {n : Nat} {v : Int32} {l : List Int} (h : l.length = n) (g : SkL σ l) : SkL (sI σ 109 n v) (v.toInt :: l) := by
  refine ⟨?_, SkL_keep l (by omega) g⟩
  rw [h, rdeq]
/-- the class reads a name -/
theorem sL_named {d : Nat} {Φ : Po} {σ : Sg} {E : En} {k w v f : Int32} {j : Int} (hE : CE σ E) (hN : eN E ≤ 6 ∧ eV E ≤ 6) (hw : w.toInt = -1 ∨ (0 ≤ w.toInt ∧ w.toInt < eN E)) (hv : v.toInt = -1 ∨ (0 ≤ v.toInt ∧ v.toInt < eV E)) (hk : k.toInt = 10000 + j) (hj : 0 ≤ j ∧ j < 8) (h : ∀ r : Int32, r.toInt = nmv E (rc σ 2) w.toInt v.toInt f.toInt j → Φ (some (.int r)) σ) : wp true (d + 1) nL_named [.ref 108, .int k, .int w, .int v, .int f] σ Φ := by
  apply wL_named
  simp only [pI, pL, pR, pV, eL_named_0, eL_named_9, eL_named_10, eL_named_60, eL_named_71, eL_named_80, eL_named_89, eL_named_90, eL_named_99, eL_named_110, eL_named_111, eL_named_120, eL_named_132, eL_named_133, eL_named_142, eL_named_154, eL_named_155, eL_named_158, eL_named_167, eL_named_176, eL_named_177, eL_named_186, eL_named_198, eL_named_199]
  obtain ⟨g1, g2, g3, g4, g5⟩ := hE
  unfold nmv at h
  have cn : (w = -1) = (w.toInt = -1) := by rw [ieq]; rfl
  have cv : (v = -1) = (v.toInt = -1) := by rw [ieq]; rfl
  simp only [hk, cn, cv]
  have hwi : 0 ≤ w.toInt → ix w = w.toInt.toNat := fun _ => rfl
  have e0 : ∀ (_ : 0 ≤ w.toInt), ix (0 + w) = w.toInt.toNat := fun q => by rw [ixk (n := 0) rfl (by omega)]; unfold ix; omega
  have e18 : ∀ (_ : 0 ≤ w.toInt), ix (18 + w) = 18 + w.toInt.toNat := fun q => by rw [ixk (n := 18) rfl (by omega)]; rfl
  have e12 : ∀ (_ : 0 ≤ w.toInt), ix (12 + w) = 12 + w.toInt.toNat := fun q => by rw [ixk (n := 12) rfl (by omega)]; rfl
  have e30 : ∀ (_ : 0 ≤ v.toInt), ix (30 + v) = 30 + v.toInt.toNat := fun q => by rw [ixk (n := 30) rfl (by omega)]; rfl
  have j8 : j = 0 ∨ j = 1 ∨ j = 2 ∨ j = 3 ∨ j = 4 ∨ j = 5 ∨ j = 6 ∨ j = 7 := by omega
  rcases hw with hw | hw
  · simp only [hw, ↓reduceIte]
    rcases j8 with rfl | rfl | rfl | rfl | rfl | rfl | rfl | rfl
    · exact ⟨⟨by decide, by decide⟩, h _ rfl⟩
    · exact h _ (by rw [hw]; rfl)
    · exact h _ (by rw [hw]; rfl)
    · exact h _ (by rw [hw]; rfl)
    · exact h _ (by rw [hw]; rfl)
    · exact h _ rfl
    · simp only [Int.reduceAdd, Int.reduceEq, ↓reduceIte]
      rcases hv with hv | hv
      · rw [if_pos hv]
        exact h _ (by rw [hv]; rfl)
      · rw [if_neg (by omega)]
        refine ⟨⟨hv.1, by omega⟩, h _ ?_⟩
        simp only [Int.reduceEq, ↓reduceIte]
        rw [if_neg (by omega)]
        exact g4 _ (by omega)
    · simp only [Int.reduceAdd, Int.reduceEq, ↓reduceIte]
      rcases hv with hv | hv
      · rw [if_pos hv]
        exact h _ (by rw [hv]; rfl)
      · rw [if_neg (by omega)]
        refine ⟨inb_k (n := 30) rfl (by omega) (by omega), h _ ?_⟩
        simp only [Int.reduceEq, ↓reduceIte]
        rw [if_neg (by omega), e30 hv.1]
        exact (rc_at (by omega)).symm
  · rw [if_neg (by omega)]
    have n0 : ¬ (w.toInt < 0) := by omega
    simp only [tl0, ↓reduceIte]
    rcases j8 with rfl | rfl | rfl | rfl | rfl | rfl | rfl | rfl
    · exact ⟨⟨by decide, by decide⟩, h _ rfl⟩
    · refine ⟨⟨hw.1, by omega⟩, h _ ?_⟩
      simp only [Int.reduceEq, ↓reduceIte, n0]
      exact g3 _ (by omega)
    · refine ⟨inb_k (n := 0) rfl (by omega) (by omega), h _ ?_⟩
      simp only [Int.reduceEq, ↓reduceIte, n0]
      rw [e0 hw.1]
      exact (rc_at (by omega)).symm
    · refine ⟨inb_k (n := 18) rfl (by omega) (by omega), h _ ?_⟩
      simp only [Int.reduceEq, ↓reduceIte, n0]
      rw [e18 hw.1]
      exact (rc_at (by omega)).symm
    · refine ⟨inb_k (n := 12) rfl (by omega) (by omega), h _ ?_⟩
      simp only [Int.reduceEq, ↓reduceIte, n0]
      rw [e12 hw.1]
      exact (rc_at (by omega)).symm
    · exact h _ rfl
    · simp only [Int.reduceAdd, Int.reduceEq, ↓reduceIte]
      rcases hv with hv | hv
      · rw [if_pos hv]
        exact h _ (by rw [hv]; rfl)
      · rw [if_neg (by omega)]
        refine ⟨⟨hv.1, by omega⟩, h _ ?_⟩
        simp only [Int.reduceEq, ↓reduceIte]
        rw [if_neg (by omega)]
        exact g4 _ (by omega)
    · simp only [Int.reduceAdd, Int.reduceEq, ↓reduceIte]
      rcases hv with hv | hv
      · rw [if_pos hv]
        exact h _ (by rw [hv]; rfl)
      · rw [if_neg (by omega)]
        refine ⟨inb_k (n := 30) rfl (by omega) (by omega), h _ ?_⟩
        simp only [Int.reduceEq, ↓reduceIte]
        rw [if_neg (by omega), e30 hv.1]
        exact (rc_at (by omega)).symm
theorem sW_isWind {d : Nat} {Φ : Po} {σ : Sg} {w : Int32} (h1 : 0 ≤ w.toInt ∧ w.toInt < rd σ 1 4 → Φ (some (.int 1)) σ) (h0 : ¬ (0 ≤ w.toInt ∧ w.toInt < rd σ 1 4) → Φ (some (.int 0)) σ) : wp true (d + 1) nW_isWind [.ref 1, .int w] σ Φ := by
  apply wW_isWind
  simp only [pI, pL, pR, pV, eW_isWind_0, eW_isWind_16, eW_isWind_17]
  simp only [cond, zB_1, zB_0, ne_eq, not_false_eq_true, true_and, and_true, ↓reduceIte, lg_cmp_ge, lg_cmp_le, lg_cmp_gt, lg_cmp_lt, lg_cmp_eq, ile, ilt, ieq, jle, jlt, jeq, Int32.toInt_toInt64, Int32.reduceToInt, Int64.reduceToInt, Int32.reduceNeg, Int64.reduceNeg, Int.reduceNeg, Int.reduceEq, Int.reduceLT, Int.reduceLE, Nat.reduceEqDiff, and_self, and_false, false_and, reduceCtorEq]
  simp only [rd_def]
  split
  · exact h0 (by omega)
  · split
    · exact h0 (by omega)
    · exact h1 (by omega)
theorem sW_isVillage {d : Nat} {Φ : Po} {σ : Sg} {w : Int32} (h1 : 0 ≤ w.toInt ∧ w.toInt < rd σ 1 6 → Φ (some (.int 1)) σ) (h0 : ¬ (0 ≤ w.toInt ∧ w.toInt < rd σ 1 6) → Φ (some (.int 0)) σ) : wp true (d + 1) nW_isVillage [.ref 1, .int w] σ Φ := by
  apply wW_isVillage
  simp only [pI, pL, pR, pV, eW_isVillage_0, eW_isVillage_16, eW_isVillage_17]
  simp only [cond, zB_1, zB_0, ne_eq, not_false_eq_true, true_and, and_true, ↓reduceIte, lg_cmp_ge, lg_cmp_le, lg_cmp_gt, lg_cmp_lt, lg_cmp_eq, ile, ilt, ieq, jle, jlt, jeq, Int32.toInt_toInt64, Int32.reduceToInt, Int64.reduceToInt, Int32.reduceNeg, Int64.reduceNeg, Int.reduceNeg, Int.reduceEq, Int.reduceLT, Int.reduceLE, Nat.reduceEqDiff, and_self, and_false, false_and, reduceCtorEq]
  simp only [rd_def]
  split
  · exact h0 (by omega)
  · split
    · exact h0 (by omega)
    · exact h1 (by omega)
theorem sW_isText {d : Nat} {Φ : Po} {σ : Sg} {w : Int32} (h1 : 0 ≤ w.toInt ∧ w.toInt < rd σ 1 9 → Φ (some (.int 1)) σ) (h0 : ¬ (0 ≤ w.toInt ∧ w.toInt < rd σ 1 9) → Φ (some (.int 0)) σ) : wp true (d + 1) nW_isText [.ref 1, .int w] σ Φ := by
  apply wW_isText
  simp only [pI, pL, pR, pV, eW_isText_0, eW_isText_16, eW_isText_17]
  simp only [cond, zB_1, zB_0, ne_eq, not_false_eq_true, true_and, and_true, ↓reduceIte, lg_cmp_ge, lg_cmp_le, lg_cmp_gt, lg_cmp_lt, lg_cmp_eq, ile, ilt, ieq, jle, jlt, jeq, Int32.toInt_toInt64, Int32.reduceToInt, Int64.reduceToInt, Int32.reduceNeg, Int64.reduceNeg, Int.reduceNeg, Int.reduceEq, Int.reduceLT, Int.reduceLE, Nat.reduceEqDiff, and_self, and_false, false_and, reduceCtorEq]
  simp only [rd_def]
  split
  · exact h0 (by omega)
  · split
    · exact h0 (by omega)
    · exact h1 (by omega)
theorem sL_within {d : Nat} {Φ : Po} {σ : Sg} {x y : Int32} (hy : 0 ≤ y.toInt) (h : ∀ v : Int32, v.toInt = clamp 0 y.toInt x.toInt → Φ (some (.int v)) σ) : wp true (d + 2) nL_within [.int x, .int y] σ Φ := by
  apply wL_within
  simp only [pI, pL, pR, pV, eL_within_0, eL_within_6, eL_within_9]
  refine sJ_min (fun a ha => ?_)
  simp only [pI, pL, pR, pV, eL_within_0, eL_within_6, eL_within_9]
  refine sJ_max (fun b hb => ?_)
  simp only [pI, pL, pR, pV, eL_within_0, eL_within_6, eL_within_9]
  refine h _ ?_
  rw [hb, ha, tl0]
  unfold clamp
  repeat' split
  all_goals omega
theorem sL_ofOne {d : Nat} {Φ : Po} {σ : Sg} {E : En} {k x : Int32} {o : Int} (hE : CE σ E) (hN : eN E ≤ 6) (hk : k.toInt = enc o 0) (ho : o = 2 ∨ o = 3 ∨ o = 20) (hx : -1000000 ≤ x.toInt ∧ x.toInt ≤ 1000000) (h : ∀ r : Int32, r.toInt = (if o = 2 then dbt E (rc σ 2) x.toInt else if o = 3 then -x.toInt else if x.toInt = 0 then 1 else 0) → Φ (some (.int r)) σ) : wp true (d + 2) nL_ofOne [.ref 108, .int k, .int x] σ Φ := by
  apply wL_ofOne
  simp only [pI, pL, pR, pV, eL_ofOne_0, eL_ofOne_28, eL_ofOne_36, eL_ofOne_37, eL_ofOne_38, eL_ofOne_41, eL_ofOne_49, eL_ofOne_66, eL_ofOne_67, eL_ofOne_68]
  obtain ⟨g1, g2, g3, g4, g5⟩ := hE
  rcases ho with rfl | rfl | rfl
  · have hk : k.toInt = 10010 := hk
    simp only [hk, Int.reduceEq, ↓reduceIte]
    refine sW_isWind (fun q => ?_) (fun q => ?_)
    · simp only [pI, pL, pR, pV, eL_ofOne_0, eL_ofOne_28, eL_ofOne_36, eL_ofOne_37, eL_ofOne_38, eL_ofOne_41, eL_ofOne_49, eL_ofOne_66, eL_ofOne_67, eL_ofOne_68]
      rw [if_neg (by decide)]
      refine ⟨inb_k (n := 0) rfl (by omega) (by omega), h _ ?_⟩
      rw [if_pos rfl]
      unfold dbt
      rw [if_pos (by omega), ixk (n := 0) rfl (by omega)]
      have e : 0 + ix x = x.toInt.toNat := by unfold ix; omega
      rw [e]
      exact (rc_at (by omega)).symm
    · simp only [pI, pL, pR, pV, eL_ofOne_0, eL_ofOne_28, eL_ofOne_36, eL_ofOne_37, eL_ofOne_38, eL_ofOne_41, eL_ofOne_49, eL_ofOne_66, eL_ofOne_67, eL_ofOne_68]
      rw [if_pos rfl]
      refine h _ ?_
      rw [if_pos rfl]
      unfold dbt
      rw [if_neg (by omega)]
      rfl
  · have hk : k.toInt = 10009 := hk
    simp only [hk, Int.reduceEq, ↓reduceIte]
    refine h _ ?_
    simp only [Int.reduceEq, ↓reduceIte]
    exact tN (by omega)
  · have hk : k.toInt = 10008 := hk
    simp only [hk, Int.reduceEq, ↓reduceIte]
    simp only [Int.reduceEq, ↓reduceIte] at h
    have c0 : (x = 0) = (x.toInt = 0) := by rw [ieq]; rfl
    rw [c0]
    split
    · exact h _ (by rw [if_pos (by assumption)]; rfl)
    · exact h _ (by rw [if_neg (by assumption)]; rfl)
theorem b01 {x : Int32} (h : x.toInt = 0 ∨ x.toInt = 1) : x = 0 ∨ x = 1 := by
  rcases h with h | h
  · exact Or.inl (eqv h)
  · exact Or.inr (eqv h)
/-- two on one: what the class has ahead of the clipping -/
def tw2 (o x y : Int) : Int := if o < 9 then tw o x y else if o < 20 then bi (cmq o x y) else if o = 21 then min x y else max x y
theorem tdiv_r {x y : Int} (h : -1000000 ≤ x ∧ x ≤ 1000000) (hy : y ≠ 0) : -1000000 ≤ x.tdiv y ∧ x.tdiv y ≤ 1000000 := by
  have h1 : (x.tdiv y).natAbs = x.natAbs / y.natAbs := Int.natAbs_tdiv x y
  have h2 : x.natAbs / y.natAbs ≤ x.natAbs := Nat.div_le_self _ _
  omega
theorem sL_ofTwo {d : Nat} {Φ : Po} {σ : Sg} {k x y : Int32} {o : Int} (hk : k.toInt = enc o 0) (ho : (4 ≤ o ∧ o ≤ 7) ∨ (10 ≤ o ∧ o ≤ 15) ∨ ((o = 21 ∨ o = 22) ∧ (x.toInt = 0 ∨ x.toInt = 1) ∧ (y.toInt = 0 ∨ y.toInt = 1))) (hx : -1000000 ≤ x.toInt ∧ x.toInt ≤ 1000000) (hy : -1000000 ≤ y.toInt ∧ y.toInt ≤ 1000000) (h : ∀ r : Int64, r.toInt = tw2 o x.toInt y.toInt → Φ (some (.long r)) σ) : wp true (d + 1) nL_ofTwo [.int k, .int x, .int y] σ Φ := by
  apply wL_ofTwo
  simp only [pI, pL, pR, pV, eL_ofTwo_0, eL_ofTwo_64, eL_ofTwo_69, eL_ofTwo_74, eL_ofTwo_83, eL_ofTwo_84, eL_ofTwo_85, eL_ofTwo_94, eL_ofTwo_95, eL_ofTwo_96, eL_ofTwo_105, eL_ofTwo_106, eL_ofTwo_107, eL_ofTwo_116, eL_ofTwo_117, eL_ofTwo_118, eL_ofTwo_127, eL_ofTwo_128, eL_ofTwo_129, eL_ofTwo_138, eL_ofTwo_139, eL_ofTwo_140, eL_ofTwo_145, eL_ofTwo_150, eL_ofTwo_156, eL_ofTwo_164, eL_ofTwo_168, eL_ofTwo_169]
  have hyr := trng y
  have j : o = 4 ∨ o = 5 ∨ o = 6 ∨ o = 7 ∨ o = 10 ∨ o = 11 ∨ o = 12 ∨ o = 13 ∨ o = 14 ∨ o = 15 ∨ (o = 21 ∧ (x.toInt = 0 ∨ x.toInt = 1) ∧ (y.toInt = 0 ∨ y.toInt = 1)) ∨ (o = 22 ∧ (x.toInt = 0 ∨ x.toInt = 1) ∧ (y.toInt = 0 ∨ y.toInt = 1)) := by omega
  rcases j with rfl | rfl | rfl | rfl | rfl | rfl | rfl | rfl | rfl | rfl | ⟨rfl, b1, b2⟩ | ⟨rfl, b1, b2⟩
  · have hk : k.toInt = 10019 := hk
    simp only [hk, Int.reduceEq, ↓reduceIte]
    exact h _ (by rw [Int32.toInt_toInt64, tP (by omega)]; rfl)
  · have hk : k.toInt = 10020 := hk
    simp only [hk, Int.reduceEq, ↓reduceIte]
    exact h _ (by rw [Int32.toInt_toInt64, tM (by omega)]; rfl)
  · have hk : k.toInt = 10021 := hk
    simp only [hk, Int.reduceEq, ↓reduceIte]
    refine h _ ?_
    have p1 : x.toInt * y.toInt ≤ 1000000000000 := by
      have : (x.toInt * y.toInt).natAbs = x.toInt.natAbs * y.toInt.natAbs := Int.natAbs_mul _ _
      have : x.toInt.natAbs * y.toInt.natAbs ≤ 1000000 * 1000000 := Nat.mul_le_mul (by omega) (by omega)
      omega
    have p2 : -1000000000000 ≤ x.toInt * y.toInt := by
      have : (x.toInt * y.toInt).natAbs = x.toInt.natAbs * y.toInt.natAbs := Int.natAbs_mul _ _
      have : x.toInt.natAbs * y.toInt.natAbs ≤ 1000000 * 1000000 := Nat.mul_le_mul (by omega) (by omega)
      omega
    rw [jX (by rw [Int32.toInt_toInt64, Int32.toInt_toInt64]; omega), Int32.toInt_toInt64, Int32.toInt_toInt64]
    rfl
  · have hk : k.toInt = 10022 := hk
    simp only [hk, Int.reduceEq, ↓reduceIte]
    have c0 : (y = 0) = (y.toInt = 0) := by rw [ieq]; rfl
    simp only [ne_eq, c0]
    have e7 : tw2 7 x.toInt y.toInt = if y.toInt = 0 then 0 else x.toInt.tdiv y.toInt := rfl
    split
    · exact h _ (by rw [e7, if_pos (by assumption)]; rfl)
    · refine ⟨by assumption, h _ ?_⟩
      rw [e7, if_neg (by assumption), Int32.toInt_toInt64, Int32.toInt_div_of_ne_left _ _ (fun e => by rw [e] at hx; exact absurd hx.1 (by decide))]
  · have hk : k.toInt = 10013 := hk
    simp only [hk, Int.reduceEq, ↓reduceIte, ile]
    have e7 : tw2 10 x.toInt y.toInt = bi (decide (x.toInt < y.toInt)) := rfl
    split
    · exact h _ (by rw [e7, decide_eq_false (by omega)]; rfl)
    · exact h _ (by rw [e7, decide_eq_true (by omega)]; rfl)
  · have hk : k.toInt = 10014 := hk
    simp only [hk, Int.reduceEq, ↓reduceIte, ilt]
    have e7 : tw2 11 x.toInt y.toInt = bi (decide (x.toInt ≤ y.toInt)) := rfl
    split
    · exact h _ (by rw [e7, decide_eq_false (by omega)]; rfl)
    · exact h _ (by rw [e7, decide_eq_true (by omega)]; rfl)
  · have hk : k.toInt = 10015 := hk
    simp only [hk, Int.reduceEq, ↓reduceIte, ile]
    have e7 : tw2 12 x.toInt y.toInt = bi (decide (y.toInt < x.toInt)) := rfl
    split
    · exact h _ (by rw [e7, decide_eq_false (by omega)]; rfl)
    · exact h _ (by rw [e7, decide_eq_true (by omega)]; rfl)
  · have hk : k.toInt = 10016 := hk
    simp only [hk, Int.reduceEq, ↓reduceIte, ilt]
    have e7 : tw2 13 x.toInt y.toInt = bi (decide (y.toInt ≤ x.toInt)) := rfl
    split
    · exact h _ (by rw [e7, decide_eq_false (by omega)]; rfl)
    · exact h _ (by rw [e7, decide_eq_true (by omega)]; rfl)
  · have hk : k.toInt = 10017 := hk
    simp only [hk, Int.reduceEq, ↓reduceIte, ieq]
    have e7 : tw2 14 x.toInt y.toInt = bi (decide (x.toInt = y.toInt)) := rfl
    split
    · exact h _ (by rw [e7, decide_eq_true (by omega)]; rfl)
    · exact h _ (by rw [e7, decide_eq_false (by omega)]; rfl)
  · have hk : k.toInt = 10018 := hk
    simp only [hk, Int.reduceEq, ↓reduceIte, ieq]
    have e7 : tw2 15 x.toInt y.toInt = bi (decide (x.toInt ≠ y.toInt)) := rfl
    split
    · exact h _ (by rw [e7, decide_eq_false (by omega)]; rfl)
    · exact h _ (by rw [e7, decide_eq_true (by omega)]; rfl)
  · have hk : k.toInt = 10012 := hk
    simp only [hk, Int.reduceEq, ↓reduceIte]
    refine h _ ?_
    rcases b01 b1 with rfl | rfl <;> rcases b01 b2 with rfl | rfl <;> rfl
  · have hk : k.toInt = 10011 := hk
    simp only [hk, Int.reduceEq, ↓reduceIte]
    refine h _ ?_
    rcases b01 b1 with rfl | rfl <;> rcases b01 b2 with rfl | rfl <;> rfl
theorem sL_nearest {d : Nat} {Φ : Po} {σ : Sg} {x y : Int32} (hx : -1000000 ≤ x.toInt ∧ x.toInt ≤ 1000000) (hy : 0 ≤ y.toInt ∧ y.toInt ≤ 1000000) (h : ∀ r : Int32, r.toInt = rnd x.toInt y.toInt → Φ (some (.int r)) σ) : wp true (d + 2) nL_nearest [.int x, .int y] σ Φ := by
  apply wL_nearest
  simp only [pI, pL, pR, pV, eL_nearest_0, eL_nearest_6, eL_nearest_11, eL_nearest_29, eL_nearest_32]
  have c0 : (y = 0) = (y.toInt = 0) := by rw [ieq]; rfl
  rw [c0]
  unfold rnd at h
  split
  next h0 => exact h _ (by rw [if_pos h0])
  next h0 =>
    rw [if_neg h0] at h
    refine sJ_floorDiv (by omega) (fun q hq => ?_)
    simp only [pI, pL, pR, pV, eL_nearest_0, eL_nearest_6, eL_nearest_11, eL_nearest_29, eL_nearest_32]
    have hp := Int.emod_add_mul_ediv x.toInt y.toInt
    have hr1 := Int.emod_nonneg x.toInt h0
    have hr2 := Int.emod_lt_of_pos x.toInt (by omega : 0 < y.toInt)
    rw [Int.mul_comm] at hp
    have m1 : (q * y).toInt = x.toInt / y.toInt * y.toInt := by rw [tX (by rw [hq]; omega), hq]
    have m2 : (q * y + y).toInt = x.toInt / y.toInt * y.toInt + y.toInt := by rw [tP (by rw [m1]; omega), m1]
    have m3 : (q * y + y - x).toInt = x.toInt / y.toInt * y.toInt + y.toInt - x.toInt := by rw [tM (by rw [m2]; omega), m2]
    have m4 : (x - q * y).toInt = x.toInt - x.toInt / y.toInt * y.toInt := by rw [tM (by rw [m1]; omega), m1]
    rw [ile, m3, m4]
    split
    · exact h _ (by rw [if_neg (by omega), m2])
    · exact h _ (by rw [if_pos (by omega), m1])
theorem q_reck0 {cap : Nat} {call : Cl} {Φ : Po} {k : Nat → Ct} {σ : Sg} {t : Nat} (ht : t < 4) (l w v f : Int32) : bL_reckoned_0 true cap call Φ k [.ref 108, .ref (88 + 5 * t), .int l, .int w, .int v, .int f, .retAddr 0, .retAddr 0, .retAddr 0, .retAddr 0, .retAddr 0] [] σ = (inb l 5 ∧ bL_reckoned_11 true cap call Φ k [.ref 108, .ref (88 + 5 * t), .int l, .int w, .int v, .int f, .int 0, .int (gI σ (90 + 5 * t) (ix l)), .retAddr 0, .retAddr 0, .retAddr 0] [] σ) := by
  have : t = 0 ∨ t = 1 ∨ t = 2 ∨ t = 3 := by omega
  rcases this with rfl | rfl | rfl | rfl <;> rfl
theorem q_reck11 {cap : Nat} {call : Cl} {Φ : Po} {k : Nat → Ct} {σ : Sg} {t : Nat} (ht : t < 4) (l w v f p i : Int32) (v8 v9 : Value) : bL_reckoned_11 true cap call Φ k [.ref 108, .ref (88 + 5 * t), .int l, .int w, .int v, .int f, .int p, .int i, v8, v9, .retAddr 0] [] σ = (inb l 5 ∧ (if gI σ (91 + 5 * t) (ix l) ≤ i then bL_reckoned_229 true cap call Φ k [.ref 108, .ref (88 + 5 * t), .int l, .int w, .int v, .int f, .int p, .int i, v8, v9, .retAddr 0] [] σ else (inb i 300 ∧ bL_reckoned_29 true cap call Φ k [.ref 108, .ref (88 + 5 * t), .int l, .int w, .int v, .int f, .int p, .int i, v8, v9, .retAddr 0] [.int (gI σ (89 + 5 * t) (ix i))] σ))) := by
  have : t = 0 ∨ t = 1 ∨ t = 2 ∨ t = 3 := by omega
  rcases this with rfl | rfl | rfl | rfl <;> rfl
abbrev F109 : List (Nat × Nat × Nat) := [(109, 0, 64)]
theorem f109 {σ : Sg} {n : Nat} {v : Int32} (h : n < 64) : Fr F109 σ (sI σ 109 n v) := Fr.sI (inS_r (lo := 0) (hi := 64) (by simp) ⟨Nat.zero_le _, h⟩)
theorem CE109 {σ σ' : Sg} {E : En} (h : Fr F109 σ σ') (g : CE σ E) : CE σ' E := CE.fr h ⟨rfl, rfl, rfl, rfl⟩ (fun a k q => by
  rcases q with rfl | rfl | q
  · rfl
  · rfl
  · unfold inS F109
    simp only [List.any_cons, List.any_nil, Bool.or_false, Bool.and_eq_false_iff]
    left
    exact Nat.beq_eq_false_iff_ne.mpr (by omega)) g
theorem rc109 {σ σ' : Sg} (h : Fr F109 σ σ') : rc σ' 2 = rc σ 2 := Fr.rc h (fun _ _ => rfl)
theorem fr109_at {σ σ' : Sg} (h : Fr F109 σ σ') {a k : Nat} (ha : a < 109) : rd σ' a k = rd σ a k := h.rd (by
  unfold inS F109
  simp only [List.any_cons, List.any_nil, Bool.or_false, Bool.and_eq_false_iff]
  left
  exact Nat.beq_eq_false_iff_ne.mpr (by omega))
theorem clipMM {v : Int} : max (-1000000) (min 1000000 v) = clip v := by
  unfold clip
  repeat' split
  all_goals omega
theorem q_reck197 {d : Nat} {Φ : Po} {k : Nat → Ct} {σ : Sg} {r1 : Nat} {l w v f p i cd : Int32} {v9 : Value} {y : Int64} (hp : 1 ≤ p.toInt ∧ p.toInt ≤ 63) (h : ∀ r : Int32, r.toInt = clip y.toInt → k 11 [.ref 108, .ref r1, .int l, .int w, .int v, .int f, .int p, .int (i + 1), .int cd, .long y, .retAddr 0] [] (sI σ 109 (p.toInt - 1).toNat r)) : bL_reckoned_197 true NOB (wp true (d + 1)) Φ k [.ref 108, .ref r1, .int l, .int w, .int v, .int f, .int p, .int i, .int cd, v9, .retAddr 0] [.long y] σ := by
  simp only [pI, pL, pR, pV, eL_reckoned_197]
  refine sJ_minL (fun a ha => ?_)
  simp only [pI, pL, pR, pV, eL_reckoned_218]
  refine sJ_maxL (fun b hb => ?_)
  simp only [pI, pL, pR, pV, eL_reckoned_221, eL_reckoned_223]
  have e1 : (p - 1).toInt = p.toInt - 1 := tM (x := p) (y := 1) (by rw [tl1]; omega)
  have e2 : ix (p - 1) = (p.toInt - 1).toNat := by unfold ix; rw [e1]
  have hb2 : b.toInt = clip y.toInt := by
    rw [hb, ha]
    exact clipMM
  have := clip_r y.toInt
  refine ⟨⟨by omega, by omega⟩, ?_⟩
  rw [e2]
  exact h _ (by rw [j32 (by omega), hb2])
theorem st_two {d : Nat} {Φ : Po} {k : Nat → Ct} {σ : Sg} {r1 : Nat} {l w v f p i cd : Int32} {v8 v9 : Value} {o X Y : Int} {R : List Int} (hS : SkL σ (Y :: X :: R)) (hp : p.toInt = R.length + 2) (hR : R.length ≤ 58) (hX : -1000000 ≤ X ∧ X ≤ 1000000) (hY : -1000000 ≤ Y ∧ Y ≤ 1000000) (hcd : cd.toInt = enc o 0) (ho : (4 ≤ o ∧ o ≤ 8) ∨ (10 ≤ o ∧ o ≤ 15) ∨ ((o = 21 ∨ o = 22) ∧ (X = 0 ∨ X = 1) ∧ (Y = 0 ∨ Y = 1)))
    (h : ∀ (r : Int32) (v9' : Value) (p' : Int32), p'.toInt = R.length + 1 → r.toInt = clip (tw2 o X Y) → k 11 [.ref 108, .ref r1, .int l, .int w, .int v, .int f, .int p', .int (i + 1), .int cd, v9', .retAddr 0] [] (sI σ 109 R.length r)) : bL_reckoned_29 true NOB (wp true (d + 3)) Φ k [.ref 108, .ref r1, .int l, .int w, .int v, .int f, .int p, .int i, v8, v9, .retAddr 0] [.int cd] σ := by
  have hc1 : 10011 ≤ cd.toInt ∧ cd.toInt ≤ 10023 ∧ (cd.toInt = 10023 ↔ o = 8) := by
    rw [hcd]
    have j : o = 4 ∨ o = 5 ∨ o = 6 ∨ o = 7 ∨ o = 8 ∨ o = 10 ∨ o = 11 ∨ o = 12 ∨ o = 13 ∨ o = 14 ∨ o = 15 ∨ o = 21 ∨ o = 22 := by omega
    rcases j with rfl | rfl | rfl | rfl | rfl | rfl | rfl | rfl | rfl | rfl | rfl | rfl | rfl <;> decide
  have e1 : (p + (-1)).toInt = R.length + 1 := by rw [tP (by rw [tlm]; omega), tlm]; omega
  have e2 : ix (p + (-1)) = R.length + 1 := ix_of (by omega)
  have e3 : (p + (-1) - 1).toInt = R.length := by rw [tM (by rw [tl1]; omega), tl1]; omega
  have e4 : ix (p + (-1) - 1) = R.length := ix_of e3
  obtain ⟨s1, s2, s3⟩ := hS
  have s1 : (gI σ 109 (R.length + 1)).toInt = Y := s1
  have s2 : (gI σ 109 R.length).toInt = X := s2
  simp only [pI, pL, pR, pV, eL_reckoned_29, eL_reckoned_88, eL_reckoned_131, eL_reckoned_139]
  simp only [cond, zB_1, zB_0, ne_eq, not_false_eq_true, true_and, and_true, ↓reduceIte, lg_cmp_ge, lg_cmp_le, lg_cmp_gt, lg_cmp_lt, lg_cmp_eq, ile, ilt, ieq, jle, jlt, jeq, Int32.toInt_toInt64, Int32.reduceToInt, Int64.reduceToInt, Int32.reduceNeg, Int64.reduceNeg, Int.reduceNeg, Int.reduceEq, Int.reduceLT, Int.reduceLE, Nat.reduceEqDiff, and_self, and_false, false_and, reduceCtorEq]
  rw [if_pos (by omega), if_pos (by omega), if_pos (by omega), e2, e4]
  have hfin : ∀ (y : Int64) (v9 : Value), y.toInt = tw2 o X Y → bL_reckoned_197 true NOB (wp true (d + 3)) Φ k [.ref 108, .ref r1, .int l, .int w, .int v, .int f, .int (p + (-1)), .int i, .int cd, v9, .retAddr 0] [.long y] σ := by
    intro y v9 hy
    refine q_reck197 (by omega) (fun r hr => ?_)
    have : ((p + (-1)).toInt - 1).toNat = R.length := by omega
    rw [this]
    exact h r _ _ e1 (by rw [hr, hy])
  by_cases h8 : o = 8
  · rw [if_pos (hc1.2.2.mpr h8)]
    refine ⟨⟨by omega, by omega⟩, ⟨by omega, by omega⟩, ?_⟩
    refine sJ_abs (by omega) (fun a ha => ?_)
    simp only [pI, pL, pR, pV, eL_reckoned_169]
    rw [s1] at ha
    have : 0 ≤ a.toInt ∧ a.toInt ≤ 1000000 := by
      rw [ha]
      unfold iabs
      split <;> omega
    refine sL_nearest (by omega) this (fun q hq => ?_)
    simp only [pI, pL, pR, pV, eL_reckoned_172]
    refine hfin _ _ ?_
    rw [Int32.toInt_toInt64, hq, ha, s2, h8]
    rfl
  · rw [if_neg (fun e => h8 (hc1.2.2.mp e))]
    simp only [pI, pL, pR, pV, eL_reckoned_176]
    rw [e2, e4]
    refine ⟨⟨by omega, by omega⟩, ⟨by omega, by omega⟩, ?_⟩
    refine sL_ofTwo hcd (by rw [s1, s2]; omega) (by omega) (by omega) (fun q hq => ?_)
    simp only [pI, pL, pR, pV, eL_reckoned_176]
    exact hfin _ _ (by rw [hq, s1, s2])
theorem lL_reckoned {d : Nat} {Φ : Po} {E : En} {c : Co} {l t : Nat} {lI w v f : Int32} {σ0 : Sg} (ht : t < 4) (hl : lI.toInt = l ∧ l < 5) (hO : Ok E c) (hE : CE σ0 E) (hc : rc σ0 2 = c) (hw : w.toInt = -1 ∨ (0 ≤ w.toInt ∧ w.toInt < eN E)) (hv : v.toInt = -1 ∨ (0 ≤ v.toInt ∧ v.toInt < eV E)) (hf : 0 ≤ f.toInt ∧ f.toInt ≤ 9) (hto : rd σ0 (91 + 5 * t) l ≤ 300) {a' b' : Nat} (hab : a' + b' = 1) :
    ∀ (ops : List (Int × Int)) (a b : Nat) (s1 s2 : List Int) (σ : Sg) (p i : Int32) (v8 v9 : Value), Wf l ops a b a' b' → s1.length = a → s2.length = b → a + b ≤ 60 → Bv s1 → Bt s2 → SkL σ (s1 ++ s2) → p.toInt = a + b → CodeAt σ0 t (ix i) ops → rd σ0 (91 + 5 * t) l = i.toInt + ops.length → 0 ≤ i.toInt → Fr F109 σ0 σ →
    (∀ (σ' : Sg) (r : Int32), Fr F109 σ0 σ' → r.toInt = ((evl E c w.toInt v.toInt f.toInt ops (s1, s2)).1 ++ (evl E c w.toInt v.toInt f.toInt ops (s1, s2)).2).headD 0 → Φ (some (.int r)) σ') →
    bL_reckoned_11 true NOB (wp true (d + 3)) Φ (kL_reckoned (d + 3) Φ) [.ref 108, .ref (88 + 5 * t), .int lI, .int w, .int v, .int f, .int p, .int i, v8, v9, .retAddr 0] [] σ
  | [], a, b, s1, s2, σ, p, i, v8, v9, hW, ha, hb, hab60, hBv, hBt, hS, hp, hC, hi, hi0, hF, h => by
    rw [q_reck11 ht]
    obtain ⟨rfl, rfl⟩ := hW
    have eto : (gI σ (91 + 5 * t) (ix lI)).toInt = i.toInt := by
      rw [ix_of hl.1]
      show rd σ (91 + 5 * t) l = _
      rw [fr109_at hF (by omega), hi]
      simp
    refine ⟨⟨by omega, by omega⟩, ?_⟩
    rw [ile, eto, if_pos (Int.le_refl _)]
    simp only [pI, pL, pR, pV, eL_reckoned_229, eL_reckoned_238, eL_reckoned_244]
    rw [if_neg (fun e => by rw [e] at hp; have : (0 : Int32).toInt = 0 := rfl; omega)]
    refine ⟨⟨by decide, by decide⟩, h _ _ hF ?_⟩
    show rd σ 109 0 = (s1 ++ s2).headD 0
    have hlen : (s1 ++ s2).length = 1 := by rw [List.length_append]; omega
    match hq : s1 ++ s2, hlen, hS with
    | [x], _, hS => exact hS.1
  | (o, u) :: r, a, b, s1, s2, σ, p, i, v8, v9, hW, ha, hb, hab60, hBv, hBt, hS, hp, hC, hi, hi0, hF, h => by
    rw [q_reck11 ht]
    have eto : (gI σ (91 + 5 * t) (ix lI)).toInt = i.toInt + (r.length + 1) := by
      rw [ix_of hl.1]
      show rd σ (91 + 5 * t) l = _
      rw [fr109_at hF (by omega), hi]
      simp
    refine ⟨⟨by omega, by omega⟩, ?_⟩
    rw [ile, eto, if_neg (by omega)]
    have hi3 : i.toInt + ((r.length : Int) + 1) ≤ 300 := by
      have : ((((o, u) :: r).length : Nat) : Int) = r.length + 1 := by simp
      omega
    refine ⟨⟨hi0, by omega⟩, ?_⟩
    have hi1 : (i + 1).toInt = i.toInt + 1 := t1 (by omega)
    have hi1x : ix (i + 1) = ix i + 1 := ix1 (by omega)
    have hcode : (gI σ (89 + 5 * t) (ix i)).toInt = enc o u := by
      show rd σ (89 + 5 * t) (ix i) = _
      rw [fr109_at hF (by omega)]
      exact hC.1
    have hE' := CE109 hF hE
    have hc' : rc σ 2 = c := (rc109 hF).trans hc
    have hC2 : CodeAt σ0 t (ix (i + 1)) r := by rw [hi1x]; exact hC.2
    have hi2 : rd σ0 (91 + 5 * t) l = (i + 1).toInt + r.length := by
      rw [hi1]
      have : ((((o, u) :: r).length : Nat) : Int) = r.length + 1 := by simp
      omega
    have hpx : ix p = a + b := ix_of (by omega)
    have hpp : (p + 1).toInt = a + b + 1 := by rw [t1 (by omega)]; omega
    generalize hcd : gI σ (89 + 5 * t) (ix i) = cd at hcode
    have IH := fun a b s1 s2 σ p v8 v9 => lL_reckoned (d := d) (Φ := Φ) (t := t) ht hl hO hE hc hw hv hf hto hab r a b s1 s2 σ p (i + 1) v8 v9
    have hls : (s1 ++ s2).length = a + b := by rw [List.length_append]; omega
    have hN := hO
    obtain ⟨n1, n2, -⟩ := hN
    rcases hW with ⟨rfl, q1, q2, q3, hW⟩ | ⟨rfl, q1, q2, q4, q3, hW⟩ | ⟨qo, q1, hW⟩ | ⟨q1, q2, q3, hW⟩ | ⟨q1, q2, q3, hW⟩ | ⟨rfl, q1, q2, hW⟩ | ⟨qo, q1, q2, hW⟩
    · have hcd' : cd.toInt = u := hcode
      simp only [pI, pL, pR, pV, eL_reckoned_29, eL_reckoned_51, eL_reckoned_81, eL_reckoned_223]
      simp only [cond, zB_1, zB_0, ne_eq, not_false_eq_true, true_and, and_true, ↓reduceIte, lg_cmp_ge, lg_cmp_le, lg_cmp_gt, lg_cmp_lt, lg_cmp_eq, ile, ilt, ieq, jle, jlt, jeq, Int32.toInt_toInt64, Int32.reduceToInt, Int64.reduceToInt, Int32.reduceNeg, Int64.reduceNeg, Int.reduceNeg, Int.reduceEq, Int.reduceLT, Int.reduceLE, Nat.reduceEqDiff, and_self, and_false, false_and, reduceCtorEq]
      rw [hcd', hp, if_neg (by omega), if_neg (by omega), if_neg (by omega)]
      refine ⟨⟨by omega, by omega⟩, ?_⟩
      rw [hpx]
      apply hL_reckoned_11
      refine IH (a + 1) b (u :: s1) s2 _ _ _ _ hW (by simp [ha]) hb (by omega) (Bv.cons (by omega) hBv) hBt ?_ (by rw [hpp]; omega) hC2 hi2 (by omega) (hF.tr (f109 (by omega))) h
      show SkL _ (u :: (s1 ++ s2))
      rw [← hcd']
      exact SkL_push hls hS
    · have hcd' : cd.toInt = 10000 + u := hcode
      simp only [pI, pL, pR, pV, eL_reckoned_29, eL_reckoned_51, eL_reckoned_70, eL_reckoned_81, eL_reckoned_223]
      simp only [cond, zB_1, zB_0, ne_eq, not_false_eq_true, true_and, and_true, ↓reduceIte, lg_cmp_ge, lg_cmp_le, lg_cmp_gt, lg_cmp_lt, lg_cmp_eq, ile, ilt, ieq, jle, jlt, jeq, Int32.toInt_toInt64, Int32.reduceToInt, Int64.reduceToInt, Int32.reduceNeg, Int64.reduceNeg, Int.reduceNeg, Int.reduceEq, Int.reduceLT, Int.reduceLE, Nat.reduceEqDiff, and_self, and_false, false_and, reduceCtorEq]
      rw [hcd', hp, if_neg (by omega), if_neg (by omega), if_pos (by omega)]
      refine sL_named hE' ⟨n1, n2⟩ hw hv hcd' ⟨q1, q2⟩ (fun x hx => ?_)
      simp only [pI, pL, pR, pV, eL_reckoned_81, eL_reckoned_223]
      refine ⟨⟨by omega, by omega⟩, ?_⟩
      rw [hpx]
      rw [hc'] at hx
      apply hL_reckoned_11
      refine IH (a + 1) b (x.toInt :: s1) s2 _ _ _ _ hW (by simp [ha]) hb (by omega) (Bv.cons (by rw [hx]; exact nmv_r hO hw hv hf) hBv) hBt ?_ (by rw [hpp]; omega) hC2 hi2 (by omega) (hF.tr (f109 (by omega))) (fun σ' r' hF' hr => h σ' r' hF' ?_)
      · exact SkL_push hls hS
      · rw [hr, hx]
        rfl
    · obtain ⟨x, xs, rfl⟩ : ∃ x xs, s1 = x :: xs := by
        cases s1 with
        | nil => simp at ha; omega
        | cons x xs => exact ⟨x, xs, rfl⟩
      have hxb := hBv x List.mem_cons_self
      have hBv' : Bv xs := fun y hy => hBv y (List.mem_cons_of_mem _ hy)
      have hl1 : (xs ++ s2).length + 1 = a + b := by rw [← hls]; simp; omega
      obtain ⟨t1, t2⟩ := hS
      have t1 : (gI σ 109 (xs ++ s2).length).toInt = x := t1
      have e1 : (p - 1).toInt = (xs ++ s2).length := by rw [tM (by rw [tl1]; omega), tl1]; omega
      have e2 : ix (p - 1) = (xs ++ s2).length := ix_of e1
      have hce : cd.toInt = enc o 0 := by
        rw [hcode]
        rcases qo with rfl | rfl <;> rfl
      have hcr : 10008 ≤ cd.toInt ∧ cd.toInt ≤ 10010 := by
        rw [hce]
        rcases qo with rfl | rfl <;> decide
      simp only [pI, pL, pR, pV, eL_reckoned_29, eL_reckoned_88, eL_reckoned_104]
      simp only [cond, zB_1, zB_0, ne_eq, not_false_eq_true, true_and, and_true, ↓reduceIte, lg_cmp_ge, lg_cmp_le, lg_cmp_gt, lg_cmp_lt, lg_cmp_eq, ile, ilt, ieq, jle, jlt, jeq, Int32.toInt_toInt64, Int32.reduceToInt, Int64.reduceToInt, Int32.reduceNeg, Int64.reduceNeg, Int.reduceNeg, Int.reduceEq, Int.reduceLT, Int.reduceLE, Nat.reduceEqDiff, and_self, and_false, false_and, reduceCtorEq]
      rw [if_pos (by omega), if_neg (by omega), if_pos (by omega), e2]
      refine ⟨⟨by omega, by omega⟩, ?_⟩
      refine sL_ofOne hE' n1 hce (by omega) (by omega) (fun q hq => ?_)
      simp only [pI, pL, pR, pV, eL_reckoned_127, eL_reckoned_223]
      rw [e2]
      refine ⟨⟨by omega, by omega⟩, ?_⟩
      rw [t1, hc'] at hq
      have hqb : -1000000 ≤ q.toInt ∧ q.toInt ≤ 1000000 := by
        rw [hq]
        rcases qo with rfl | rfl
        · exact dbt_r hO _
        · simp only [Int.reduceEq, ↓reduceIte]; omega
      apply hL_reckoned_11
      refine IH a b (q.toInt :: xs) s2 _ _ _ _ hW ha hb hab60 (Bv.cons hqb hBv') hBt ?_ hp hC2 hi2 (by omega) (hF.tr (f109 (by omega))) (fun σ' r' hF' hr => h σ' r' hF' ?_)
      · exact SkL_push rfl t2
      · rw [hr, hq]
        rcases qo with rfl | rfl <;> rfl
    · obtain ⟨y, x, xs, rfl⟩ : ∃ y x xs, s1 = y :: x :: xs := by
        match s1, ha with
        | [], ha => simp at ha; omega
        | [_], ha => simp at ha; omega
        | y :: x :: xs, _ => exact ⟨y, x, xs, rfl⟩
      have hyb := hBv y List.mem_cons_self
      have hxb := hBv x (List.mem_cons_of_mem _ List.mem_cons_self)
      have hBv' : Bv xs := fun z hz => hBv z (List.mem_cons_of_mem _ (List.mem_cons_of_mem _ hz))
      have hl1 : (xs ++ s2).length + 2 = a + b := by rw [← hls]; simp; omega
      have hce : cd.toInt = enc o 0 := by
        rw [hcode]
        have j : o = 4 ∨ o = 5 ∨ o = 6 ∨ o = 7 ∨ o = 8 := by omega
        rcases j with rfl | rfl | rfl | rfl | rfl <;> rfl
      refine st_two (R := xs ++ s2) hS (by omega) (by omega) hxb hyb hce (by omega) (fun q v9' p' hp' hq => ?_)
      apply hL_reckoned_11
      refine IH (a - 1) b (q.toInt :: xs) s2 _ _ _ _ hW (by simp at ha ⊢; omega) hb (by omega) (Bv.cons (by rw [hq]; exact clip_r _) hBv') hBt ?_ (by omega) hC2 hi2 (by omega) (hF.tr (f109 (by omega))) (fun σ' r' hF' hr => h σ' r' hF' ?_)
      · exact SkL_push rfl hS.2.2
      · rw [hr, hq]
        have j : o = 4 ∨ o = 5 ∨ o = 6 ∨ o = 7 ∨ o = 8 := by omega
        rcases j with rfl | rfl | rfl | rfl | rfl <;> rfl
    · obtain ⟨y, x, rfl⟩ : ∃ y x, s1 = [y, x] := by
        match s1, ha with
        | [], ha => simp at ha; omega
        | [_], ha => simp at ha; omega
        | [y, x], _ => exact ⟨y, x, rfl⟩
        | _ :: _ :: _ :: _, ha => simp at ha; omega
      have hyb := hBv y List.mem_cons_self
      have hxb := hBv x (List.mem_cons_of_mem _ List.mem_cons_self)
      have hce : cd.toInt = enc o 0 := by
        rw [hcode]
        have j : o = 10 ∨ o = 11 ∨ o = 12 ∨ o = 13 ∨ o = 14 ∨ o = 15 := by omega
        rcases j with rfl | rfl | rfl | rfl | rfl | rfl <;> rfl
      refine st_two (R := s2) hS (by omega) (by omega) hxb hyb hce (by omega) (fun q v9' p' hp' hq => ?_)
      have hq2 : q.toInt = bi (cmq o x y) := by
        rw [hq]
        have j : o = 10 ∨ o = 11 ∨ o = 12 ∨ o = 13 ∨ o = 14 ∨ o = 15 := by omega
        have e : tw2 o x y = bi (cmq o x y) := by
          rcases j with rfl | rfl | rfl | rfl | rfl | rfl <;> rfl
        rw [e]
        rcases bi_r (cmq o x y) with e | e <;> rw [e] <;> rfl
      apply hL_reckoned_11
      refine IH 0 (b + 1) [] (q.toInt :: s2) _ _ _ _ hW rfl (by simp [hb]) (by omega) (fun _ h => by cases h) (Bt.cons (by rw [hq2]; exact bi_r _) hBt) ?_ (by omega) hC2 hi2 (by omega) (hF.tr (f109 (by omega))) (fun σ' r' hF' hr => h σ' r' hF' ?_)
      · exact SkL_push rfl hS.2.2
      · rw [hr, hq2]
        have j : o = 10 ∨ o = 11 ∨ o = 12 ∨ o = 13 ∨ o = 14 ∨ o = 15 := by omega
        rcases j with rfl | rfl | rfl | rfl | rfl | rfl <;> rfl
    · obtain rfl : s1 = [] := List.length_eq_zero_iff.mp (by omega)
      obtain ⟨x, xs, rfl⟩ : ∃ x xs, s2 = x :: xs := by
        cases s2 with
        | nil => simp at hb; omega
        | cons x xs => exact ⟨x, xs, rfl⟩
      have hxb := hBt x List.mem_cons_self
      have hBt' : Bt xs := fun y hy => hBt y (List.mem_cons_of_mem _ hy)
      have hl1 : xs.length + 1 = a + b := by rw [← hls]; simp
      obtain ⟨t1, t2⟩ := hS
      have t1 : (gI σ 109 xs.length).toInt = x := t1
      have e1 : (p - 1).toInt = xs.length := by rw [tM (by rw [tl1]; omega), tl1]; omega
      have e2 : ix (p - 1) = xs.length := ix_of e1
      have hce : cd.toInt = enc 20 0 := hcode
      have hcr : cd.toInt = 10008 := hcode
      simp only [pI, pL, pR, pV, eL_reckoned_29, eL_reckoned_88, eL_reckoned_104]
      simp only [cond, zB_1, zB_0, ne_eq, not_false_eq_true, true_and, and_true, ↓reduceIte, lg_cmp_ge, lg_cmp_le, lg_cmp_gt, lg_cmp_lt, lg_cmp_eq, ile, ilt, ieq, jle, jlt, jeq, Int32.toInt_toInt64, Int32.reduceToInt, Int64.reduceToInt, Int32.reduceNeg, Int64.reduceNeg, Int.reduceNeg, Int.reduceEq, Int.reduceLT, Int.reduceLE, Nat.reduceEqDiff, and_self, and_false, false_and, reduceCtorEq]
      rw [if_pos (by omega), if_neg (by omega), if_pos (by omega), e2]
      refine ⟨⟨by omega, by omega⟩, ?_⟩
      refine sL_ofOne hE' n1 hce (by omega) (by omega) (fun q hq => ?_)
      simp only [pI, pL, pR, pV, eL_reckoned_127, eL_reckoned_223]
      rw [e2]
      refine ⟨⟨by omega, by omega⟩, ?_⟩
      rw [t1] at hq
      have hq2 : q.toInt = 1 - x := by
        rw [hq]
        simp only [Int.reduceEq, ↓reduceIte]
        rcases hxb with rfl | rfl <;> rfl
      apply hL_reckoned_11
      refine IH 0 b [] (q.toInt :: xs) _ _ _ _ hW rfl hb (by omega) (fun _ h => by cases h) (Bt.cons (by omega) hBt') ?_ (by omega) hC2 hi2 (by omega) (hF.tr (f109 (by omega))) (fun σ' r' hF' hr => h σ' r' hF' ?_)
      · exact SkL_push rfl t2
      · rw [hr, hq2]
        rfl
    · obtain rfl : s1 = [] := List.length_eq_zero_iff.mp (by omega)
      obtain ⟨y, x, xs, rfl⟩ : ∃ y x xs, s2 = y :: x :: xs := by
        match s2, hb with
        | [], hb => simp at hb; omega
        | [_], hb => simp at hb; omega
        | y :: x :: xs, _ => exact ⟨y, x, xs, rfl⟩
      have hyb := hBt y List.mem_cons_self
      have hxb := hBt x (List.mem_cons_of_mem _ List.mem_cons_self)
      have hBt' : Bt xs := fun z hz => hBt z (List.mem_cons_of_mem _ (List.mem_cons_of_mem _ hz))
      have hl1 : xs.length + 2 = a + b := by rw [← hls]; simp
      have hce : cd.toInt = enc o 0 := by
        rw [hcode]
        rcases qo with rfl | rfl <;> rfl
      refine st_two (R := xs) hS (by omega) (by omega) (by omega) (by omega) hce (by omega) (fun q v9' p' hp' hq => ?_)
      have hq2 : q.toInt = if o = 21 then min x y else max x y := by
        rw [hq]
        rcases qo with rfl | rfl
        · show clip (min x y) = min x y
          rcases hxb with rfl | rfl <;> rcases hyb with rfl | rfl <;> rfl
        · show clip (max x y) = max x y
          rcases hxb with rfl | rfl <;> rcases hyb with rfl | rfl <;> rfl
      apply hL_reckoned_11
      refine IH 0 (b - 1) [] (q.toInt :: xs) _ _ _ _ hW rfl (by simp at hb ⊢; omega) (by omega) (fun _ h => by cases h) (Bt.cons (by rw [hq2]; rcases qo with rfl | rfl <;> simp only [Int.reduceEq, ↓reduceIte] <;> omega) hBt') ?_ (by omega) hC2 hi2 (by omega) (hF.tr (f109 (by omega))) (fun σ' r' hF' hr => h σ' r' hF' ?_)
      · exact SkL_push rfl hS.2.2
      · rw [hr, hq2]
        rcases qo with rfl | rfl <;> rfl
theorem sT_hasLaw {d : Nat} {Φ : Po} {σ : Sg} {t : Nat} (ht : t < 4) {l : Int32} (hl : 0 ≤ l.toInt ∧ l.toInt < 5) (h1 : rd σ (90 + 5 * t) (ix l) ≠ -1 → Φ (some (.int 1)) σ) (h0 : rd σ (90 + 5 * t) (ix l) = -1 → Φ (some (.int 0)) σ) : wp true (d + 1) nT_hasLaw [.ref (88 + 5 * t), .int l] σ Φ := by
  apply wT_hasLaw
  have e : ∀ (call : Cl) (k : Nat → Ct), bT_hasLaw_0 true NOB call Φ k [.ref (88 + 5 * t), .int l] [] σ = (if l < 0 then bT_hasLaw_23 true NOB call Φ k [.ref (88 + 5 * t), .int l] [] σ else if (5 : Int32) ≤ l then bT_hasLaw_23 true NOB call Φ k [.ref (88 + 5 * t), .int l] [] σ else (inb l 5 ∧ bT_hasLaw_15 true NOB call Φ k [.ref (88 + 5 * t), .int l] [.int (gI σ (90 + 5 * t) (ix l))] σ)) := by
    intro call k
    have : t = 0 ∨ t = 1 ∨ t = 2 ∨ t = 3 := by omega
    rcases this with rfl | rfl | rfl | rfl <;> rfl
  rw [e]
  simp only [pI, pL, pR, pV, eT_hasLaw_15, eT_hasLaw_23, eT_hasLaw_24]
  simp only [cond, zB_1, zB_0, ne_eq, not_false_eq_true, true_and, and_true, ↓reduceIte, lg_cmp_ge, lg_cmp_le, lg_cmp_gt, lg_cmp_lt, lg_cmp_eq, ile, ilt, ieq, jle, jlt, jeq, Int32.toInt_toInt64, Int32.reduceToInt, Int64.reduceToInt, Int32.reduceNeg, Int64.reduceNeg, Int.reduceNeg, Int.reduceEq, Int.reduceLT, Int.reduceLE, Nat.reduceEqDiff, and_self, and_false, false_and, reduceCtorEq]
  rw [if_neg (by omega), if_neg (by omega)]
  refine ⟨⟨by omega, by omega⟩, ?_⟩
  split
  · exact h0 (by assumption)
  · exact h1 (by assumption)
/-- the text that rules on law l, or none -/
theorem sL_rulingOn {d : Nat} {Φ : Po} {σ : Sg} {E : En} (hE : CE σ E) {lI : Int32} {l : Nat} (hl : lI.toInt = l ∧ l < 5) (h0 : eL E l = none → Φ (some (.ref NUL)) σ) (h1 : ∀ (t : Nat) (ops : List (Int × Int)), t < 4 → eL E l = some ops → TxL σ t l (some ops) → Φ (some (.ref (88 + 5 * t))) σ) : wp true (d + 2) nL_rulingOn [.ref 108, .int lI] σ Φ := by
  apply wL_rulingOn
  simp only [pI, pL, pR, pV, eL_rulingOn_0]
  obtain ⟨g1, g2, g3, g4, ⟨g5, g6, g7, g8⟩, g9⟩ := hE
  refine sW_isText (fun q => ?_) (fun q => ?_)
  · simp only [pI, pL, pR, pV, eL_rulingOn_14]
    have hr : (gI σ 1 10).toInt = rd σ 1 10 := rfl
    rw [if_neg (by decide)]
    simp only [cond, zB_1, zB_0, ne_eq, not_false_eq_true, true_and, and_true, ↓reduceIte, lg_cmp_ge, lg_cmp_le, lg_cmp_gt, lg_cmp_lt, lg_cmp_eq, ile, ilt, ieq, jle, jlt, jeq, Int32.toInt_toInt64, Int32.reduceToInt, Int64.reduceToInt, Int32.reduceNeg, Int64.reduceNeg, Int.reduceNeg, Int.reduceEq, Int.reduceLT, Int.reduceLE, Nat.reduceEqDiff, and_self, and_false, false_and, reduceCtorEq]
    rw [hr, if_pos (by omega)]
    have hq : 0 ≤ rd σ 1 10 ∧ rd σ 1 10 < rd σ 1 9 := q
    have hrt : ix (gI σ 1 10) < 4 := by unfold ix; omega
    have hrI : rd σ 1 10 = (ix (gI σ 1 10) : Nat) := by unfold ix; omega
    have ht8 := g8 (ix (gI σ 1 10)) hrt hrI l hl.2
    have hlx : ix lI = l := ix_of hl.1
    simp only [pI, pL, pR, pV, eL_rulingOn_34]
    refine ⟨⟨by omega, by omega⟩, ?_⟩
    generalize ix (gI σ 1 10) = t at hrt hrI ht8
    have e1 : rfx true σ 81 t = 88 + 5 * t := by
      have : t = 0 ∨ t = 1 ∨ t = 2 ∨ t = 3 := by omega
      rcases this with rfl | rfl | rfl | rfl <;> rfl
    have e2 : (isO 7 (88 + 5 * t) && lvx true σ (88 + 5 * t)) = true := by
      have : t = 0 ∨ t = 1 ∨ t = 2 ∨ t = 3 := by omega
      rcases this with rfl | rfl | rfl | rfl <;> rfl
    rw [e1, e2]
    refine sT_hasLaw hrt (by omega) (fun z => ?_) (fun z => ?_)
    · simp only [pI, pL, pR, pV, eL_rulingOn_52, eL_rulingOn_60]
      rw [if_neg (by decide)]
      rw [hlx] at z
      unfold TxL at ht8
      split at ht8
      next hx => exact absurd ht8 z
      next ops hx => exact h1 t ops hrt hx ht8
    · simp only [pI, pL, pR, pV, eL_rulingOn_52, eL_rulingOn_59, eL_rulingOn_60]
      rw [if_pos rfl]
      rw [hlx] at z
      unfold TxL at ht8
      split at ht8
      next hx => exact h0 hx
      next ops hx => omega
  · simp only [pI, pL, pR, pV, eL_rulingOn_14, eL_rulingOn_32]
    rw [if_pos rfl]
    refine h0 (g7 ?_ l)
    have hr : (gI σ 1 10).toInt = rd σ 1 10 := rfl
    omega
theorem evl_len {E : En} {c : Co} {w v f : Int} {l a' b' : Nat} : ∀ (ops : List (Int × Int)) (a b : Nat) (s1 s2 : List Int), Wf l ops a b a' b' → s1.length = a → s2.length = b → (evl E c w v f ops (s1, s2)).1.length = a' ∧ (evl E c w v f ops (s1, s2)).2.length = b'
  | [], a, b, s1, s2, hW, ha, hb => by
    obtain ⟨rfl, rfl⟩ := hW
    exact ⟨ha, hb⟩
  | (o, u) :: r, a, b, s1, s2, hW, ha, hb => by
    have st : ∀ a2 b2, Wf l r a2 b2 a' b' → (stp E c w v f o u (s1, s2)).1.length = a2 → (stp E c w v f o u (s1, s2)).2.length = b2 → (evl E c w v f ((o, u) :: r) (s1, s2)).1.length = a' ∧ (evl E c w v f ((o, u) :: r) (s1, s2)).2.length = b' :=
      fun a2 b2 h1 h2 h3 => evl_len r a2 b2 (stp E c w v f o u (s1, s2)).1 (stp E c w v f o u (s1, s2)).2 h1 h2 h3
    rcases hW with ⟨rfl, q1, q2, q3, hW⟩ | ⟨rfl, q1, q2, q4, q3, hW⟩ | ⟨qo, q1, hW⟩ | ⟨q1, q2, q3, hW⟩ | ⟨q1, q2, q3, hW⟩ | ⟨rfl, q1, q2, hW⟩ | ⟨qo, q1, q2, hW⟩
    · exact st _ _ hW (by simp [stp, ha]) (by simp [stp, hb])
    · exact st _ _ hW (by simp [stp, ha]) (by simp [stp, hb])
    · refine st _ _ hW ?_ ?_
      · rcases qo with rfl | rfl <;> simp [stp] <;> omega
      · rcases qo with rfl | rfl <;> simp [stp] <;> omega
    · have e : stp E c w v f o u (s1, s2) = (clip (tw o (s1.tail.headD 0) (s1.headD 0)) :: s1.tail.tail, s2) := by
        unfold stp
        rw [if_neg (by omega), if_neg (by omega), if_neg (by omega), if_neg (by omega), if_pos (by omega)]
      refine st _ _ hW ?_ ?_
      · rw [e]; simp; omega
      · rw [e]; exact hb
    · have e : stp E c w v f o u (s1, s2) = (s1.tail.tail, bi (cmq o (s1.tail.headD 0) (s1.headD 0)) :: s2) := by
        unfold stp
        rw [if_neg (by omega), if_neg (by omega), if_neg (by omega), if_neg (by omega), if_neg (by omega), if_pos (by omega)]
      refine st _ _ hW ?_ ?_
      · rw [e]; simp; omega
      · rw [e]; simp; omega
    · refine st _ _ hW ?_ ?_
      · simp [stp]; omega
      · simp [stp]; omega
    · refine st _ _ hW ?_ ?_
      · rcases qo with rfl | rfl <;> simp [stp] <;> omega
      · rcases qo with rfl | rfl <;> simp [stp] <;> omega
theorem evl_law {E : En} {c : Co} {w v f : Int} {l : Nat} {ops : List (Int × Int)} (h : Wf l ops 0 0 (if l = 0 then 0 else 1) (if l = 0 then 1 else 0)) : ((evl E c w v f ops ([], [])).1 ++ (evl E c w v f ops ([], [])).2).headD 0 = lawE E c l w v f ops := by
  have hl := evl_len (E := E) (c := c) (w := w) (v := v) (f := f) ops 0 0 [] [] h rfl rfl
  unfold lawE
  generalize evl E c w v f ops ([], []) = q at hl ⊢
  obtain ⟨q1, q2⟩ := q
  split
  next h0 =>
    rw [if_pos h0] at hl
    have : q1 = [] := List.length_eq_zero_iff.mp hl.1
    subst this
    rfl
  next h0 =>
    rw [if_neg h0] at hl
    match q1, hl.1 with
    | [x], _ => rfl
theorem reck_all {d : Nat} {Φ : Po} {E : En} {c : Co} {l t : Nat} {lI w v f : Int32} {σ : Sg} {ops : List (Int × Int)} (ht : t < 4) (hl : lI.toInt = l ∧ l < 5) (hO : Ok E c) (hE : CE σ E) (hc : rc σ 2 = c) (hw : w.toInt = -1 ∨ (0 ≤ w.toInt ∧ w.toInt < eN E)) (hv : v.toInt = -1 ∨ (0 ≤ v.toInt ∧ v.toInt < eV E)) (hf : 0 ≤ f.toInt ∧ f.toInt ≤ 9) (ho : eL E l = some ops) (hT : TxL σ t l (some ops)) (h : ∀ (σ' : Sg) (r : Int32), Fr F109 σ σ' → r.toInt = lawE E c l w.toInt v.toInt f.toInt ops → Φ (some (.int r)) σ') : wp true (d + 4) nL_reckoned [.ref 108, .ref (88 + 5 * t), .int lI, .int w, .int v, .int f] σ Φ := by
  have hLw := hE.2.2.2.2.2 l ops hl.2 ho
  obtain ⟨b1, b2, b3, b4⟩ := hT
  have hlx : ix lI = l := ix_of hl.1
  apply wL_reckoned
  rw [q_reck0 ht, hlx]
  refine ⟨⟨by omega, by omega⟩, ?_⟩
  have hfrom : (gI σ (90 + 5 * t) l).toInt = rd σ (90 + 5 * t) l := rfl
  exact lL_reckoned (d := d) (Φ := Φ) (E := E) (c := c) (l := l) (t := t) (lI := lI) (w := w) (v := v) (f := f) (σ0 := σ) ht hl hO hE hc hw hv hf b3 (a' := if l = 0 then 0 else 1) (b' := if l = 0 then 1 else 0) (by split <;> rfl) ops 0 0 [] [] σ 0 (gI σ (90 + 5 * t) l) (.retAddr 0) (.retAddr 0) hLw.2 rfl rfl (by omega) (fun _ h => by cases h) (fun _ h => by cases h) trivial rfl b4 (by omega) (by omega) Fr.rf (fun σ' r hF hr => h σ' r hF (by rw [hr]; exact evl_law hLw.2))
theorem sL_comesOf {d : Nat} {Φ : Po} {E : En} {c : Co} {σ : Sg} {w : Int32} (hO : Ok E c) (hE : CE σ E) (hc : rc σ 2 = c) (hw : 0 ≤ w.toInt ∧ w.toInt < eN E) (h : ∀ (σ' : Sg) (r : Int32), Fr F109 σ σ' → r.toInt = bi (comesF E c (ix w)) → Φ (some (.int r)) σ') : wp true (d + 5) nL_comesOf [.ref 108, .int w] σ Φ := by
  apply wL_comesOf
  simp only [pI, pL, pR, pV, eL_comesOf_0]
  have hw6 : ix w < 6 := by have := hO.1; unfold ix; omega
  have hwn : ix w < eN E := by unfold ix; omega
  have hi : ix (6 + w) = 6 + ix w := ixk rfl (by have := hO.1; omega)
  have hcw : (gI σ 2 (6 + ix w)).toInt = c (6 + ix w) := by rw [← hc]; exact (rc_at (by omega)).symm
  unfold comesF at h
  refine sL_rulingOn hE (l := 0) ⟨rfl, by omega⟩ (fun q => ?_) (fun t ops ht q hT => ?_)
  · simp only [pI, pL, pR, pV, eL_comesOf_5, eL_comesOf_33, eL_comesOf_38]
    simp only [cond, zB_1, zB_0, ne_eq, not_false_eq_true, true_and, and_true, ↓reduceIte, lg_cmp_ge, lg_cmp_le, lg_cmp_gt, lg_cmp_lt, lg_cmp_eq, ile, ilt, ieq, jle, jlt, jeq, Int32.toInt_toInt64, Int32.reduceToInt, Int64.reduceToInt, Int32.reduceNeg, Int64.reduceNeg, Int.reduceNeg, Int.reduceEq, Int.reduceLT, Int.reduceLE, Nat.reduceEqDiff, and_self, and_false, false_and, reduceCtorEq]
    exact h _ _ Fr.rf (by rw [q]; rfl)
  · simp only [pI, pL, pR, pV, eL_comesOf_5]
    rw [if_neg (by have : NUL = 99999 := rfl; omega), hi]
    refine ⟨inb_k (n := 6) rfl (by have := hO.1; omega) (by have := hO.1; omega), ?_⟩
    refine reck_all ht (l := 0) ⟨rfl, by omega⟩ hO hE hc (Or.inr hw) (Or.inl rfl) (by have := (hO.2.2.2.2.1 _ hwn).2.2.1; omega) q hT (fun σ' r hF hr => ?_)
    simp only [pI, pL, pR, pV, eL_comesOf_30, eL_comesOf_33, eL_comesOf_37, eL_comesOf_38]
    simp only [cond, zB_1, zB_0, ne_eq, not_false_eq_true, true_and, and_true, ↓reduceIte, lg_cmp_ge, lg_cmp_le, lg_cmp_gt, lg_cmp_lt, lg_cmp_eq, ile, ilt, ieq, jle, jlt, jeq, Int32.toInt_toInt64, Int32.reduceToInt, Int64.reduceToInt, Int32.reduceNeg, Int64.reduceNeg, Int.reduceNeg, Int.reduceEq, Int.reduceLT, Int.reduceLE, Nat.reduceEqDiff, and_self, and_false, false_and, reduceCtorEq]
    have hr : r.toInt = lawE E c 0 (ix w : Nat) (-1) (c (6 + ix w)) ops := by rw [hr, hcw, ix_to hw.1]; rfl
    split
    next z => exact h _ _ hF (by rw [q]; show _ = bi (decide _); rw [← hr, decide_eq_false (by omega)]; rfl)
    next z => exact h _ _ hF (by rw [q]; show _ = bi (decide _); rw [← hr, decide_eq_true (by omega)]; rfl)
theorem sL_blowsOf {d : Nat} {Φ : Po} {E : En} {c : Co} {σ : Sg} {w : Int32} (hO : Ok E c) (hE : CE σ E) (hc : rc σ 2 = c) (hw : 0 ≤ w.toInt ∧ w.toInt < eN E) (h : ∀ (σ' : Sg) (r : Int32), Fr F109 σ σ' → r.toInt = blowsF E c (ix w) → Φ (some (.int r)) σ') : wp true (d + 5) nL_blowsOf [.ref 108, .int w] σ Φ := by
  apply wL_blowsOf
  simp only [pI, pL, pR, pV, eL_blowsOf_0]
  have hw6 : ix w < 6 := by have := hO.1; unfold ix; omega
  have hwn : ix w < eN E := by unfold ix; omega
  have hi : ix (6 + w) = 6 + ix w := ixk rfl (by have := hO.1; omega)
  have hi0 : ix (0 + w) = ix w := by rw [ixk (n := 0) rfl (by have := hO.1; omega)]; omega
  have hcw : (gI σ 2 (6 + ix w)).toInt = c (6 + ix w) := by rw [← hc]; exact (rc_at (by omega)).symm
  have hco : (gI σ 2 (ix w)).toInt = c (ix w) := by rw [← hc]; exact (rc_at (by omega)).symm
  unfold blowsF at h
  refine sL_rulingOn hE (l := 1) ⟨rfl, by omega⟩ (fun q => ?_) (fun t ops ht q hT => ?_)
  · simp only [pI, pL, pR, pV, eL_blowsOf_5, eL_blowsOf_47]
    rw [if_pos rfl, hi0]
    refine ⟨inb_k (n := 0) rfl (by have := hO.1; omega) (by have := hO.1; omega), by decide, ?_⟩
    refine sL_within (by decide) (fun r hr => ?_)
    simp only [pI, pL, pR, pV, eL_blowsOf_54]
    refine h _ _ Fr.rf ?_
    rw [hr, q, tDt (by decide), hco]
    rfl
  · simp only [pI, pL, pR, pV, eL_blowsOf_5, eL_blowsOf_27]
    rw [if_neg (by have : NUL = 99999 := rfl; omega), hi]
    refine ⟨inb_k (n := 6) rfl (by have := hO.1; omega) (by have := hO.1; omega), ?_⟩
    refine reck_all ht (l := 1) ⟨rfl, by omega⟩ hO hE hc (Or.inr hw) (Or.inl rfl) (by have := (hO.2.2.2.2.1 _ hwn).2.2.1; omega) q hT (fun σ' r hF hr => ?_)
    simp only [pI, pL, pR, pV, eL_blowsOf_47]
    refine sL_within (by decide) (fun r2 hr2 => ?_)
    simp only [pI, pL, pR, pV, eL_blowsOf_54]
    refine h _ _ hF ?_
    rw [hr2, q, hr, hcw, ← ix_to hw.1]
    rfl
theorem sL_duesOf {d : Nat} {Φ : Po} {E : En} {c : Co} {σ : Sg} {w : Int32} (hO : Ok E c) (hE : CE σ E) (hc : rc σ 2 = c) (hw : 0 ≤ w.toInt ∧ w.toInt < eN E) (h : ∀ (σ' : Sg) (r : Int32), Fr F109 σ σ' → r.toInt = duesF E c (ix w) → Φ (some (.int r)) σ') : wp true (d + 5) nL_duesOf [.ref 108, .int w] σ Φ := by
  apply wL_duesOf
  simp only [pI, pL, pR, pV, eL_duesOf_0]
  have hw6 : ix w < 6 := by have := hO.1; unfold ix; omega
  have hwn : ix w < eN E := by unfold ix; omega
  have hi : ix (6 + w) = 6 + ix w := ixk rfl (by have := hO.1; omega)
  have hi0 : ix (18 + w) = 18 + ix w := ixk rfl (by have := hO.1; omega)
  have hcw : (gI σ 2 (6 + ix w)).toInt = c (6 + ix w) := by rw [← hc]; exact (rc_at (by omega)).symm
  have hco : (gI σ 2 (18 + ix w)).toInt = c (18 + ix w) := by rw [← hc]; exact (rc_at (by omega)).symm
  unfold duesF at h
  refine sL_rulingOn hE (l := 4) ⟨rfl, by omega⟩ (fun q => ?_) (fun t ops ht q hT => ?_)
  · simp only [pI, pL, pR, pV, eL_duesOf_0, eL_duesOf_5, eL_duesOf_25, eL_duesOf_45, eL_duesOf_52]
    rw [if_pos rfl, hi0]
    refine ⟨inb_k (n := 18) rfl (by have := hO.1; omega) (by have := hO.1; omega), ?_⟩
    refine sL_within (by decide) (fun r hr => ?_)
    simp only [pI, pL, pR, pV, eL_duesOf_0, eL_duesOf_5, eL_duesOf_25, eL_duesOf_45, eL_duesOf_52]
    refine h _ _ Fr.rf ?_
    rw [hr, q, hco]
    rfl
  · simp only [pI, pL, pR, pV, eL_duesOf_0, eL_duesOf_5, eL_duesOf_25, eL_duesOf_45, eL_duesOf_52]
    rw [if_neg (by have : NUL = 99999 := rfl; omega), hi]
    refine ⟨inb_k (n := 6) rfl (by have := hO.1; omega) (by have := hO.1; omega), ?_⟩
    refine reck_all ht (l := 4) ⟨rfl, by omega⟩ hO hE hc (Or.inr hw) (Or.inl rfl) (by have := (hO.2.2.2.2.1 _ hwn).2.2.1; omega) q hT (fun σ' r hF hr => ?_)
    simp only [pI, pL, pR, pV, eL_duesOf_0, eL_duesOf_5, eL_duesOf_25, eL_duesOf_45, eL_duesOf_52]
    refine sL_within (by decide) (fun r2 hr2 => ?_)
    simp only [pI, pL, pR, pV, eL_duesOf_0, eL_duesOf_5, eL_duesOf_25, eL_duesOf_45, eL_duesOf_52]
    refine h _ _ hF ?_
    rw [hr2, q, hr, hcw, ← ix_to hw.1]
    rfl
theorem sL_takesOf {d : Nat} {Φ : Po} {E : En} {c : Co} {σ : Sg} {w v f : Int32} (hO : Ok E c) (hE : CE σ E) (hc : rc σ 2 = c) (hw : 0 ≤ w.toInt ∧ w.toInt < eN E) (hv : 0 ≤ v.toInt ∧ v.toInt < eV E) (hf : 0 ≤ f.toInt ∧ f.toInt ≤ 9) (h : ∀ (σ' : Sg) (r : Int32), Fr F109 σ σ' → r.toInt = takesF E c (ix w) (ix v) f.toInt → Φ (some (.int r)) σ') : wp true (d + 5) nL_takesOf [.ref 108, .int w, .int v, .int f] σ Φ := by
  apply wL_takesOf
  simp only [pI, pL, pR, pV, eL_takesOf_0]
  have hn := hO.1
  have hnv := hO.2.1
  have hv6 : ix v < 6 := by unfold ix; omega
  have hvn : ix v < eV E := by unfold ix; omega
  have hro : (gI σ 35 (ix v)).toInt = eR E (ix v) := hE.2.2.2.1 _ hv6
  have hrb := (hO.2.2.2.2.2 _ hvn).1
  unfold takesF at h
  refine sL_rulingOn hE (l := 2) ⟨rfl, by omega⟩ (fun q => ?_) (fun t ops ht q hT => ?_)
  · simp only [pI, pL, pR, pV, eL_takesOf_5, eL_takesOf_36]
    rw [if_pos rfl]
    refine ⟨⟨by omega, by omega⟩, ?_⟩
    refine sL_within (by decide) (fun r hr => ?_)
    simp only [pI, pL, pR, pV, eL_takesOf_45]
    refine h _ _ Fr.rf ?_
    rw [hr, q, tM (by omega), hro]
    rfl
  · simp only [pI, pL, pR, pV, eL_takesOf_5, eL_takesOf_26]
    rw [if_neg (by have : NUL = 99999 := rfl; omega)]
    refine reck_all ht (l := 2) ⟨rfl, by omega⟩ hO hE hc (Or.inr hw) (Or.inr hv) hf q hT (fun σ' r hF hr => ?_)
    simp only [pI, pL, pR, pV, eL_takesOf_36]
    refine sL_within (by decide) (fun r2 hr2 => ?_)
    simp only [pI, pL, pR, pV, eL_takesOf_45]
    refine h _ _ hF ?_
    rw [hr2, q, hr, ← ix_to hw.1, ← ix_to hv.1]
    rfl
theorem sL_catchOf {d : Nat} {Φ : Po} {E : En} {c : Co} {σ : Sg} {w v f : Int32} (hO : Ok E c) (hE : CE σ E) (hc : rc σ 2 = c) (hw : w.toInt = -1 ∨ (0 ≤ w.toInt ∧ w.toInt < eN E)) (hv : 0 ≤ v.toInt ∧ v.toInt < eV E) (hf : 0 ≤ f.toInt ∧ f.toInt ≤ 9) (h : ∀ (σ' : Sg) (r : Int32), Fr F109 σ σ' → r.toInt = catchF E c w.toInt (ix v) f.toInt → Φ (some (.int r)) σ') : wp true (d + 5) nL_catchOf [.ref 108, .int w, .int v, .int f] σ Φ := by
  apply wL_catchOf
  simp only [pI, pL, pR, pV, eL_catchOf_0]
  have hn := hO.1
  have hnv := hO.2.1
  have hvn : ix v < eV E := by unfold ix; omega
  unfold catchF at h
  have cn : (w = -1) = (w.toInt = -1) := by rw [ieq]; rfl
  refine sL_rulingOn hE (l := 3) ⟨rfl, by omega⟩ (fun q => ?_) (fun t ops ht q hT => ?_)
  · simp only [pI, pL, pR, pV, eL_catchOf_5, eL_catchOf_16, eL_catchOf_17, eL_catchOf_39]
    rw [cn]
    split
    next z =>
      rw [if_pos rfl]
      refine sL_within (by decide) (fun r hr => ?_)
      simp only [pI, pL, pR, pV, eL_catchOf_44]
      refine h _ _ Fr.rf ?_
      rw [hr, q]
      show _ = clamp 0 99 (if _ then _ else _)
      rw [if_pos z]
      rfl
    next z =>
      rw [if_pos rfl]
      refine sL_within (by decide) (fun r hr => ?_)
      simp only [pI, pL, pR, pV, eL_catchOf_44]
      refine h _ _ Fr.rf ?_
      rw [hr, q]
      show _ = clamp 0 99 (if _ then _ else _)
      rw [if_neg z]
      rfl
  · simp only [pI, pL, pR, pV, eL_catchOf_5, eL_catchOf_16, eL_catchOf_17, eL_catchOf_29]
    have nn : ¬ (88 + 5 * t = NUL) := by have : NUL = 99999 := rfl; omega
    simp only [nn, ↓reduceIte]
    have fin : ∀ z : Int32, wp true (d + 4) nL_reckoned [.ref 108, .ref (88 + 5 * t), .int 3, .int w, .int v, .int f] σ (fun v_1 σ => match v_1 with | some (.int x) => bL_catchOf_39 true NOB (wp true (d + 4)) Φ (kL_catchOf (d + 4) Φ) [.ref 108, .int w, .int v, .int f, .ref (88 + 5 * t), .int z] [.int x] σ | _ => False) := by
      intro z
      refine reck_all ht (l := 3) ⟨rfl, by omega⟩ hO hE hc hw (Or.inr hv) hf q hT (fun σ' r hF hr => ?_)
      simp only [pI, pL, pR, pV, eL_catchOf_39]
      refine sL_within (by decide) (fun r2 hr2 => ?_)
      simp only [pI, pL, pR, pV, eL_catchOf_44]
      refine h _ _ hF ?_
      rw [hr2, q, hr, ← ix_to hv.1]
      rfl
    split
    · exact fin 0
    · exact fin 3
/-! THE REFERENCE: its accessors, by the core's cells -/
theorem sM_get {d : Nat} {Φ : Po} {σ : Sg} {w k : Int32} (n : Nat) {j : Nat} (hk : k.toInt = j) (hn : 12 + 8 * ix w + j = n) (hw : 0 ≤ w.toInt ∧ w.toInt < 6) (hj : j < 8) (h : ∀ v : Int32, v.toInt = rd σ 121 n → Φ (some (.int v)) σ) : wp true (d + 1) nM_get [.ref 120, .int w, .int k] σ Φ := by
  apply wM_get
  simp only [pI, pL, pR, pV, eM_get_0]
  have hx := ix_to hw.1
  have e : ((12 + 8 * w) + k).toInt = (n : Int) := by
    simp only [ta, tm, Int32.reduceToInt]
    omega
  rw [ix_nat e]
  refine ⟨?_, h _ rfl⟩
  unfold inb
  rw [e]
  omega
theorem sM_put {d : Nat} {Φ : Po} {σ : Sg} {w k v : Int32} (n : Nat) {j : Nat} (hk : k.toInt = j) (hn : 12 + 8 * ix w + j = n) (hw : 0 ≤ w.toInt ∧ w.toInt < 6) (hj : j < 8) (h : Φ none (sI σ 121 n v)) : wp true (d + 1) nM_put [.ref 120, .int w, .int k, .int v] σ Φ := by
  apply wM_put
  simp only [pI, pL, pR, pV, eM_put_0]
  have hx := ix_to hw.1
  have e : ((12 + 8 * w) + k).toInt = (n : Int) := by
    simp only [ta, tm, Int32.reduceToInt]
    omega
  rw [ix_nat e]
  refine ⟨?_, h⟩
  unfold inb
  rw [e]
  omega
theorem sM_of {d : Nat} {Φ : Po} {σ : Sg} {w k : Int32} (n : Nat) {j : Nat} (hk : k.toInt = j) (hn : 60 + 4 * ix w + j = n) (hw : 0 ≤ w.toInt ∧ w.toInt < 6) (hj : j < 4) (h : ∀ v : Int32, v.toInt = rd σ 121 n → Φ (some (.int v)) σ) : wp true (d + 1) nM_of [.ref 120, .int w, .int k] σ Φ := by
  apply wM_of
  simp only [pI, pL, pR, pV, eM_of_0]
  have hx := ix_to hw.1
  have e : ((60 + 4 * w) + k).toInt = (n : Int) := by
    simp only [ta, tm, Int32.reduceToInt]
    omega
  rw [ix_nat e]
  refine ⟨?_, h _ rfl⟩
  unfold inb
  rw [e]
  omega
theorem sM_lay {d : Nat} {Φ : Po} {σ : Sg} {w k v : Int32} (n : Nat) {j : Nat} (hk : k.toInt = j) (hn : 60 + 4 * ix w + j = n) (hw : 0 ≤ w.toInt ∧ w.toInt < 6) (hj : j < 4) (h : Φ none (sI σ 121 n v)) : wp true (d + 1) nM_lay [.ref 120, .int w, .int k, .int v] σ Φ := by
  apply wM_lay
  simp only [pI, pL, pR, pV, eM_lay_0]
  have hx := ix_to hw.1
  have e : ((60 + 4 * w) + k).toInt = (n : Int) := by
    simp only [ta, tm, Int32.reduceToInt]
    omega
  rw [ix_nat e]
  refine ⟨?_, h⟩
  unfold inb
  rw [e]
  omega
theorem ix6 {w : Int32} (h : 0 ≤ w.toInt ∧ w.toInt < 6) : ix w < 6 := by unfold ix; omega
theorem sM_getO {d : Nat} {Φ : Po} {σ : Sg} {w : Int32} (hw : 0 ≤ w.toInt ∧ w.toInt < 6) (h : ∀ v : Int32, v.toInt = mc σ 121 (ix w) → Φ (some (.int v)) σ) : wp true (d + 1) nM_get [.ref 120, .int w, .int 3] σ Φ :=
  sM_get (15 + 8 * ix w) (j := 3) rfl (by omega) hw (by omega) (fun v hv => h v (by have := ix6 hw; rw [hv, mc_at (by omega), mix_o this]))
theorem sM_putO {d : Nat} {Φ : Po} {σ : Sg} {w v : Int32} (hw : 0 ≤ w.toInt ∧ w.toInt < 6) (h : ∀ σ' : Sg, σ' = sI σ 121 (15 + 8 * ix w) v → mc σ' 121 = upd (mc σ 121) (ix w) v.toInt → Φ none σ') : wp true (d + 1) nM_put [.ref 120, .int w, .int 3, .int v] σ Φ :=
  sM_put (15 + 8 * ix w) (j := 3) rfl (by omega) hw (by omega) (h _ rfl (by have := ix6 hw; exact mc_sI (by omega) (mix_o this).symm))
theorem sM_getF {d : Nat} {Φ : Po} {σ : Sg} {w : Int32} (hw : 0 ≤ w.toInt ∧ w.toInt < 6) (h : ∀ v : Int32, v.toInt = mc σ 121 (6 + ix w) → Φ (some (.int v)) σ) : wp true (d + 1) nM_get [.ref 120, .int w, .int 4] σ Φ :=
  sM_get (16 + 8 * ix w) (j := 4) rfl (by omega) hw (by omega) (fun v hv => h v (by have := ix6 hw; rw [hv, mc_at (by omega), mix_f this]))
theorem sM_putF {d : Nat} {Φ : Po} {σ : Sg} {w v : Int32} (hw : 0 ≤ w.toInt ∧ w.toInt < 6) (h : ∀ σ' : Sg, σ' = sI σ 121 (16 + 8 * ix w) v → mc σ' 121 = upd (mc σ 121) (6 + ix w) v.toInt → Φ none σ') : wp true (d + 1) nM_put [.ref 120, .int w, .int 4, .int v] σ Φ :=
  sM_put (16 + 8 * ix w) (j := 4) rfl (by omega) hw (by omega) (h _ rfl (by have := ix6 hw; exact mc_sI (by omega) (mix_f this).symm))
theorem sM_getW {d : Nat} {Φ : Po} {σ : Sg} {w : Int32} (hw : 0 ≤ w.toInt ∧ w.toInt < 6) (h : ∀ v : Int32, v.toInt = mc σ 121 (12 + ix w) → Φ (some (.int v)) σ) : wp true (d + 1) nM_get [.ref 120, .int w, .int 1] σ Φ :=
  sM_get (13 + 8 * ix w) (j := 1) rfl (by omega) hw (by omega) (fun v hv => h v (by have := ix6 hw; rw [hv, mc_at (by omega), mix_w this]))
theorem sM_putW {d : Nat} {Φ : Po} {σ : Sg} {w v : Int32} (hw : 0 ≤ w.toInt ∧ w.toInt < 6) (h : ∀ σ' : Sg, σ' = sI σ 121 (13 + 8 * ix w) v → mc σ' 121 = upd (mc σ 121) (12 + ix w) v.toInt → Φ none σ') : wp true (d + 1) nM_put [.ref 120, .int w, .int 1, .int v] σ Φ :=
  sM_put (13 + 8 * ix w) (j := 1) rfl (by omega) hw (by omega) (h _ rfl (by have := ix6 hw; exact mc_sI (by omega) (mix_w this).symm))
theorem sM_getD {d : Nat} {Φ : Po} {σ : Sg} {w : Int32} (hw : 0 ≤ w.toInt ∧ w.toInt < 6) (h : ∀ v : Int32, v.toInt = mc σ 121 (18 + ix w) → Φ (some (.int v)) σ) : wp true (d + 1) nM_get [.ref 120, .int w, .int 2] σ Φ :=
  sM_get (14 + 8 * ix w) (j := 2) rfl (by omega) hw (by omega) (fun v hv => h v (by have := ix6 hw; rw [hv, mc_at (by omega), mix_d this]))
theorem sM_putD {d : Nat} {Φ : Po} {σ : Sg} {w v : Int32} (hw : 0 ≤ w.toInt ∧ w.toInt < 6) (h : ∀ σ' : Sg, σ' = sI σ 121 (14 + 8 * ix w) v → mc σ' 121 = upd (mc σ 121) (18 + ix w) v.toInt → Φ none σ') : wp true (d + 1) nM_put [.ref 120, .int w, .int 2, .int v] σ Φ :=
  sM_put (14 + 8 * ix w) (j := 2) rfl (by omega) hw (by omega) (h _ rfl (by have := ix6 hw; exact mc_sI (by omega) (mix_d this).symm))
theorem sM_getG {d : Nat} {Φ : Po} {σ : Sg} {w : Int32} (hw : 0 ≤ w.toInt ∧ w.toInt < 6) (h : ∀ v : Int32, v.toInt = mc σ 121 (24 + ix w) → Φ (some (.int v)) σ) : wp true (d + 1) nM_get [.ref 120, .int w, .int 5] σ Φ :=
  sM_get (17 + 8 * ix w) (j := 5) rfl (by omega) hw (by omega) (fun v hv => h v (by have := ix6 hw; rw [hv, mc_at (by omega), mix_g this]))
theorem sM_putG {d : Nat} {Φ : Po} {σ : Sg} {w v : Int32} (hw : 0 ≤ w.toInt ∧ w.toInt < 6) (h : ∀ σ' : Sg, σ' = sI σ 121 (17 + 8 * ix w) v → mc σ' 121 = upd (mc σ 121) (24 + ix w) v.toInt → Φ none σ') : wp true (d + 1) nM_put [.ref 120, .int w, .int 5, .int v] σ Φ :=
  sM_put (17 + 8 * ix w) (j := 5) rfl (by omega) hw (by omega) (h _ rfl (by have := ix6 hw; exact mc_sI (by omega) (mix_g this).symm))
theorem sM_ofP {d : Nat} {Φ : Po} {σ : Sg} {w : Int32} (hw : 0 ≤ w.toInt ∧ w.toInt < 6) (h : ∀ v : Int32, v.toInt = mc σ 121 (30 + ix w) → Φ (some (.int v)) σ) : wp true (d + 1) nM_of [.ref 120, .int w, .int 1] σ Φ :=
  sM_of (61 + 4 * ix w) (j := 1) rfl (by omega) hw (by omega) (fun v hv => h v (by have := ix6 hw; rw [hv, mc_at (by omega), mix_p this]))
theorem sM_layP {d : Nat} {Φ : Po} {σ : Sg} {w v : Int32} (hw : 0 ≤ w.toInt ∧ w.toInt < 6) (h : ∀ σ' : Sg, σ' = sI σ 121 (61 + 4 * ix w) v → mc σ' 121 = upd (mc σ 121) (30 + ix w) v.toInt → Φ none σ') : wp true (d + 1) nM_lay [.ref 120, .int w, .int 1, .int v] σ Φ :=
  sM_lay (61 + 4 * ix w) (j := 1) rfl (by omega) hw (by omega) (h _ rfl (by have := ix6 hw; exact mc_sI (by omega) (mix_p this).symm))
theorem sM_ofT {d : Nat} {Φ : Po} {σ : Sg} {w : Int32} (hw : 0 ≤ w.toInt ∧ w.toInt < 6) (h : ∀ v : Int32, v.toInt = mc σ 121 (36 + ix w) → Φ (some (.int v)) σ) : wp true (d + 1) nM_of [.ref 120, .int w, .int 2] σ Φ :=
  sM_of (62 + 4 * ix w) (j := 2) rfl (by omega) hw (by omega) (fun v hv => h v (by have := ix6 hw; rw [hv, mc_at (by omega), mix_t this]))
theorem sM_layT {d : Nat} {Φ : Po} {σ : Sg} {w v : Int32} (hw : 0 ≤ w.toInt ∧ w.toInt < 6) (h : ∀ σ' : Sg, σ' = sI σ 121 (62 + 4 * ix w) v → mc σ' 121 = upd (mc σ 121) (36 + ix w) v.toInt → Φ none σ') : wp true (d + 1) nM_lay [.ref 120, .int w, .int 2, .int v] σ Φ :=
  sM_lay (62 + 4 * ix w) (j := 2) rfl (by omega) hw (by omega) (h _ rfl (by have := ix6 hw; exact mc_sI (by omega) (mix_t this).symm))
theorem sM_isIn {d : Nat} {Φ : Po} {σ : Sg} {v a b : Int32} (h1 : a.toInt ≤ v.toInt ∧ v.toInt ≤ b.toInt → Φ (some (.int 1)) σ) (h0 : ¬ (a.toInt ≤ v.toInt ∧ v.toInt ≤ b.toInt) → Φ (some (.int 0)) σ) : wp true (d + 1) nM_isIn [.int v, .int a, .int b] σ Φ := by
  apply wM_isIn
  simp only [pI, pL, pR, pV, eM_isIn_0, eM_isIn_14, eM_isIn_15]
  simp only [cond, zB_1, zB_0, ne_eq, not_false_eq_true, true_and, and_true, ↓reduceIte, lg_cmp_ge, lg_cmp_le, lg_cmp_gt, lg_cmp_lt, lg_cmp_eq, ile, ilt, ieq, jle, jlt, jeq, Int32.toInt_toInt64, Int32.reduceToInt, Int64.reduceToInt, Int32.reduceNeg, Int64.reduceNeg, Int.reduceNeg, Int.reduceEq, Int.reduceLT, Int.reduceLE, Nat.reduceEqDiff, and_self, and_false, false_and, reduceCtorEq]
  split
  · exact h0 (by omega)
  · split
    · exact h0 (by omega)
    · exact h1 (by omega)
theorem sM_cut {d : Nat} {Φ : Po} {σ : Sg} {v : Int64} {a b : Int32} (hab : a.toInt ≤ b.toInt) (h : ∀ r : Int32, r.toInt = clamp a.toInt b.toInt v.toInt → Φ (some (.int r)) σ) : wp true (d + 1) nM_cut [.long v, .int a, .int b] σ Φ := by
  apply wM_cut
  simp only [pI, pL, pR, pV, eM_cut_0, eM_cut_11, eM_cut_22, eM_cut_24]
  simp only [cond, zB_1, zB_0, ne_eq, not_false_eq_true, true_and, and_true, ↓reduceIte, lg_cmp_ge, lg_cmp_le, lg_cmp_gt, lg_cmp_lt, lg_cmp_eq, ile, ilt, ieq, jle, jlt, jeq, Int32.toInt_toInt64, Int32.reduceToInt, Int64.reduceToInt, Int32.reduceNeg, Int64.reduceNeg, Int.reduceNeg, Int.reduceEq, Int.reduceLT, Int.reduceLE, Nat.reduceEqDiff, and_self, and_false, false_and, reduceCtorEq]
  unfold clamp at h
  have := trng a
  have := trng b
  split
  · split
    · exact h _ (by rw [j32 (by omega), if_neg (by omega), if_neg (by omega)])
    · exact h _ (by rw [if_neg (by omega), if_pos (by omega)])
  · exact h _ (by rw [if_pos (by omega)])
theorem sM_isWind {d : Nat} {Φ : Po} {σ : Sg} {w : Int32} (hn : 0 ≤ rd σ 121 0 ∧ rd σ 121 0 ≤ 6) (h1 : 0 ≤ w.toInt ∧ w.toInt < rd σ 121 0 → Φ (some (.int 1)) σ) (h0 : ¬ (0 ≤ w.toInt ∧ w.toInt < rd σ 121 0) → Φ (some (.int 0)) σ) : wp true (d + 2) nM_isWind [.ref 120, .int w] σ Φ := by
  apply wM_isWind
  simp only [pI, pL, pR, pV, eM_isWind_0, eM_isWind_13]
  refine ⟨⟨by decide, by decide⟩, ?_⟩
  have e : (gI σ 121 (ix 0) - 1).toInt = rd σ 121 0 - 1 := by
    rw [tM (by show _ ≤ rd σ 121 0 - 1 ∧ rd σ 121 0 - 1 < _; omega)]
    rfl
  refine sM_isIn (fun q => ?_) (fun q => ?_)
  · simp only [pI, pL, pR, pV, eM_isWind_0, eM_isWind_13, cond, zB_1, zB_0, ne_eq, not_false_eq_true, true_and, and_true, ↓reduceIte, lg_cmp_ge, lg_cmp_le, lg_cmp_gt, lg_cmp_lt, lg_cmp_eq, ile, ilt, ieq, jle, jlt, jeq, Int32.toInt_toInt64, Int32.reduceToInt, Int64.reduceToInt, Int32.reduceNeg, Int64.reduceNeg, Int.reduceNeg, Int.reduceEq, Int.reduceLT, Int.reduceLE, Nat.reduceEqDiff, and_self, and_false, false_and, reduceCtorEq]
    rw [e] at q
    exact h1 ⟨q.1, by omega⟩
  · simp only [pI, pL, pR, pV, eM_isWind_0, eM_isWind_13, cond, zB_1, zB_0, ne_eq, not_false_eq_true, true_and, and_true, ↓reduceIte, lg_cmp_ge, lg_cmp_le, lg_cmp_gt, lg_cmp_lt, lg_cmp_eq, ile, ilt, ieq, jle, jlt, jeq, Int32.toInt_toInt64, Int32.reduceToInt, Int64.reduceToInt, Int32.reduceNeg, Int64.reduceNeg, Int.reduceNeg, Int.reduceEq, Int.reduceLT, Int.reduceLE, Nat.reduceEqDiff, and_self, and_false, false_and, reduceCtorEq]
    rw [e] at q
    refine h0 (fun z => q ⟨z.1, by omega⟩)
theorem sM_isVillage {d : Nat} {Φ : Po} {σ : Sg} {w : Int32} (hn : 0 ≤ rd σ 121 1 ∧ rd σ 121 1 ≤ 6) (h1 : 0 ≤ w.toInt ∧ w.toInt < rd σ 121 1 → Φ (some (.int 1)) σ) (h0 : ¬ (0 ≤ w.toInt ∧ w.toInt < rd σ 121 1) → Φ (some (.int 0)) σ) : wp true (d + 2) nM_isVillage [.ref 120, .int w] σ Φ := by
  apply wM_isVillage
  simp only [pI, pL, pR, pV, eM_isVillage_0, eM_isVillage_13]
  refine ⟨⟨by decide, by decide⟩, ?_⟩
  have e : (gI σ 121 (ix 1) - 1).toInt = rd σ 121 1 - 1 := by
    rw [tM (by show _ ≤ rd σ 121 1 - 1 ∧ rd σ 121 1 - 1 < _; omega)]
    rfl
  refine sM_isIn (fun q => ?_) (fun q => ?_)
  · simp only [pI, pL, pR, pV, eM_isVillage_0, eM_isVillage_13, cond, zB_1, zB_0, ne_eq, not_false_eq_true, true_and, and_true, ↓reduceIte, lg_cmp_ge, lg_cmp_le, lg_cmp_gt, lg_cmp_lt, lg_cmp_eq, ile, ilt, ieq, jle, jlt, jeq, Int32.toInt_toInt64, Int32.reduceToInt, Int64.reduceToInt, Int32.reduceNeg, Int64.reduceNeg, Int.reduceNeg, Int.reduceEq, Int.reduceLT, Int.reduceLE, Nat.reduceEqDiff, and_self, and_false, false_and, reduceCtorEq]
    rw [e] at q
    exact h1 ⟨q.1, by omega⟩
  · simp only [pI, pL, pR, pV, eM_isVillage_0, eM_isVillage_13, cond, zB_1, zB_0, ne_eq, not_false_eq_true, true_and, and_true, ↓reduceIte, lg_cmp_ge, lg_cmp_le, lg_cmp_gt, lg_cmp_lt, lg_cmp_eq, ile, ilt, ieq, jle, jlt, jeq, Int32.toInt_toInt64, Int32.reduceToInt, Int64.reduceToInt, Int32.reduceNeg, Int64.reduceNeg, Int.reduceNeg, Int.reduceEq, Int.reduceLT, Int.reduceLE, Nat.reduceEqDiff, and_self, and_false, false_and, reduceCtorEq]
    rw [e] at q
    refine h0 (fun z => q ⟨z.1, by omega⟩)
/-! THE REFERENCE'S LAWS -/
def MCode (σ : Sg) (t : Nat) : Nat → List (Int × Int) → Prop
  | _, [] => True
  | i, (o, v) :: r => (rd σ 123 (705 * t + 97 + 2 * i) = o ∧ rd σ 123 (705 * t + 98 + 2 * i) = v) ∧ MCode σ t (i + 1) r
def MxL (σ : Sg) (t l : Nat) (x : Option (List (Int × Int))) : Prop := match x with
  | none => ∀ k : Nat, (k : Int) < rd σ 123 (705 * t) → rd σ 123 (705 * t + 1 + 4 * k) ≠ l
  | some ops => ∃ k : Nat, (k : Int) < rd σ 123 (705 * t) ∧ rd σ 123 (705 * t + 1 + 4 * k) = l ∧ (∀ j, j < k → rd σ 123 (705 * t + 1 + 4 * j) ≠ l) ∧ 0 ≤ rd σ 123 (705 * t + 2 + 4 * k) ∧ rd σ 123 (705 * t + 3 + 4 * k) = rd σ 123 (705 * t + 2 + 4 * k) + ops.length ∧ rd σ 123 (705 * t + 3 + 4 * k) ≤ 300 ∧ MCode σ t (rd σ 123 (705 * t + 2 + 4 * k)).toNat ops
def MT (σ : Sg) (E : En) : Prop := (-1 ≤ rd σ 121 3 ∧ rd σ 121 3 < 4) ∧ (rd σ 121 3 = -1 → ∀ l, eL E l = none) ∧ (∀ t : Nat, t < 4 → rd σ 121 3 = t → (0 ≤ rd σ 123 (705 * t) ∧ rd σ 123 (705 * t) ≤ 24) ∧ ∀ l, l < 5 → MxL σ t l (eL E l))
/-- the reference's world holds E -/
def ME (σ : Sg) (E : En) : Prop := rd σ 121 0 = eN E ∧ rd σ 121 1 = eV E ∧ (∀ w, w < 6 → rd σ 121 (12 + 8 * w) = eQ E w) ∧ (∀ v, v < 6 → rd σ 121 (60 + 4 * v) = eR E v) ∧ MT σ E ∧ LwOk E
theorem MCode.fr {S : List (Nat × Nat × Nat)} {σ σ' : Sg} (h : Fr S σ σ') {t : Nat} (e : ∀ k, inS S 123 k = false) : ∀ (ops : List (Int × Int)) (i : Nat), MCode σ t i ops → MCode σ' t i ops
  | [], _, _ => trivial
  | (o, v) :: r, i, ⟨⟨h1, h3⟩, h2⟩ => ⟨⟨(h.rd (e _)).trans h1, (h.rd (e _)).trans h3⟩, MCode.fr h e r (i + 1) h2⟩
theorem MxL.fr {S : List (Nat × Nat × Nat)} {σ σ' : Sg} (h : Fr S σ σ') {t l : Nat} (e : ∀ k, inS S 123 k = false) {x : Option (List (Int × Int))} (g : MxL σ t l x) : MxL σ' t l x := by
  have r : ∀ k, rd σ' 123 k = rd σ 123 k := fun k => h.rd (e k)
  cases x with
  | none =>
    intro k hk
    rw [r] at hk ⊢
    exact g k hk
  | some ops =>
    obtain ⟨k, h1, h2, h3, h4, h5, h6, h7⟩ := g
    refine ⟨k, ?_, ?_, ?_, ?_, ?_, ?_, ?_⟩
    · rw [r]; exact h1
    · rw [r]; exact h2
    · intro j hj; rw [r]; exact h3 j hj
    · rw [r]; exact h4
    · rw [r, r]; exact h5
    · rw [r]; exact h6
    · rw [r]; exact MCode.fr h e _ _ h7
theorem ME.of {σ σ' : Sg} {E : En} (e1 : rd σ' 121 0 = rd σ 121 0 ∧ rd σ' 121 1 = rd σ 121 1 ∧ rd σ' 121 3 = rd σ 121 3) (e2 : ∀ w, w < 6 → rd σ' 121 (12 + 8 * w) = rd σ 121 (12 + 8 * w)) (e3 : ∀ v, v < 6 → rd σ' 121 (60 + 4 * v) = rd σ 121 (60 + 4 * v)) (e4 : ∀ k, rd σ' 123 k = rd σ 123 k) (g : ME σ E) : ME σ' E := by
  obtain ⟨g1, g2, g3, g4, ⟨g5, g6, g7⟩, g8⟩ := g
  have cd : ∀ (ops : List (Int × Int)) (t i : Nat), MCode σ t i ops → MCode σ' t i ops := by
    intro ops
    induction ops with
    | nil => intro _ _ _; trivial
    | cons p r ih =>
      intro t i hh
      obtain ⟨o, v⟩ := p
      obtain ⟨⟨h1, h2⟩, h3⟩ := hh
      exact ⟨⟨(e4 _).trans h1, (e4 _).trans h2⟩, ih _ _ h3⟩
  refine ⟨e1.1.trans g1, e1.2.1.trans g2, fun w hw => (e2 w hw).trans (g3 w hw), fun v hv => (e3 v hv).trans (g4 v hv), ⟨?_, ?_, ?_⟩, g8⟩
  · rw [e1.2.2]; exact g5
  · rw [e1.2.2]; exact g6
  · rw [e1.2.2]
    intro t ht hr
    obtain ⟨q1, q2⟩ := g7 t ht hr
    refine ⟨by rw [e4]; exact q1, fun l hl => ?_⟩
    have g := q2 l hl
    cases hx : eL E l with
    | none =>
      rw [hx] at g
      intro k hk
      rw [e4] at hk ⊢
      exact g k hk
    | some ops =>
      rw [hx] at g
      obtain ⟨k, h1, h2, h3, h4, h5, h6, h7⟩ := g
      refine ⟨k, ?_, ?_, ?_, ?_, ?_, ?_, ?_⟩
      · rw [e4]; exact h1
      · rw [e4]; exact h2
      · intro j hj; rw [e4]; exact h3 j hj
      · rw [e4]; exact h4
      · rw [e4, e4]; exact h5
      · rw [e4]; exact h6
      · rw [e4]; exact cd _ _ _ h7
abbrev FML : List (Nat × Nat × Nat) := [(126, 0, 8), (127, 0, 330), (128, 0, 330)]
theorem inS3 {a k : Nat} (h : a ≠ 126 ∧ a ≠ 127 ∧ a ≠ 128) : inS FML a k = false := by
  unfold inS FML
  simp only [List.any_cons, List.any_nil, Bool.or_false, Bool.or_eq_false_iff, Bool.and_eq_false_iff]
  refine ⟨Or.inl ?_, Or.inl ?_, Or.inl ?_⟩ <;> exact Nat.beq_eq_false_iff_ne.mpr (by omega)
theorem fml_rd {σ σ' : Sg} (h : Fr FML σ σ') {a k : Nat} (ha : a ≠ 126 ∧ a ≠ 127 ∧ a ≠ 128) : rd σ' a k = rd σ a k := h.rd (inS3 ha)
theorem fml_mc {σ σ' : Sg} (h : Fr FML σ σ') : mc σ' 121 = mc σ 121 := Fr.mc h (fun _ _ => inS3 (by omega))
theorem fml_ME {σ σ' : Sg} {E : En} (h : Fr FML σ σ') (g : ME σ E) : ME σ' E := ME.of ⟨fml_rd h (by omega), fml_rd h (by omega), fml_rd h (by omega)⟩ (fun _ _ => fml_rd h (by omega)) (fun _ _ => fml_rd h (by omega)) (fun _ => fml_rd h (by omega)) g
theorem f126 {σ : Sg} {n : Nat} {v : Int32} (h : n < 8) : Fr FML σ (sI σ 126 n v) := Fr.sI (inS_r (lo := 0) (hi := 8) (by simp) ⟨Nat.zero_le _, h⟩)
theorem f128 {σ : Sg} {n : Nat} {v : Int32} (h : n < 330) : Fr FML σ (sI σ 128 n v) := Fr.sI (inS_r (lo := 0) (hi := 330) (by simp) ⟨Nat.zero_le _, h⟩)
theorem f127 {σ : Sg} {n : Nat} {v : Int64} (h : n < 330) : Fr FML σ (sL σ 127 n v) := Fr.sL (inS_r (lo := 0) (hi := 330) (by simp) ⟨Nat.zero_le _, h⟩)
/-- what names are -/
def NmL (σ : Sg) (E : En) (c : Co) (w v f : Int) (m : Nat) : Prop := ∀ j : Nat, j < m → rd σ 126 j = nmv E c w v f j
theorem sM_name {d : Nat} {Φ : Po} {σ : Sg} {E : En} {c : Co} {w o f : Int32} (hO : Ok E c) (hE : ME σ E) (hc : mc σ 121 = c) (hw : 0 ≤ w.toInt ∧ w.toInt < eN E) (ho : o.toInt = c (ix w)) (v : Int) (h : ∀ σ' : Sg, Fr FML σ σ' → NmL σ' E c w.toInt v f.toInt 6 → (∀ j, 6 ≤ j → rd σ' 126 j = rd σ 126 j) → Φ none σ') : wp true (d + 2) nM_name [.ref 120, .int w, .int o, .int f] σ Φ := by
  apply wM_name
  simp only [pI, pL, pR, pV, eM_name_0]
  have hn := hO.1
  have hw' : 0 ≤ w.toInt ∧ w.toInt < 6 := by omega
  have hw6 := ix6 hw'
  have hwt : w.toInt.toNat = ix w := rfl
  refine ⟨⟨by decide, by decide⟩, ⟨by decide, by decide⟩, ?_⟩
  refine sM_get (12 + 8 * ix w) (j := 0) rfl (by omega) hw' (by omega) (fun x1 h1 => ?_)
  simp only [pI, pL, pR, pV, eM_name_24]
  refine ⟨⟨by decide, by decide⟩, ⟨by decide, by decide⟩, ?_⟩
  refine sM_getD hw' (fun x2 h2 => ?_)
  simp only [pI, pL, pR, pV, eM_name_43]
  refine ⟨⟨by decide, by decide⟩, ?_⟩
  refine sM_getW hw' (fun x3 h3 => ?_)
  simp only [pI, pL, pR, pV, eM_name_55]
  refine ⟨⟨by decide, by decide⟩, ⟨by decide, by decide⟩, ?_⟩
  have hF0 : Fr FML σ (sI σ 126 0 (gI σ 121 8)) := f126 (by omega)
  have hF1 : Fr FML σ (sI (sI (sI σ 126 0 (gI σ 121 8)) 126 1 x1) 126 2 o) := (hF0.tr (f126 (by omega))).tr (f126 (by omega))
  have hF2 : Fr FML σ (sI (sI (sI (sI σ 126 0 (gI σ 121 8)) 126 1 x1) 126 2 o) 126 3 x2) := hF1.tr (f126 (by omega))
  have h1 : x1.toInt = eQ E (ix w) := by
    rw [h1]
    exact (fml_rd hF0 (by omega)).trans (hE.2.2.1 _ hw6)
  have h2 : x2.toInt = c (18 + ix w) := by
    rw [h2, ← hc]
    exact congrFun (fml_mc hF1) _
  have h3 : x3.toInt = c (12 + ix w) := by
    rw [h3, ← hc]
    exact congrFun (fml_mc hF2) _
  have h0 : rd σ 121 8 = c 42 := by rw [← hc]; rfl
  refine h _ ((hF2.tr (f126 (n := 4) (v := x3) (by omega))).tr (f126 (n := 5) (v := f) (by omega))) (fun j hj => ?_) (fun j hj => ?_)
  · have j6 : j = 0 ∨ j = 1 ∨ j = 2 ∨ j = 3 ∨ j = 4 ∨ j = 5 := by omega
    have nn : ¬ (w.toInt < 0) := by omega
    rcases j6 with rfl | rfl | rfl | rfl | rfl | rfl
    · exact h0
    · refine h1.trans ?_
      unfold nmv
      rw [if_neg nn, hwt]
      rfl
    · refine ho.trans ?_
      unfold nmv
      rw [if_neg nn, hwt]
      rfl
    · refine h2.trans ?_
      unfold nmv
      rw [if_neg nn, hwt]
      rfl
    · refine h3.trans ?_
      unfold nmv
      rw [if_neg nn, hwt]
      rfl
    · rfl
  · show rd (sI (sI (sI (sI (sI (sI σ 126 0 (gI σ 121 8)) 126 1 x1) 126 2 o) 126 3 x2) 126 4 x3) 126 5 f) 126 j = _
    rw [rdne2 (by omega), rdne2 (by omega), rdne2 (by omega), rdne2 (by omega), rdne2 (by omega), rdne2 (by omega)]
theorem lM_nameVillage {d : Nat} {Φ : Po} {E : En} {c : Co} {w v f : Int32} {σ0 : Sg} (hO : Ok E c) (hE : ME σ0 E) (hc : mc σ0 121 = c) (hw : w.toInt = -1 ∨ (0 ≤ w.toInt ∧ w.toInt < eN E)) (hv : 0 ≤ v.toInt ∧ v.toInt < eV E) (hf0 : w.toInt = -1 → f.toInt = 0) (h : ∀ σ' : Sg, Fr FML σ0 σ' → NmL σ' E c w.toInt v.toInt f.toInt 8 → Φ none σ') :
    ∀ (n : Nat) (σ : Sg) (x : Int32), x.toInt + n = 6 → 1 ≤ x.toInt → Fr FML σ0 σ → (∀ j : Nat, 1 ≤ j → (j : Int) < x.toInt → rd σ 126 j = 0) → bM_nameVillage_3 true NOB (wp true (d + 2)) Φ (kM_nameVillage (d + 2) Φ) [.ref 120, .int w, .int v, .int f, .int x] [] σ
  | 0, σ, x, hx, hx1, hF, hz => by
    simp only [pI, pL, pR, pV, eM_nameVillage_3, eM_nameVillage_24]
    rw [ile, if_pos (by rw [show (6 : Int32).toInt = 6 from rfl]; omega)]
    have hn := hO.1
    have hnv := hO.2.1
    have hvw : 0 ≤ v.toInt ∧ v.toInt < 6 := by omega
    have hv6 := ix6 hvw
    have cn : (w = -1) = (w.toInt = -1) := by rw [ieq]; rfl
    have hvt : v.toInt.toNat = ix v := rfl
    rw [cn]
    have day : (gI σ 121 (ix 8)).toInt = c 42 := by
      show rd σ 121 8 = _
      rw [fml_rd hF (by omega), ← hc]
      rfl
    refine ⟨⟨by decide, by decide⟩, ⟨by decide, by decide⟩, ?_⟩
    have hF1 : Fr FML σ0 (sI σ 126 (ix 0) (gI σ 121 (ix 8))) := hF.tr (f126 (by decide))
    have fin : ∀ σ1 : Sg, Fr FML σ0 σ1 → NmL σ1 E c w.toInt v.toInt f.toInt 6 → bM_nameVillage_54 true NOB (wp true (d + 2)) Φ (kM_nameVillage (d + 2) Φ) [.ref 120, .int w, .int v, .int f, .int x] [] σ1 := by
      intro σ1 hF1 hN
      simp only [pI, pL, pR, pV, eM_nameVillage_54]
      refine sM_of (60 + 4 * ix v) (j := 0) rfl (by omega) hvw (by omega) (fun y1 h1 => ?_)
      simp only [pI, pL, pR, pV, eM_nameVillage_66]
      refine ⟨⟨by decide, by decide⟩, ?_⟩
      refine sM_ofP hvw (fun y2 h2 => ?_)
      simp only [pI, pL, pR, pV, eM_nameVillage_79]
      refine ⟨⟨by decide, by decide⟩, ?_⟩
      have hF2 : Fr FML σ0 (sI σ1 126 (ix 6) y1) := hF1.tr (f126 (by decide))
      refine h _ (hF2.tr (f126 (n := 7) (v := y2) (by omega))) (fun j hj => ?_)
      have nv : ¬ (v.toInt < 0) := by omega
      have j8 : j < 6 ∨ j = 6 ∨ j = 7 := by omega
      rcases j8 with j8 | rfl | rfl
      · show rd (sI (sI σ1 126 6 y1) 126 7 y2) 126 j = _
        rw [rdne2 (by omega), rdne2 (by omega)]
        exact hN j j8
      · show y1.toInt = _
        rw [h1, fml_rd hF1 (by omega), hE.2.2.2.1 _ hv6]
        unfold nmv
        rw [if_neg nv, hvt]
        rfl
      · show y2.toInt = _
        rw [h2, fml_mc hF2, hc]
        unfold nmv
        rw [if_neg nv, hvt]
        rfl
    split
    next hq =>
      refine fin _ hF1 (fun j hj => ?_)
      have j6 : j = 0 ∨ j = 5 ∨ (1 ≤ j ∧ j < 5) := by omega
      rcases j6 with rfl | rfl | ⟨j1, j5⟩
      · exact day
      · show rd (sI σ 126 0 (gI σ 121 8)) 126 5 = _
        rw [rdne2 (by omega), hz 5 (by omega) (by omega)]
        exact (hf0 hq).symm
      · show rd (sI σ 126 0 (gI σ 121 8)) 126 j = _
        rw [rdne2 (by omega), hz j (by omega) (by omega), hq]
        have : j = 1 ∨ j = 2 ∨ j = 3 ∨ j = 4 := by omega
        rcases this with rfl | rfl | rfl | rfl <;> rfl
    next hq =>
      have hw' : 0 ≤ w.toInt ∧ w.toInt < eN E := by omega
      refine sM_getO (by omega) (fun o ho => ?_)
      simp only [pI, pL, pR, pV, eM_nameVillage_50]
      rw [fml_mc hF1, hc] at ho
      refine sM_name hO (fml_ME hF1 hE) ((fml_mc hF1).trans hc) hw' ho v.toInt (fun σ2 hF2 hN _ => ?_)
      simp only [pI, pL, pR, pV, eM_nameVillage_50]
      exact fin σ2 (hF1.tr hF2) hN
  | n + 1, σ, x, hx, hx1, hF, hz => by
    simp only [pI, pL, pR, pV, eM_nameVillage_3]
    rw [ile, if_neg (by rw [show (6 : Int32).toInt = 6 from rfl]; omega)]
    refine ⟨⟨by omega, by omega⟩, ?_⟩
    have hxx := ix_to (x := x) (by omega)
    refine hM_nameVillage_3 _ _ _ _ _ (lM_nameVillage hO hE hc hw hv hf0 h n _ (x + 1) ?_ ?_ (hF.tr (f126 (by omega))) ?_)
    · rw [t1 (by omega)]; omega
    · rw [t1 (by omega)]; omega
    · intro j h1 h2
      rw [t1 (by omega)] at h2
      by_cases e : j = ix x
      · rw [e, rdeq]; rfl
      · rw [rdne2 e]
        exact hz j h1 (by omega)
theorem sM_nameVillage {d : Nat} {Φ : Po} {E : En} {c : Co} {w v f : Int32} {σ : Sg} (hO : Ok E c) (hE : ME σ E) (hc : mc σ 121 = c) (hw : w.toInt = -1 ∨ (0 ≤ w.toInt ∧ w.toInt < eN E)) (hv : 0 ≤ v.toInt ∧ v.toInt < eV E) (hf0 : w.toInt = -1 → f.toInt = 0) (h : ∀ σ' : Sg, Fr FML σ σ' → NmL σ' E c w.toInt v.toInt f.toInt 8 → Φ none σ') : wp true (d + 3) nM_nameVillage [.ref 120, .int w, .int v, .int f] σ Φ := by
  apply wM_nameVillage
  simp only [pI, pL, pR, pV, eM_nameVillage_0]
  exact lM_nameVillage hO hE hc hw hv hf0 h 5 σ 1 rfl (by decide) Fr.rf (fun j h1 h2 => by have : (1 : Int32).toInt = 1 := rfl; omega)
theorem sM_clip {d : Nat} {Φ : Po} {σ : Sg} {x : Int64} (h : ∀ r : Int64, r.toInt = clip x.toInt → Φ (some (.long r)) σ) : wp true (d + 1) nM_clip [.long x] σ Φ := by
  apply wM_clip
  simp only [pI, pL, pR, pV, eM_clip_0, eM_clip_14, eM_clip_28, eM_clip_29]
  simp only [cond, zB_1, zB_0, ne_eq, not_false_eq_true, true_and, and_true, ↓reduceIte, lg_cmp_ge, lg_cmp_le, lg_cmp_gt, lg_cmp_lt, lg_cmp_eq, ile, ilt, ieq, jle, jlt, jeq, Int32.toInt_toInt64, Int32.reduceToInt, Int64.reduceToInt, Int32.reduceNeg, Int64.reduceNeg, Int.reduceNeg, Int.reduceEq, Int.reduceLT, Int.reduceLE, Nat.reduceEqDiff, and_self, and_false, false_and, reduceCtorEq]
  unfold clip at h
  split
  · split
    · exact h _ (by rw [if_neg (by omega), if_neg (by omega)])
    · exact h _ (by rw [if_pos (by omega)]; rfl)
  · exact h _ (by rw [if_neg (by omega), if_pos (by omega)]; rfl)
theorem sM_two {d : Nat} {Φ : Po} {σ : Sg} {k : Int32} {x y : Int64} {o : Int} (hk : k.toInt = o) (ho : 4 ≤ o ∧ o ≤ 7) (hx : -1000000 ≤ x.toInt ∧ x.toInt ≤ 1000000) (hy : -1000000 ≤ y.toInt ∧ y.toInt ≤ 1000000) (h : ∀ r : Int64, r.toInt = clip (tw o x.toInt y.toInt) → Φ (some (.long r)) σ) : wp true (d + 2) nM_two [.int k, .long x, .long y] σ Φ := by
  apply wM_two
  simp only [pI, pL, pR, pV, eM_two_0, eM_two_28, eM_two_34, eM_two_35, eM_two_41, eM_two_42, eM_two_48, eM_two_49, eM_two_59, eM_two_65]
  rw [hk]
  have j : o = 4 ∨ o = 5 ∨ o = 6 ∨ o = 7 := by omega
  rcases j with rfl | rfl | rfl | rfl
  · simp only [Int.reduceEq, ↓reduceIte]
    refine sM_clip (fun r hr => ?_)
    simp only [pI, pL, pR, pV, eM_two_0, eM_two_28, eM_two_34, eM_two_35, eM_two_41, eM_two_42, eM_two_48, eM_two_49, eM_two_59, eM_two_65]
    exact h _ (by rw [hr, jP (by omega)]; rfl)
  · simp only [Int.reduceEq, ↓reduceIte]
    refine sM_clip (fun r hr => ?_)
    simp only [pI, pL, pR, pV, eM_two_0, eM_two_28, eM_two_34, eM_two_35, eM_two_41, eM_two_42, eM_two_48, eM_two_49, eM_two_59, eM_two_65]
    exact h _ (by rw [hr, jM (by omega)]; rfl)
  · simp only [Int.reduceEq, ↓reduceIte]
    refine sM_clip (fun r hr => ?_)
    simp only [pI, pL, pR, pV, eM_two_0, eM_two_28, eM_two_34, eM_two_35, eM_two_41, eM_two_42, eM_two_48, eM_two_49, eM_two_59, eM_two_65]
    have p1 : (x.toInt * y.toInt).natAbs = x.toInt.natAbs * y.toInt.natAbs := Int.natAbs_mul _ _
    have p2 : x.toInt.natAbs * y.toInt.natAbs ≤ 1000000 * 1000000 := Nat.mul_le_mul (by omega) (by omega)
    exact h _ (by rw [hr, jX (by omega)]; rfl)
  · simp only [Int.reduceEq, ↓reduceIte]
    have e7 : tw 7 x.toInt y.toInt = if y.toInt = 0 then 0 else x.toInt.tdiv y.toInt := rfl
    simp only [cond, zB_1, zB_0, ne_eq, not_false_eq_true, true_and, and_true, ↓reduceIte, lg_cmp_ge, lg_cmp_le, lg_cmp_gt, lg_cmp_lt, lg_cmp_eq, ile, ilt, ieq, jle, jlt, jeq, Int32.toInt_toInt64, Int32.reduceToInt, Int64.reduceToInt, Int32.reduceNeg, Int64.reduceNeg, Int.reduceNeg, Int.reduceEq, Int.reduceLT, Int.reduceLE, Nat.reduceEqDiff, and_self, and_false, false_and, reduceCtorEq]
    split
    next z => exact h _ (by rw [e7, if_pos z]; rfl)
    next z =>
      refine ⟨z, ?_⟩
      refine sM_clip (fun r hr => ?_)
      simp only [pI, pL, pR, pV, eM_two_0, eM_two_28, eM_two_34, eM_two_35, eM_two_41, eM_two_42, eM_two_48, eM_two_49, eM_two_59, eM_two_65]
      exact h _ (by rw [hr, e7, if_neg z, jDt (Or.inr (by omega))])
theorem sM_isAsked {d : Nat} {Φ : Po} {σ : Sg} {k : Int32} {x y : Int64} {o : Int} (hk : k.toInt = o) (ho : 10 ≤ o ∧ o ≤ 15) (h : ∀ r : Int32, r.toInt = bi (cmq o x.toInt y.toInt) → Φ (some (.int r)) σ) : wp true (d + 1) nM_isAsked [.int k, .long x, .long y] σ Φ := by
  apply wM_isAsked
  simp only [pI, pL, pR, pV, eM_isAsked_0, eM_isAsked_16, eM_isAsked_20, eM_isAsked_36, eM_isAsked_40, eM_isAsked_56, eM_isAsked_60, eM_isAsked_76, eM_isAsked_80, eM_isAsked_96, eM_isAsked_100, eM_isAsked_110, eM_isAsked_111]
  simp only [cond, zB_1, zB_0, ne_eq, not_false_eq_true, true_and, and_true, ↓reduceIte, lg_cmp_ge, lg_cmp_le, lg_cmp_gt, lg_cmp_lt, lg_cmp_eq, ile, ilt, ieq, jle, jlt, jeq, Int32.toInt_toInt64, Int32.reduceToInt, Int64.reduceToInt, Int32.reduceNeg, Int64.reduceNeg, Int.reduceNeg, Int.reduceEq, Int.reduceLT, Int.reduceLE, Nat.reduceEqDiff, and_self, and_false, false_and, reduceCtorEq]
  rw [hk]
  have j : o = 10 ∨ o = 11 ∨ o = 12 ∨ o = 13 ∨ o = 14 ∨ o = 15 := by omega
  rcases j with rfl | rfl | rfl | rfl | rfl | rfl <;> simp only [Int.reduceEq, ↓reduceIte]
  · have e7 : cmq 10 x.toInt y.toInt = decide (x.toInt < y.toInt) := rfl
    split
    · exact h _ (by rw [e7, decide_eq_false (by omega)]; rfl)
    · exact h _ (by rw [e7, decide_eq_true (by omega)]; rfl)
  · have e7 : cmq 11 x.toInt y.toInt = decide (x.toInt ≤ y.toInt) := rfl
    split
    · exact h _ (by rw [e7, decide_eq_false (by omega)]; rfl)
    · exact h _ (by rw [e7, decide_eq_true (by omega)]; rfl)
  · have e7 : cmq 12 x.toInt y.toInt = decide (y.toInt < x.toInt) := rfl
    split
    · exact h _ (by rw [e7, decide_eq_false (by omega)]; rfl)
    · exact h _ (by rw [e7, decide_eq_true (by omega)]; rfl)
  · have e7 : cmq 13 x.toInt y.toInt = decide (y.toInt ≤ x.toInt) := rfl
    split
    · exact h _ (by rw [e7, decide_eq_false (by omega)]; rfl)
    · exact h _ (by rw [e7, decide_eq_true (by omega)]; rfl)
  · have e7 : cmq 14 x.toInt y.toInt = decide (x.toInt = y.toInt) := rfl
    split
    · exact h _ (by rw [e7, decide_eq_true (by omega)]; rfl)
    · exact h _ (by rw [e7, decide_eq_false (by omega)]; rfl)
  · have e7 : cmq 15 x.toInt y.toInt = decide (x.toInt ≠ y.toInt) := rfl
    split
    · exact h _ (by rw [e7, decide_eq_false (by omega)]; rfl)
    · exact h _ (by rw [e7, decide_eq_true (by omega)]; rfl)
theorem sM_joined {d : Nat} {Φ : Po} {σ : Sg} {k x y : Int32} (hk : k.toInt = 21 ∨ k.toInt = 22) (hx : x.toInt = 0 ∨ x.toInt = 1) (hy : y.toInt = 0 ∨ y.toInt = 1) (h : ∀ r : Int32, r.toInt = (if k.toInt = 21 then min x.toInt y.toInt else max x.toInt y.toInt) → Φ (some (.int r)) σ) : wp true (d + 1) nM_joined [.int k, .int x, .int y] σ Φ := by
  apply wM_joined
  simp only [pI, pL, pR, pV, eM_joined_0, eM_joined_18, eM_joined_22, eM_joined_30, eM_joined_34, eM_joined_35]
  simp only [cond, zB_1, zB_0, ne_eq, not_false_eq_true, true_and, and_true, ↓reduceIte, lg_cmp_ge, lg_cmp_le, lg_cmp_gt, lg_cmp_lt, lg_cmp_eq, ile, ilt, ieq, jle, jlt, jeq, Int32.toInt_toInt64, Int32.reduceToInt, Int64.reduceToInt, Int32.reduceNeg, Int64.reduceNeg, Int.reduceNeg, Int.reduceEq, Int.reduceLT, Int.reduceLE, Nat.reduceEqDiff, and_self, and_false, false_and, reduceCtorEq]
  rcases hk with hk | hk <;> rw [hk] at h ⊢ <;> simp only [Int.reduceEq, ↓reduceIte] at h ⊢ <;> repeat' split
  all_goals exact h _ (by simp only [Int32.reduceToInt]; omega)
theorem tmod_r {x y : Int} (hy : 0 < y) : -y < x.tmod y ∧ x.tmod y < y ∧ (0 ≤ x → 0 ≤ x.tmod y) ∧ (x ≤ 0 → x.tmod y ≤ 0) := by
  by_cases hx : 0 ≤ x
  · have a2 := Int.tmod_eq_emod_of_nonneg (b := y) hx
    have a3 := Int.emod_lt_of_pos x hy
    have a4 := Int.emod_nonneg x (by omega : y ≠ 0)
    omega
  · have a1 : (-x).tmod y = -(x.tmod y) := Int.neg_tmod ..
    have a2 := Int.tmod_eq_emod_of_nonneg (b := y) (by omega : 0 ≤ -x)
    have a3 := Int.emod_lt_of_pos (-x) hy
    have a4 := Int.emod_nonneg (-x) (by omega : y ≠ 0)
    omega
theorem emod_of_tmod {x y : Int} (hy : 0 < y) : (if x.tmod y < 0 then x.tmod y + y else x.tmod y) = x % y := by
  have h := tmod_r (x := x) hy
  have hd : x = y * x.tdiv y + x.tmod y := (Int.mul_tdiv_add_tmod x y).symm
  split
  · have : x / y = x.tdiv y - 1 ∧ x % y = x.tmod y + y := Int.ediv_emod_unique hy |>.mpr ⟨by rw [Int.mul_sub]; omega, by omega, by omega⟩
    omega
  · have : x / y = x.tdiv y ∧ x % y = x.tmod y := Int.ediv_emod_unique hy |>.mpr ⟨by omega, by omega, by omega⟩
    omega
theorem sM_rounded {d : Nat} {Φ : Po} {σ : Sg} {x y : Int64} (hx : -1000000 ≤ x.toInt ∧ x.toInt ≤ 1000000) (hy : -1000000 ≤ y.toInt ∧ y.toInt ≤ 1000000) (h : ∀ r : Int64, r.toInt = rnd x.toInt (iabs y.toInt) → Φ (some (.long r)) σ) : wp true (d + 1) nM_rounded [.long x, .long y] σ Φ := by
  apply wM_rounded
  simp only [pI, pL, pR, pV, eM_rounded_0, eM_rounded_11]
  simp only [cond, zB_1, zB_0, ne_eq, not_false_eq_true, true_and, and_true, ↓reduceIte, lg_cmp_ge, lg_cmp_le, lg_cmp_gt, lg_cmp_lt, lg_cmp_eq, ile, ilt, ieq, jle, jlt, jeq, Int32.toInt_toInt64, Int32.reduceToInt, Int64.reduceToInt, Int32.reduceNeg, Int64.reduceNeg, Int.reduceNeg, Int.reduceEq, Int.reduceLT, Int.reduceLE, Nat.reduceEqDiff, and_self, and_false, false_and, reduceCtorEq]
  have key : ∀ z : Int64, z.toInt = iabs y.toInt → bM_rounded_12 true NOB (wp true d) Φ (kM_rounded d Φ) [.long x, .retAddr 0, .long y, .retAddr 0, .retAddr 0, .retAddr 0, .retAddr 0, .retAddr 0] [.long z] σ := by
    intro z hz
    rw [← hz] at h
    have hz0 : 0 ≤ z.toInt ∧ z.toInt ≤ 1000000 := by
      rw [hz]; unfold iabs; split <;> omega
    simp only [pI, pL, pR, pV, eM_rounded_0, eM_rounded_11, eM_rounded_12, eM_rounded_23, eM_rounded_42, eM_rounded_46, eM_rounded_70, eM_rounded_74]
    simp only [cond, zB_1, zB_0, ne_eq, not_false_eq_true, true_and, and_true, ↓reduceIte, lg_cmp_ge, lg_cmp_le, lg_cmp_gt, lg_cmp_lt, lg_cmp_eq, ile, ilt, ieq, jle, jlt, jeq, Int32.toInt_toInt64, Int32.reduceToInt, Int64.reduceToInt, Int32.reduceNeg, Int64.reduceNeg, Int.reduceNeg, Int.reduceEq, Int.reduceLT, Int.reduceLE, Nat.reduceEqDiff, and_self, and_false, false_and, reduceCtorEq]
    unfold rnd at h
    split
    next e => exact h _ (by rw [if_pos e])
    next e =>
      rw [if_neg e] at h
      have hp : 0 < z.toInt := by omega
      have hr := tmod_r (x := x.toInt) hp
      have he := emod_of_tmod (x := x.toInt) hp
      have hq := Int.emod_add_mul_ediv x.toInt z.toInt
      rw [Int.mul_comm] at hq
      refine ⟨e, ?_⟩
      have m1 : (x % z).toInt = x.toInt.tmod z.toInt := jRt
      have m2 : (x % z + z).toInt = x.toInt.tmod z.toInt + z.toInt := by rw [jP (by rw [m1]; omega), m1]
      have fin : ∀ u : Int64, u.toInt = x.toInt % z.toInt → (if (2 * u).toInt < z.toInt then Φ (some (.long (x - u))) σ else Φ (some (.long (x - u + z))) σ) := by
        intro u hu
        have u0 := Int.emod_nonneg x.toInt e
        have u1 := Int.emod_lt_of_pos x.toInt hp
        have e2 : (2 * u).toInt = 2 * u.toInt := by rw [jX (by rw [show (2 : Int64).toInt = 2 from rfl]; omega)]; rfl
        have e3 : (x - u).toInt = x.toInt - u.toInt := jM (by omega)
        have e4 : (x - u + z).toInt = x.toInt - u.toInt + z.toInt := by rw [jP (by rw [e3]; omega), e3]
        rw [e2]
        split
        · exact h _ (by rw [e3, if_pos (by omega)]; omega)
        · exact h _ (by rw [e4, if_neg (by omega)]; omega)
      rw [m1]
      split
      next z0 =>
        refine ⟨e, ?_⟩
        exact fin _ (by rw [m1, ← he, if_neg (by omega)])
      next z0 =>
        refine ⟨e, ?_⟩
        exact fin _ (by rw [m2, ← he, if_pos (by omega)])
  unfold iabs at key
  split
  · exact key _ (by rw [if_pos (by omega)])
  · exact key _ (by rw [if_neg (by omega), jN (by omega)])
theorem sM_debtOf {d : Nat} {Φ : Po} {σ : Sg} {E : En} {c : Co} {x : Int64} (hO : Ok E c) (hE : ME σ E) (hc : mc σ 121 = c) (hx : -1000000 ≤ x.toInt ∧ x.toInt ≤ 1000000) (h : ∀ r : Int64, r.toInt = dbt E c x.toInt → Φ (some (.long r)) σ) : wp true (d + 2) nM_debtOf [.ref 120, .long x] σ Φ := by
  apply wM_debtOf
  simp only [pI, pL, pR, pV, eM_debtOf_0, eM_debtOf_29, eM_debtOf_30]
  simp only [cond, zB_1, zB_0, ne_eq, not_false_eq_true, true_and, and_true, ↓reduceIte, lg_cmp_ge, lg_cmp_le, lg_cmp_gt, lg_cmp_lt, lg_cmp_eq, ile, ilt, ieq, jle, jlt, jeq, Int32.toInt_toInt64, Int32.reduceToInt, Int64.reduceToInt, Int32.reduceNeg, Int64.reduceNeg, Int.reduceNeg, Int.reduceEq, Int.reduceLT, Int.reduceLE, Nat.reduceEqDiff, and_self, and_false, false_and, reduceCtorEq]
  have hn := hO.1
  have e0 : (gI σ 121 (ix 0)).toInt = eN E := hE.1
  unfold dbt at h
  rw [e0]
  split
  · exact h _ (by rw [if_neg (by omega)]; rfl)
  · refine ⟨⟨by decide, by decide⟩, ?_⟩
    split
    · exact h _ (by rw [if_neg (by omega)]; rfl)
    · have ew : (Int64.toInt32 x).toInt = x.toInt := j32 (by omega)
      refine sM_getO (by omega) (fun r hr => ?_)
      simp only [pI, pL, pR, pV, eM_debtOf_25, eM_debtOf_30]
      refine h _ ?_
      rw [Int32.toInt_toInt64, if_pos (by omega), hr, hc]
      unfold ix
      rw [ew]
def VlL (σ : Sg) : List Int → Prop
  | [] => True
  | x :: r => (gL σ 127 r.length).toInt = x ∧ VlL σ r
def TrL (σ : Sg) : List Int → Prop
  | [] => True
  | x :: r => rd σ 128 r.length = x ∧ TrL σ r
theorem gLne {σ : Sg} {a k : Nat} {v : Int64} {x y : Nat} (h : y ≠ k) : gL (sL σ a k v) x y = gL σ x y := by
  rw [gL_sL, if_neg (fun q => h q.2)]
theorem gLeq {σ : Sg} {a k : Nat} {v : Int64} : gL (sL σ a k v) a k = v := by
  rw [gL_sL, if_pos ⟨rfl, rfl⟩]
theorem VlL_keep {σ : Sg} {n : Nat} {v : Int64} : ∀ (l : List Int), l.length ≤ n → VlL σ l → VlL (sL σ 127 n v) l
  | [], _, _ => trivial
  | x :: r, h, ⟨h1, h2⟩ => ⟨by rw [gLne (by simp at h; omega)]; exact h1, VlL_keep r (by simp at h; omega) h2⟩
theorem VlL_push {σ : Sg} {n : Nat} {v : Int64} {l : List Int} (h : l.length = n) (g : VlL σ l) : VlL (sL σ 127 n v) (v.toInt :: l) :=
  ⟨by rw [h, gLeq], VlL_keep l (by omega) g⟩
theorem VlL_sI {σ : Sg} {n : Nat} {v : Int32} : ∀ (l : List Int), VlL σ l → VlL (sI σ 128 n v) l
  | [], _ => trivial
  | _ :: r, ⟨h1, h2⟩ => ⟨h1, VlL_sI r h2⟩
theorem TrL_keep {σ : Sg} {n : Nat} {v : Int32} : ∀ (l : List Int), l.length ≤ n → TrL σ l → TrL (sI σ 128 n v) l
  | [], _, _ => trivial
  | x :: r, h, ⟨h1, h2⟩ => ⟨(rdne2 (by simp at h; omega)).trans h1, TrL_keep r (by simp at h; omega) h2⟩
theorem TrL_push {σ : Sg} {n : Nat} {v : Int32} {l : List Int} (h : l.length = n) (g : TrL σ l) : TrL (sI σ 128 n v) (v.toInt :: l) :=
  ⟨by rw [h, rdeq], TrL_keep l (by omega) g⟩
theorem TrL_sL {σ : Sg} {n : Nat} {v : Int64} : ∀ (l : List Int), TrL σ l → TrL (sL σ 127 n v) l
  | [], _ => trivial
  | _ :: r, ⟨h1, h2⟩ => ⟨h1, TrL_sL r h2⟩
theorem NmL.sI {σ : Sg} {E : En} {c : Co} {w v f : Int} {m n : Nat} {x : Int32} (h : NmL σ E c w v f m) : NmL (sI σ 128 n x) E c w v f m := fun j hj => (rdne (by omega)).trans (h j hj)
theorem NmL.sL {σ : Sg} {E : En} {c : Co} {w v f : Int} {m n : Nat} {x : Int64} (h : NmL σ E c w v f m) : NmL (sL σ 127 n x) E c w v f m := fun j hj => h j hj
theorem lM_work {d : Nat} {Φ : Po} {E : En} {c : Co} {l t k : Nat} {w v f : Int} {x1 x2 x3 : Int32} {σ0 : Sg} (ht : t < 4) (hO : Ok E c) (hE : ME σ0 E) (hc : mc σ0 121 = c) (hw : w = -1 ∨ (0 ≤ w ∧ w < eN E)) (hv : v = -1 ∨ (0 ≤ v ∧ v < eV E)) (hf : 0 ≤ f ∧ f ≤ 9) (hk : k < 24) (h2 : x2.toInt = 705 * t + 1 + 4 * k) (h3 : x3.toInt = 705 * t + 97) (hto : rd σ0 123 (705 * t + 3 + 4 * k) ≤ 300) {a' b' : Nat} :
    ∀ (ops : List (Int × Int)) (a b : Nat) (s1 s2 : List Int) (σ : Sg) (p q i : Int32) (v7 v8 : Value), Wf l ops a b a' b' → s1.length = a → s2.length = b → a + b ≤ 60 → Bv s1 → Bt s2 → VlL σ s1 → TrL σ s2 → p.toInt = a → q.toInt = b → MCode σ0 t (ix i) ops → rd σ0 123 (705 * t + 3 + 4 * k) = i.toInt + ops.length → 0 ≤ i.toInt → Fr FML σ0 σ → NmL σ E c w v f (if l = 2 ∨ l = 3 then 8 else 6) →
    (∀ (σ' : Sg), Fr FML σ0 σ' → VlL σ' (evl E c w v f ops (s1, s2)).1 → TrL σ' (evl E c w v f ops (s1, s2)).2 → Bt (evl E c w v f ops (s1, s2)).2 → Φ none σ') →
    bM_work_47 true NOB (wp true (d + 3)) Φ (kM_work (d + 3) Φ) [.ref 120, .int x1, .int x2, .int x3, .int p, .int q, .int i, v7, v8] [] σ
  | [], a, b, s1, s2, σ, p, q, i, v7, v8, hW, ha, hb, hab60, hBv, hBt, hS, hT, hp, hq, hC, hi, hi0, hF, hN, h => by
    obtain ⟨rfl, rfl⟩ := hW
    simp only [pI, pL, pR, pV, eM_work_47, eM_work_377]
    have e2 : (x2 + 2).toInt = 705 * t + 3 + 4 * k := by rw [tP (by rw [show (2 : Int32).toInt = 2 from rfl]; omega), show (2 : Int32).toInt = 2 from rfl]; omega
    have e2x : ix (x2 + 2) = 705 * t + 3 + 4 * k := ix_of (by omega)
    have hrd : (gI σ 123 (705 * t + 3 + 4 * k)).toInt = i.toInt := by
      show rd σ 123 _ = _
      rw [fml_rd hF (by omega), hi]
      simp
    rw [e2x, ile, hrd, if_pos (Int.le_refl _)]
    exact ⟨⟨by omega, by omega⟩, h σ hF hS hT hBt⟩
  | (o, u) :: r, a, b, s1, s2, σ, p, q, i, v7, v8, hW, ha, hb, hab60, hBv, hBt, hS, hT, hp, hq, hC, hi, hi0, hF, hN, h => by
    simp only [pI, pL, pR, pV, eM_work_47]
    have e2 : (x2 + 2).toInt = 705 * t + 3 + 4 * k := by rw [tP (by rw [show (2 : Int32).toInt = 2 from rfl]; omega), show (2 : Int32).toInt = 2 from rfl]; omega
    have e2x : ix (x2 + 2) = 705 * t + 3 + 4 * k := ix_of (by omega)
    have hlen : (((o, u) :: r).length : Int) = r.length + 1 := by simp
    have hrd : (gI σ 123 (705 * t + 3 + 4 * k)).toInt = i.toInt + (r.length + 1) := by
      show rd σ 123 _ = _
      rw [fml_rd hF (by omega), hi, hlen]
    have hixi := ix_to hi0
    have f1 : (x3 + 2 * i).toInt = 705 * t + 97 + 2 * i.toInt := by
      have : (2 * i).toInt = 2 * i.toInt := by rw [tX (by rw [show (2 : Int32).toInt = 2 from rfl]; omega)]; rfl
      rw [tP (by rw [this]; omega), this, h3]
    have f1x : ix (x3 + 2 * i) = 705 * t + 97 + 2 * ix i := ix_of (by omega)
    have f2 : (x3 + 2 * i + 1).toInt = 705 * t + 98 + 2 * i.toInt := by rw [tP (by rw [f1, tl1]; omega), f1, tl1]; omega
    have f2x : ix (x3 + 2 * i + 1) = 705 * t + 98 + 2 * ix i := ix_of (by omega)
    have co : (gI σ 123 (705 * t + 97 + 2 * ix i)).toInt = o := by
      show rd σ 123 _ = _
      rw [fml_rd hF (by omega)]
      exact hC.1.1
    have cu : (gI σ 123 (705 * t + 98 + 2 * ix i)).toInt = u := by
      show rd σ 123 _ = _
      rw [fml_rd hF (by omega)]
      exact hC.1.2
    rw [e2x, f1x, f2x]
    rw [ile, hrd, if_neg (by omega)]
    refine ⟨⟨by omega, by omega⟩, ⟨by omega, by omega⟩, ⟨by omega, by omega⟩, ?_⟩
    generalize gI σ 123 (705 * t + 97 + 2 * ix i) = oI at co
    generalize gI σ 123 (705 * t + 98 + 2 * ix i) = uI at cu
    have hi1 : (i + 1).toInt = i.toInt + 1 := t1 (by omega)
    have hi1x : ix (i + 1) = ix i + 1 := ix1 (by omega)
    have hC2 : MCode σ0 t (ix (i + 1)) r := by rw [hi1x]; exact hC.2
    have hi2 : rd σ0 123 (705 * t + 3 + 4 * k) = (i + 1).toInt + r.length := by rw [hi1]; omega
    have hpx : ix p = a := ix_of hp
    have hqx : ix q = b := ix_of hq
    have hpp : (p + 1).toInt = (a + 1 : Nat) := by rw [t1 (by omega)]; omega
    have hqq : (q + 1).toInt = (b + 1 : Nat) := by rw [t1 (by omega)]; omega
    have hE' := fml_ME hF hE
    have hc' : mc σ 121 = c := (fml_mc hF).trans hc
    have IH := fun a b s1 s2 σ p q v7 v8 => lM_work (d := d) (Φ := Φ) (t := t) (x1 := x1) (l := l) (a' := a') (b' := b') ht hO hE hc hw hv hf hk h2 h3 hto r a b s1 s2 σ p q (i + 1) v7 v8
    rcases hW with ⟨rfl, q1, q2, q3, hW⟩ | ⟨rfl, q1, q2, q4, q3, hW⟩ | ⟨qo, q1, hW⟩ | ⟨q1, q2, q3, hW⟩ | ⟨q1, q2, q3, hW⟩ | ⟨rfl, q1, q2, hW⟩ | ⟨qo, q1, q2, hW⟩
    · simp only [pI, pL, pR, pV, eM_work_126, eM_work_119, eM_work_371]
      simp only [cond, zB_1, zB_0, ne_eq, not_false_eq_true, true_and, and_true, ↓reduceIte, lg_cmp_ge, lg_cmp_le, lg_cmp_gt, lg_cmp_lt, lg_cmp_eq, ile, ilt, ieq, jle, jlt, jeq, Int32.toInt_toInt64, Int32.reduceToInt, Int64.reduceToInt, Int32.reduceNeg, Int64.reduceNeg, Int.reduceNeg, Int.reduceEq, Int.reduceLT, Int.reduceLE, Nat.reduceEqDiff, and_self, and_false, false_and, reduceCtorEq]
      rw [co, if_neg (by decide), if_pos rfl, hpx]
      refine ⟨⟨by omega, by omega⟩, ?_⟩
      apply hM_work_47
      refine IH (a + 1) b (u :: s1) s2 _ _ _ _ _ hW (by simp [ha]) hb (by omega) (Bv.cons (by omega) hBv) hBt ?_ (TrL_sL _ hT) hpp hq hC2 hi2 (by omega) (hF.tr (f127 (by omega))) hN.sL h
      rw [← cu, ← Int32.toInt_toInt64]
      exact VlL_push ha hS
    · simp only [pI, pL, pR, pV, eM_work_126, eM_work_111, eM_work_119, eM_work_371]
      simp only [cond, zB_1, zB_0, ne_eq, not_false_eq_true, true_and, and_true, ↓reduceIte, lg_cmp_ge, lg_cmp_le, lg_cmp_gt, lg_cmp_lt, lg_cmp_eq, ile, ilt, ieq, jle, jlt, jeq, Int32.toInt_toInt64, Int32.reduceToInt, Int64.reduceToInt, Int32.reduceNeg, Int64.reduceNeg, Int.reduceNeg, Int.reduceEq, Int.reduceLT, Int.reduceLE, Nat.reduceEqDiff, and_self, and_false, false_and, reduceCtorEq]
      have hux : ix uI = u.toNat := by unfold ix; rw [cu]
      rw [co, if_neg (by decide), if_neg (by decide), hpx, hux]
      refine ⟨⟨by omega, by omega⟩, ⟨by omega, by omega⟩, ?_⟩
      have hnm : (gI σ 126 u.toNat).toInt = nmv E c w v f u := by
        have := hN u.toNat (by split <;> omega)
        rw [show ((u.toNat : Nat) : Int) = u from by omega] at this
        exact this
      apply hM_work_47
      refine IH (a + 1) b (nmv E c w v f u :: s1) s2 _ _ _ _ _ hW (by simp [ha]) hb (by omega) (Bv.cons (nmv_r hO hw hv hf) hBv) hBt ?_ (TrL_sL _ hT) hpp hq hC2 hi2 (by omega) (hF.tr (f127 (by omega))) hN.sL h
      rw [← hnm, ← Int32.toInt_toInt64]
      exact VlL_push ha hS
    · obtain ⟨x, xs, rfl⟩ : ∃ x xs, s1 = x :: xs := by
        cases s1 with
        | nil => simp at ha; omega
        | cons x xs => exact ⟨x, xs, rfl⟩
      have hxb := hBv x List.mem_cons_self
      have hBv' : Bv xs := fun y hy => hBv y (List.mem_cons_of_mem _ hy)
      have hl1 : xs.length + 1 = a := by simpa using ha
      obtain ⟨t1, t2⟩ := hS
      have e1 : (p - 1).toInt = xs.length := by rw [tM (by rw [tl1]; omega), tl1]; omega
      have e2 : ix (p - 1) = xs.length := ix_of e1
      rcases qo with rfl | rfl
      · simp only [pI, pL, pR, pV, eM_work_126, eM_work_159]
        simp only [cond, zB_1, zB_0, ne_eq, not_false_eq_true, true_and, and_true, ↓reduceIte, lg_cmp_ge, lg_cmp_le, lg_cmp_gt, lg_cmp_lt, lg_cmp_eq, ile, ilt, ieq, jle, jlt, jeq, Int32.toInt_toInt64, Int32.reduceToInt, Int64.reduceToInt, Int32.reduceNeg, Int64.reduceNeg, Int.reduceNeg, Int.reduceEq, Int.reduceLT, Int.reduceLE, Nat.reduceEqDiff, and_self, and_false, false_and, reduceCtorEq]
        rw [co, if_neg (by decide), if_neg (by decide), if_neg (by decide), e2]
        refine ⟨⟨by omega, by omega⟩, ?_⟩
        refine sM_debtOf hO hE' hc' (by omega) (fun z hz => ?_)
        simp only [pI, pL, pR, pV, eM_work_172, eM_work_371]
        rw [e2]
        refine ⟨⟨by omega, by omega⟩, ?_⟩
        rw [t1] at hz
        apply hM_work_47
        refine IH a b (dbt E c x :: xs) s2 _ _ _ _ _ hW ha hb hab60 (Bv.cons (dbt_r hO _) hBv') hBt ?_ (TrL_sL _ hT) hp hq hC2 hi2 (by omega) (hF.tr (f127 (by omega))) hN.sL h
        rw [← hz]
        exact VlL_push rfl t2
      · simp only [pI, pL, pR, pV, eM_work_126, eM_work_172, eM_work_371]
        simp only [cond, zB_1, zB_0, ne_eq, not_false_eq_true, true_and, and_true, ↓reduceIte, lg_cmp_ge, lg_cmp_le, lg_cmp_gt, lg_cmp_lt, lg_cmp_eq, ile, ilt, ieq, jle, jlt, jeq, Int32.toInt_toInt64, Int32.reduceToInt, Int64.reduceToInt, Int32.reduceNeg, Int64.reduceNeg, Int.reduceNeg, Int.reduceEq, Int.reduceLT, Int.reduceLE, Nat.reduceEqDiff, and_self, and_false, false_and, reduceCtorEq]
        rw [co, if_neg (by decide), if_neg (by decide), if_pos rfl, e2]
        refine ⟨⟨by omega, by omega⟩, ⟨by omega, by omega⟩, ?_⟩
        have hz : (-(gL σ 127 xs.length)).toInt = -x := by rw [jN (by omega), t1]
        apply hM_work_47
        refine IH a b (-x :: xs) s2 _ _ _ _ _ hW ha hb hab60 (Bv.cons (by omega) hBv') hBt ?_ (TrL_sL _ hT) hp hq hC2 hi2 (by omega) (hF.tr (f127 (by omega))) hN.sL h
        rw [← hz]
        exact VlL_push rfl t2
    · obtain ⟨y, x, xs, rfl⟩ : ∃ y x xs, s1 = y :: x :: xs := by
        match s1, ha with
        | [], ha => simp at ha; omega
        | [_], ha => simp at ha; omega
        | y :: x :: xs, _ => exact ⟨y, x, xs, rfl⟩
      have hyb := hBv y List.mem_cons_self
      have hxb := hBv x (List.mem_cons_of_mem _ List.mem_cons_self)
      have hBv' : Bv xs := fun z hz => hBv z (List.mem_cons_of_mem _ (List.mem_cons_of_mem _ hz))
      have hl1 : xs.length + 2 = a := by simpa using ha
      obtain ⟨t1, t2, t3⟩ := hS
      have t1 : (gL σ 127 (xs.length + 1)).toInt = y := t1
      have e1 : (p + (-1)).toInt = xs.length + 1 := by rw [tP (by rw [tlm]; omega), tlm]; omega
      have e1x : ix (p + (-1)) = xs.length + 1 := ix_of (by omega)
      have e2 : (p + (-1) - 1).toInt = xs.length := by rw [tM (by rw [tl1]; omega), tl1]; omega
      have e2x : ix (p + (-1) - 1) = xs.length := ix_of e2
      have fin : ∀ z : Int64, z.toInt = clip (tw o x y) → bM_work_254 true NOB (wp true (d + 3)) Φ (kM_work (d + 3) Φ) [.ref 120, .int x1, .int x2, .int x3, .int (p + (-1)), .int q, .int i, .int oI, .int uI] [.long z, .int (p + (-1) - 1), .ref 127] σ := by
        intro z hz
        simp only [pI, pL, pR, pV, eM_work_254, eM_work_371]
        rw [e2x]
        refine ⟨⟨by omega, by omega⟩, ?_⟩
        apply hM_work_47
        refine IH (a - 1) b (clip (tw o x y) :: xs) s2 _ _ _ _ _ hW (by simp; omega) hb (by omega) (Bv.cons (clip_r _) hBv') hBt ?_ (TrL_sL _ hT) (by omega) hq hC2 hi2 (by omega) (hF.tr (f127 (by omega))) hN.sL ?_
        · rw [← hz]
          exact VlL_push rfl t3
        · have e : stp E c w v f o u (y :: x :: xs, s2) = (clip (tw o x y) :: xs, s2) := by
            have j : o = 4 ∨ o = 5 ∨ o = 6 ∨ o = 7 ∨ o = 8 := by omega
            rcases j with rfl | rfl | rfl | rfl | rfl <;> rfl
          have e' : evl E c w v f ((o, u) :: r) (y :: x :: xs, s2) = evl E c w v f r (clip (tw o x y) :: xs, s2) := by rw [← e]; rfl
          rw [e'] at h
          exact h
      simp only [pI, pL, pR, pV, eM_work_126, eM_work_176]
      simp only [cond, zB_1, zB_0, ne_eq, not_false_eq_true, true_and, and_true, ↓reduceIte, lg_cmp_ge, lg_cmp_le, lg_cmp_gt, lg_cmp_lt, lg_cmp_eq, ile, ilt, ieq, jle, jlt, jeq, Int32.toInt_toInt64, Int32.reduceToInt, Int64.reduceToInt, Int32.reduceNeg, Int64.reduceNeg, Int.reduceNeg, Int.reduceEq, Int.reduceLT, Int.reduceLE, Nat.reduceEqDiff, and_self, and_false, false_and, reduceCtorEq]
      rw [co, if_pos (by omega), if_pos (by omega), if_neg (by omega), e1x, e2x]
      by_cases h8 : o = 8
      · rw [if_pos h8]
        refine ⟨⟨by omega, by omega⟩, ⟨by omega, by omega⟩, ?_⟩
        refine sM_rounded (by omega) (by omega) (fun z hz => ?_)
        simp only [pI, pL, pR, pV, eM_work_220]
        refine sM_cut (by decide) (fun z2 hz2 => ?_)
        simp only [pI, pL, pR, pV, eM_work_229]
        refine fin _ ?_
        rw [Int32.toInt_toInt64, hz2, hz, t1, t2, h8]
        rfl
      · rw [if_neg h8]
        simp only [pI, pL, pR, pV, eM_work_233]
        rw [e1x, e2x]
        refine ⟨⟨by omega, by omega⟩, ⟨by omega, by omega⟩, ?_⟩
        refine sM_two co (by omega) (by omega) (by omega) (fun z hz => ?_)
        simp only [pI, pL, pR, pV, eM_work_233]
        exact fin _ (by rw [hz, t1, t2])
    · obtain ⟨y, x, rfl⟩ : ∃ y x, s1 = [y, x] := by
        match s1, ha with
        | [], ha => simp at ha; omega
        | [_], ha => simp at ha; omega
        | [y, x], _ => exact ⟨y, x, rfl⟩
        | _ :: _ :: _ :: _, ha => simp at ha; omega
      obtain ⟨t1, t2, t3⟩ := hS
      have t1 : (gL σ 127 1).toInt = y := t1
      have t2 : (gL σ 127 0).toInt = x := t2
      have e1 : (p + (-2)).toInt = 0 := by rw [tP (by rw [show (-2 : Int32).toInt = -2 from rfl]; omega), show (-2 : Int32).toInt = -2 from rfl]; omega
      have e1x : ix (p + (-2)) = 0 := ix_of e1
      have e2 : (p + (-2) + 1).toInt = 1 := by rw [tP (by rw [tl1]; omega), tl1]; omega
      have e2x : ix (p + (-2) + 1) = 1 := ix_of e2
      simp only [pI, pL, pR, pV, eM_work_126, eM_work_176, eM_work_258]
      simp only [cond, zB_1, zB_0, ne_eq, not_false_eq_true, true_and, and_true, ↓reduceIte, lg_cmp_ge, lg_cmp_le, lg_cmp_gt, lg_cmp_lt, lg_cmp_eq, ile, ilt, ieq, jle, jlt, jeq, Int32.toInt_toInt64, Int32.reduceToInt, Int64.reduceToInt, Int32.reduceNeg, Int64.reduceNeg, Int.reduceNeg, Int.reduceEq, Int.reduceLT, Int.reduceLE, Nat.reduceEqDiff, and_self, and_false, false_and, reduceCtorEq]
      rw [co, if_pos (by omega), if_pos (by omega), if_pos (by omega), if_neg (by omega), e1x, e2x]
      refine ⟨⟨by omega, by omega⟩, ⟨by omega, by omega⟩, ?_⟩
      refine sM_isAsked co (by omega) (fun z hz => ?_)
      simp only [pI, pL, pR, pV, eM_work_295, eM_work_371]
      rw [t1, t2] at hz
      rw [zB_v (by rw [hz]; exact bi_r _), hqx]
      refine ⟨⟨by omega, by omega⟩, ?_⟩
      apply hM_work_47
      refine IH 0 (b + 1) [] (bi (cmq o x y) :: s2) _ _ _ _ _ hW rfl (by simp [hb]) (by omega) (fun _ h => by cases h) (Bt.cons (bi_r _) hBt) trivial ?_ e1 hqq hC2 hi2 (by omega) (hF.tr (f128 (by omega))) hN.sI ?_
      · rw [← hz]
        exact TrL_push hb hT
      · have e : stp E c w v f o u ([y, x], s2) = ([], bi (cmq o x y) :: s2) := by
          have j : o = 10 ∨ o = 11 ∨ o = 12 ∨ o = 13 ∨ o = 14 ∨ o = 15 := by omega
          rcases j with rfl | rfl | rfl | rfl | rfl | rfl <;> rfl
        have e' : evl E c w v f ((o, u) :: r) ([y, x], s2) = evl E c w v f r ([], bi (cmq o x y) :: s2) := by rw [← e]; rfl
        rw [e'] at h
        exact h
    · obtain rfl : s1 = [] := List.length_eq_zero_iff.mp (by omega)
      obtain ⟨x, xs, rfl⟩ : ∃ x xs, s2 = x :: xs := by
        cases s2 with
        | nil => simp at hb; omega
        | cons x xs => exact ⟨x, xs, rfl⟩
      have hxb := hBt x List.mem_cons_self
      have hBt' : Bt xs := fun y hy => hBt y (List.mem_cons_of_mem _ hy)
      have hl1 : xs.length + 1 = b := by simpa using hb
      obtain ⟨t1, t2⟩ := hT
      have t1 : (gI σ 128 xs.length).toInt = x := t1
      have e1 : (q - 1).toInt = xs.length := by rw [tM (by rw [tl1]; omega), tl1]; omega
      have e2 : ix (q - 1) = xs.length := ix_of e1
      have fin : ∀ z : Int32, z.toInt = 1 - x → bM_work_334 true NOB (wp true (d + 3)) Φ (kM_work (d + 3) Φ) [.ref 120, .int x1, .int x2, .int x3, .int p, .int q, .int i, .int oI, .int uI] [.int z, .int (q - 1), .ref 128] σ := by
        intro z hz
        simp only [pI, pL, pR, pV, eM_work_334, eM_work_371]
        rw [zB_v (by omega), e2]
        refine ⟨⟨by omega, by omega⟩, ?_⟩
        apply hM_work_47
        refine IH 0 b [] ((1 - x) :: xs) _ _ _ _ _ hW rfl hb (by omega) (fun _ h => by cases h) (Bt.cons (by omega) hBt') trivial ?_ (by omega) hq hC2 hi2 (by omega) (hF.tr (f128 (by omega))) hN.sI h
        rw [← hz]
        exact TrL_push rfl t2
      simp only [pI, pL, pR, pV, eM_work_126, eM_work_176, eM_work_258, eM_work_302, eM_work_333]
      simp only [cond, zB_1, zB_0, ne_eq, not_false_eq_true, true_and, and_true, ↓reduceIte, lg_cmp_ge, lg_cmp_le, lg_cmp_gt, lg_cmp_lt, lg_cmp_eq, ile, ilt, ieq, jle, jlt, jeq, Int32.toInt_toInt64, Int32.reduceToInt, Int64.reduceToInt, Int32.reduceNeg, Int64.reduceNeg, Int.reduceNeg, Int.reduceEq, Int.reduceLT, Int.reduceLE, Nat.reduceEqDiff, and_self, and_false, false_and, reduceCtorEq]
      rw [co, if_pos (by omega), if_pos (by omega), if_pos (by omega), if_pos (by omega), if_pos rfl, e2, t1]
      refine ⟨⟨by omega, by omega⟩, ?_⟩
      split
      · exact fin 1 (by rw [tl1]; omega)
      · exact fin 0 (by rw [tl0]; omega)
    · obtain rfl : s1 = [] := List.length_eq_zero_iff.mp (by omega)
      obtain ⟨y, x, xs, rfl⟩ : ∃ y x xs, s2 = y :: x :: xs := by
        match s2, hb with
        | [], hb => simp at hb; omega
        | [_], hb => simp at hb; omega
        | y :: x :: xs, _ => exact ⟨y, x, xs, rfl⟩
      have hyb := hBt y List.mem_cons_self
      have hxb := hBt x (List.mem_cons_of_mem _ List.mem_cons_self)
      have hBt' : Bt xs := fun z hz => hBt z (List.mem_cons_of_mem _ (List.mem_cons_of_mem _ hz))
      have hl1 : xs.length + 2 = b := by simpa using hb
      obtain ⟨t1, t2, t3⟩ := hT
      have t1 : (gI σ 128 (xs.length + 1)).toInt = y := t1
      have t2 : (gI σ 128 xs.length).toInt = x := t2
      have e1 : (q + (-1)).toInt = xs.length + 1 := by rw [tP (by rw [tlm]; omega), tlm]; omega
      have e1x : ix (q + (-1)) = xs.length + 1 := ix_of (by omega)
      have e2 : (q + (-1) - 1).toInt = xs.length := by rw [tM (by rw [tl1]; omega), tl1]; omega
      have e2x : ix (q + (-1) - 1) = xs.length := ix_of e2
      simp only [pI, pL, pR, pV, eM_work_126, eM_work_176, eM_work_258, eM_work_302, eM_work_338]
      simp only [cond, zB_1, zB_0, ne_eq, not_false_eq_true, true_and, and_true, ↓reduceIte, lg_cmp_ge, lg_cmp_le, lg_cmp_gt, lg_cmp_lt, lg_cmp_eq, ile, ilt, ieq, jle, jlt, jeq, Int32.toInt_toInt64, Int32.reduceToInt, Int64.reduceToInt, Int32.reduceNeg, Int64.reduceNeg, Int.reduceNeg, Int.reduceEq, Int.reduceLT, Int.reduceLE, Nat.reduceEqDiff, and_self, and_false, false_and, reduceCtorEq]
      rw [co, if_pos (by omega), if_pos (by omega), if_pos (by omega), if_pos (by omega), if_neg (by omega), e1x, e2x]
      refine ⟨⟨by omega, by omega⟩, ⟨by omega, by omega⟩, ?_⟩
      refine sM_joined (by omega) (by omega) (by omega) (fun z hz => ?_)
      simp only [pI, pL, pR, pV, eM_work_370, eM_work_371]
      rw [t1, t2, co] at hz
      have hzb : z.toInt = 0 ∨ z.toInt = 1 := by rw [hz]; split <;> omega
      rw [zB_v hzb, e2x]
      refine ⟨⟨by omega, by omega⟩, ?_⟩
      apply hM_work_47
      refine IH 0 (b - 1) [] (z.toInt :: xs) _ _ _ _ _ hW rfl (by simp; omega) (by omega) (fun _ h => by cases h) (Bt.cons hzb hBt') trivial ?_ (by omega) (by omega) hC2 hi2 (by omega) (hF.tr (f128 (by omega))) hN.sI ?_
      · exact TrL_push rfl t3
      · have e : stp E c w v f o u ([], y :: x :: xs) = ([], z.toInt :: xs) := by
          rw [hz]
          rcases qo with rfl | rfl <;> rfl
        have e' : evl E c w v f ((o, u) :: r) ([], y :: x :: xs) = evl E c w v f r ([], z.toInt :: xs) := by rw [← e]; rfl
        rw [e'] at h
        exact h
theorem ME.cnt {σ : Sg} {E : En} (h : ME σ E) {t : Nat} (ht : t < 4) (hr : rd σ 121 3 = t) : 0 ≤ rd σ 123 (705 * t) ∧ rd σ 123 (705 * t) ≤ 24 := (h.2.2.2.2.1.2.2 t ht hr).1
theorem lM_clauseOf {d : Nat} {Φ : Po} {σ : Sg} {E : En} {l t : Nat} {lI : Int32} (hE : ME σ E) (hl : lI.toInt = l ∧ l < 5) (ht : t < 4) (hr : rd σ 121 3 = t) (h0 : eL E l = none → ∀ v : Int32, v.toInt = -1 → Φ (some (.int v)) σ) (h1 : ∀ (k : Nat) (v : Int32) (ops : List (Int × Int)), v.toInt = k → k < 24 → eL E l = some ops → (0 ≤ rd σ 123 (705 * t + 2 + 4 * k) ∧ rd σ 123 (705 * t + 3 + 4 * k) = rd σ 123 (705 * t + 2 + 4 * k) + ops.length ∧ rd σ 123 (705 * t + 3 + 4 * k) ≤ 300 ∧ MCode σ t (rd σ 123 (705 * t + 2 + 4 * k)).toNat ops) → Φ (some (.int v)) σ) :
    ∀ (n : Nat) (x : Int32), x.toInt + n = 24 → 0 ≤ x.toInt → (∀ j : Nat, (j : Int) < x.toInt → rd σ 123 (705 * t + 1 + 4 * j) ≠ l) → bM_clauseOf_2 true NOB (wp true d) Φ (kM_clauseOf d Φ) [.ref 120, .int lI, .int x] [] σ := by
  obtain ⟨c0, c1⟩ := hE.cnt ht hr
  obtain ⟨q1, q2⟩ := hE.2.2.2.2.1.2.2 t ht hr
  have q2 := q2 l hl.2
  have er : (gI σ 121 (ix 3)).toInt = t := hr
  have e7 : (705 * gI σ 121 (ix 3)).toInt = 705 * t := by rw [tX (by rw [er, show (705 : Int32).toInt = 705 from rfl]; omega), er]; rfl
  have e7x : ix (705 * gI σ 121 (ix 3)) = 705 * t := ix_of (by omega)
  have ec : (gI σ 123 (705 * t)).toInt = rd σ 123 (705 * t) := rfl
  have fin0 : ∀ x : Int32, 0 ≤ x.toInt → rd σ 123 (705 * t) ≤ x.toInt → (∀ j : Nat, (j : Int) < x.toInt → rd σ 123 (705 * t + 1 + 4 * j) ≠ l) → Φ (some (.int (-1))) σ := by
    intro x hx0 hx hj
    refine h0 ?_ _ rfl
    cases hx : eL E l with
    | none => rfl
    | some ops =>
      rw [hx] at q2
      obtain ⟨k, k1, k2, -⟩ := q2
      exact absurd k2 (hj k (by omega))
  intro n
  induction n with
  | zero =>
    intro x hx hx0 hj
    simp only [pI, pL, pR, pV, eM_clauseOf_2, eM_clauseOf_63]
    rw [ilt, er, if_neg (by rw [tl0]; omega), e7x, ile, ec, if_pos (by omega)]
    exact ⟨⟨by decide, by decide⟩, ⟨by decide, by decide⟩, ⟨by omega, by omega⟩, fin0 x hx0 (by omega) hj⟩
  | succ n ih =>
    intro x hx hx0 hj
    simp only [pI, pL, pR, pV, eM_clauseOf_2, eM_clauseOf_63]
    have e8 : (705 * gI σ 121 (ix 3) + 1 + 4 * x).toInt = 705 * t + 1 + 4 * x.toInt := by
      have a1 : (4 * x).toInt = 4 * x.toInt := by rw [tX (by rw [show (4 : Int32).toInt = 4 from rfl]; omega)]; rfl
      have a2 : (705 * gI σ 121 (ix 3) + 1).toInt = 705 * t + 1 := by rw [tP (by rw [e7, tl1]; omega), e7, tl1]
      rw [tP (by rw [a1, a2]; omega), a1, a2]
    have hxx := ix_to hx0
    have e8x : ix (705 * gI σ 121 (ix 3) + 1 + 4 * x) = 705 * t + 1 + 4 * ix x := ix_of (by omega)
    rw [ilt, er, if_neg (by rw [tl0]; omega), e7x, ile, ec]
    refine ⟨⟨by decide, by decide⟩, ⟨by decide, by decide⟩, ⟨by omega, by omega⟩, ?_⟩
    split
    next z => exact fin0 x hx0 z hj
    next z =>
      rw [e8x]
      refine ⟨⟨by decide, by decide⟩, ⟨by omega, by omega⟩, ?_⟩
      have es : (gI σ 123 (705 * t + 1 + 4 * ix x)).toInt = rd σ 123 (705 * t + 1 + 4 * ix x) := rfl
      rw [ieq, es, hl.1]
      split
      next y =>
        cases hx' : eL E l with
        | none =>
          rw [hx'] at q2
          exact absurd y (q2 (ix x) (by omega))
        | some ops =>
          have q3 := q2
          rw [hx'] at q3
          obtain ⟨k, k1, k2, k3, k4⟩ := q3
          have : k = ix x := by
            rcases Nat.lt_trichotomy k (ix x) with g | g | g
            · exact absurd k2 (hj k (by omega))
            · exact g
            · exact absurd y (k3 _ g)
          subst this
          exact h1 (ix x) x ops (by omega) (by omega) hx' k4
      next y =>
        simp only [pI, pL, pR, pV, eM_clauseOf_57]
        refine hM_clauseOf_2 _ _ _ _ _ (ih (x + 1) ?_ ?_ ?_)
        · rw [t1 (by omega)]; omega
        · rw [t1 (by omega)]; omega
        · intro j hjx
          rw [t1 (by omega)] at hjx
          by_cases e : j = ix x
          · subst e; exact y
          · exact hj j (by omega)
theorem sM_clauseOf {d : Nat} {Φ : Po} {σ : Sg} {E : En} {l : Nat} {lI : Int32} (hE : ME σ E) (hl : lI.toInt = l ∧ l < 5) (h0 : eL E l = none → ∀ v : Int32, v.toInt = -1 → Φ (some (.int v)) σ) (h1 : ∀ (t k : Nat) (v : Int32) (ops : List (Int × Int)), t < 4 → rd σ 121 3 = t → v.toInt = k → k < 24 → eL E l = some ops → (0 ≤ rd σ 123 (705 * t + 2 + 4 * k) ∧ rd σ 123 (705 * t + 3 + 4 * k) = rd σ 123 (705 * t + 2 + 4 * k) + ops.length ∧ rd σ 123 (705 * t + 3 + 4 * k) ≤ 300 ∧ MCode σ t (rd σ 123 (705 * t + 2 + 4 * k)).toNat ops) → Φ (some (.int v)) σ) : wp true (d + 1) nM_clauseOf [.ref 120, .int lI] σ Φ := by
  apply wM_clauseOf
  simp only [pI, pL, pR, pV, eM_clauseOf_0]
  obtain ⟨g1, g2, g3⟩ := hE.2.2.2.2.1
  by_cases hr : rd σ 121 3 = -1
  · simp only [pI, pL, pR, pV, eM_clauseOf_2, eM_clauseOf_63]
    have er : (gI σ 121 (ix 3)).toInt = -1 := hr
    rw [ilt, er, if_pos (by decide)]
    exact ⟨⟨by decide, by decide⟩, h0 (g2 hr l) _ rfl⟩
  · have hrt : rd σ 121 3 = ((rd σ 121 3).toNat : Nat) := by omega
    exact lM_clauseOf hE hl (t := (rd σ 121 3).toNat) (by omega) hrt h0 (fun k v ops a b c e => h1 _ k v ops (by omega) hrt a b c e) 24 0 rfl (by decide) (fun j hj => by rw [tl0] at hj; omega)
/-- what a law says, its names being told -/
theorem work_ok {d : Nat} {Φ : Po} {E : En} {c : Co} {l t k : Nat} {w v f : Int} {kI : Int32} {σ : Sg} {ops : List (Int × Int)} (hl : l < 5) (ht : t < 4) (hr : rd σ 121 3 = t) (hO : Ok E c) (hE : ME σ E) (hc : mc σ 121 = c) (hw : w = -1 ∨ (0 ≤ w ∧ w < eN E)) (hv : v = -1 ∨ (0 ≤ v ∧ v < eV E)) (hf : 0 ≤ f ∧ f ≤ 9) (hkI : kI.toInt = k) (hk : k < 24) (ho : eL E l = some ops) (hM : 0 ≤ rd σ 123 (705 * t + 2 + 4 * k) ∧ rd σ 123 (705 * t + 3 + 4 * k) = rd σ 123 (705 * t + 2 + 4 * k) + ops.length ∧ rd σ 123 (705 * t + 3 + 4 * k) ≤ 300 ∧ MCode σ t (rd σ 123 (705 * t + 2 + 4 * k)).toNat ops) (hN : NmL σ E c w v f (if l = 2 ∨ l = 3 then 8 else 6)) (h : ∀ σ' : Sg, Fr FML σ σ' → (if l = 0 then rd σ' 128 0 = lawE E c l w v f ops ∧ (rd σ' 128 0 = 0 ∨ rd σ' 128 0 = 1) else (gL σ' 127 0).toInt = lawE E c l w v f ops) → Φ none σ') : wp true (d + 4) nM_work [.ref 120, .int kI] σ Φ := by
  obtain ⟨m1, m2, m3, m4⟩ := hM
  have hLw := hE.2.2.2.2.2 l ops hl ho
  apply wM_work
  simp only [pI, pL, pR, pV, eM_work_0]
  have er : (gI σ 121 (ix 3)).toInt = t := hr
  have e7 : (705 * gI σ 121 (ix 3)).toInt = 705 * t := by rw [tX (by rw [er, show (705 : Int32).toInt = 705 from rfl]; omega), er]; rfl
  have e8 : (705 * gI σ 121 (ix 3) + 1 + 4 * kI).toInt = 705 * t + 1 + 4 * k := by
    have a1 : (4 * kI).toInt = 4 * k := by rw [tX (by rw [show (4 : Int32).toInt = 4 from rfl]; omega), hkI]; rfl
    have a2 : (705 * gI σ 121 (ix 3) + 1).toInt = 705 * t + 1 := by rw [tP (by rw [e7, tl1]; omega), e7, tl1]
    rw [tP (by rw [a1, a2]; omega), a1, a2]
  have e9 : (705 * gI σ 121 (ix 3) + 97).toInt = 705 * t + 97 := by rw [tP (by rw [e7, show (97 : Int32).toInt = 97 from rfl]; omega), e7]; rfl
  have e10 : (705 * gI σ 121 (ix 3) + 1 + 4 * kI + 1).toInt = 705 * t + 2 + 4 * k := by rw [tP (by rw [e8, tl1]; omega), e8, tl1]; omega
  have e10x : ix (705 * gI σ 121 (ix 3) + 1 + 4 * kI + 1) = 705 * t + 2 + 4 * k := ix_of (by omega)
  rw [e10x]
  refine ⟨⟨by decide, by decide⟩, ⟨by decide, by decide⟩, ⟨by omega, by omega⟩, ?_⟩
  have efr : (gI σ 123 (705 * t + 2 + 4 * k)).toInt = rd σ 123 (705 * t + 2 + 4 * k) := rfl
  refine lM_work (d := d) (Φ := Φ) (l := l) ht hO hE hc hw hv hf hk e8 e9 m3 ops 0 0 [] [] σ 0 0 _ _ _ hLw.2 rfl rfl (by omega) (fun _ h => by cases h) (fun _ h => by cases h) trivial trivial rfl rfl m4 (by omega) (by omega) Fr.rf hN (fun σ' hF hV hT hBt => h σ' hF ?_)
  have hlen := evl_len (E := E) (c := c) (w := w) (v := v) (f := f) ops 0 0 [] [] hLw.2 rfl rfl
  unfold lawE
  generalize evl E c w v f ops ([], []) = q at hlen hV hT hBt ⊢
  obtain ⟨p1, p2⟩ := q
  split
  next z =>
    rw [if_pos z] at hlen
    match p2, hlen.2, hT, hBt with
    | [x], _, hT, hBt =>
      have e : rd σ' 128 0 = x := hT.1
      refine ⟨e, ?_⟩
      rw [e]
      exact hBt x List.mem_cons_self
  next z =>
    rw [if_neg z] at hlen
    match p1, hlen.1, hV with
    | [x], _, hV => exact hV.1
theorem sM_says {d : Nat} {Φ : Po} {E : En} {c : Co} {l : Nat} {w v f : Int} {lI wo tp : Int32} {σ : Sg} (hl : lI.toInt = l ∧ l < 5) (hl0 : l ≠ 0) (hO : Ok E c) (hE : ME σ E) (hc : mc σ 121 = c) (hw : w = -1 ∨ (0 ≤ w ∧ w < eN E)) (hv : v = -1 ∨ (0 ≤ v ∧ v < eV E)) (hf : 0 ≤ f ∧ f ≤ 9) (hN : NmL σ E c w v f (if l = 2 ∨ l = 3 then 8 else 6)) (htp : 0 ≤ tp.toInt) (h : ∀ (σ' : Sg) (r : Int32), Fr FML σ σ' → r.toInt = clamp 0 tp.toInt (match eL E l with | none => wo.toInt | some ops => lawE E c l w v f ops) → Φ (some (.int r)) σ') : wp true (d + 5) nM_says [.ref 120, .int lI, .int wo, .int tp] σ Φ := by
  apply wM_says
  simp only [pI, pL, pR, pV, eM_says_0]
  refine sM_clauseOf hE hl (fun ho x hx => ?_) (fun t k x ops ht hr hx hk ho hM => ?_)
  · simp only [pI, pL, pR, pV, eM_says_5, eM_says_18, eM_says_34]
    simp only [cond, zB_1, zB_0, ne_eq, not_false_eq_true, true_and, and_true, ↓reduceIte, lg_cmp_ge, lg_cmp_le, lg_cmp_gt, lg_cmp_lt, lg_cmp_eq, ile, ilt, ieq, jle, jlt, jeq, Int32.toInt_toInt64, Int32.reduceToInt, Int64.reduceToInt, Int32.reduceNeg, Int64.reduceNeg, Int.reduceNeg, Int.reduceEq, Int.reduceLT, Int.reduceLE, Nat.reduceEqDiff, and_self, and_false, false_and, reduceCtorEq]
    rw [hx, if_pos (by decide), if_neg (by decide)]
    refine sM_cut (by rw [tl0]; omega) (fun r hr => ?_)
    simp only [pI, pL, pR, pV, eM_says_39]
    refine h _ _ Fr.rf ?_
    rw [hr, ho, Int32.toInt_toInt64]
    rfl
  · simp only [pI, pL, pR, pV, eM_says_5]
    simp only [cond, zB_1, zB_0, ne_eq, not_false_eq_true, true_and, and_true, ↓reduceIte, lg_cmp_ge, lg_cmp_le, lg_cmp_gt, lg_cmp_lt, lg_cmp_eq, ile, ilt, ieq, jle, jlt, jeq, Int32.toInt_toInt64, Int32.reduceToInt, Int64.reduceToInt, Int32.reduceNeg, Int64.reduceNeg, Int.reduceNeg, Int.reduceEq, Int.reduceLT, Int.reduceLE, Nat.reduceEqDiff, and_self, and_false, false_and, reduceCtorEq]
    rw [hx, if_neg (by omega)]
    refine work_ok hl.2 ht hr hO hE hc hw hv hf hx hk ho hM hN (fun σ' hF hres => ?_)
    rw [if_neg hl0] at hres
    simp only [pI, pL, pR, pV, eM_says_18, eM_says_28, eM_says_34]
    simp only [cond, zB_1, zB_0, ne_eq, not_false_eq_true, true_and, and_true, ↓reduceIte, lg_cmp_ge, lg_cmp_le, lg_cmp_gt, lg_cmp_lt, lg_cmp_eq, ile, ilt, ieq, jle, jlt, jeq, Int32.toInt_toInt64, Int32.reduceToInt, Int64.reduceToInt, Int32.reduceNeg, Int64.reduceNeg, Int.reduceNeg, Int.reduceEq, Int.reduceLT, Int.reduceLE, Nat.reduceEqDiff, and_self, and_false, false_and, reduceCtorEq]
    rw [hx, if_pos (by omega)]
    refine ⟨⟨by decide, by decide⟩, ?_⟩
    refine sM_cut (by rw [tl0]; omega) (fun r hr => ?_)
    simp only [pI, pL, pR, pV, eM_says_39]
    refine h _ _ hF ?_
    rw [hr, ho]
    show clamp 0 tp.toInt (gL σ' 127 0).toInt = _
    rw [hres]
theorem sM_isComing {d : Nat} {Φ : Po} {E : En} {c : Co} {σ : Sg} {w : Int32} (hO : Ok E c) (hE : ME σ E) (hc : mc σ 121 = c) (hw : 0 ≤ w.toInt ∧ w.toInt < eN E) (h : ∀ (σ' : Sg) (r : Int32), Fr FML σ σ' → r.toInt = bi (comesF E c (ix w)) → Φ (some (.int r)) σ') : wp true (d + 5) nM_isComing [.ref 120, .int w] σ Φ := by
  apply wM_isComing
  simp only [pI, pL, pR, pV, eM_isComing_0]
  have hn := hO.1
  have hw' : 0 ≤ w.toInt ∧ w.toInt < 6 := by omega
  have hwn : ix w < eN E := by unfold ix; omega
  have hwt := ix_to hw.1
  unfold comesF at h
  refine sM_clauseOf hE (l := 0) ⟨rfl, by omega⟩ (fun ho x hx => ?_) (fun t k x ops ht hr hx hk ho hM => ?_)
  · simp only [pI, pL, pR, pV, eM_isComing_5]
    simp only [cond, zB_1, zB_0, ne_eq, not_false_eq_true, true_and, and_true, ↓reduceIte, lg_cmp_ge, lg_cmp_le, lg_cmp_gt, lg_cmp_lt, lg_cmp_eq, ile, ilt, ieq, jle, jlt, jeq, Int32.toInt_toInt64, Int32.reduceToInt, Int64.reduceToInt, Int32.reduceNeg, Int64.reduceNeg, Int.reduceNeg, Int.reduceEq, Int.reduceLT, Int.reduceLE, Nat.reduceEqDiff, and_self, and_false, false_and, reduceCtorEq]
    rw [hx, if_neg (by decide)]
    exact h _ _ Fr.rf (by rw [ho]; rfl)
  · simp only [pI, pL, pR, pV, eM_isComing_5, eM_isComing_12]
    simp only [cond, zB_1, zB_0, ne_eq, not_false_eq_true, true_and, and_true, ↓reduceIte, lg_cmp_ge, lg_cmp_le, lg_cmp_gt, lg_cmp_lt, lg_cmp_eq, ile, ilt, ieq, jle, jlt, jeq, Int32.toInt_toInt64, Int32.reduceToInt, Int64.reduceToInt, Int32.reduceNeg, Int64.reduceNeg, Int.reduceNeg, Int.reduceEq, Int.reduceLT, Int.reduceLE, Nat.reduceEqDiff, and_self, and_false, false_and, reduceCtorEq]
    rw [hx, if_pos (by omega)]
    refine sM_getO hw' (fun o h1 => ?_)
    simp only [pI, pL, pR, pV, eM_isComing_20]
    refine sM_getF hw' (fun f h2 => ?_)
    simp only [pI, pL, pR, pV, eM_isComing_26]
    rw [hc] at h1 h2
    refine sM_name hO hE hc hw h1 (-1) (fun σ1 hF1 hN _ => ?_)
    simp only [pI, pL, pR, pV, eM_isComing_29]
    have hfb := (hO.2.2.2.2.1 _ hwn).2.2.1
    refine work_ok (l := 0) (by omega) ht ((fml_rd hF1 (by omega)).trans hr) hO (fml_ME hF1 hE) ((fml_mc hF1).trans hc) (Or.inr hw) (Or.inl rfl) (by rw [h2]; exact hfb) hx hk ho ?_ (by simpa using hN) (fun σ' hF hres => ?_)
    · rw [fml_rd hF1 (by omega), fml_rd hF1 (by omega)]
      exact ⟨hM.1, hM.2.1, hM.2.2.1, MCode.fr hF1 (fun _ => inS3 (by omega)) _ _ hM.2.2.2⟩
    · rw [if_pos rfl] at hres
      simp only [pI, pL, pR, pV, eM_isComing_34]
      have e : (gI σ' 128 (ix 0)).toInt = lawE E c 0 w.toInt (-1) f.toInt ops := hres.1
      have hz : zB (gI σ' 128 (ix 0)) = true := zB_v hres.2
      rw [hz]
      refine ⟨⟨by decide, by decide⟩, h _ _ (hF1.tr hF) ?_⟩
      rw [ho]
      show _ = bi (decide _)
      rw [hwt, ← h2]
      have h01 : (gI σ' 128 (ix 0)).toInt = 0 ∨ (gI σ' 128 (ix 0)).toInt = 1 := hres.2
      rw [← e]
      rcases h01 with g | g <;> rw [g] <;> rfl
theorem sM_blowsOf {d : Nat} {Φ : Po} {E : En} {c : Co} {σ : Sg} {w o f : Int32} (hO : Ok E c) (hE : ME σ E) (hc : mc σ 121 = c) (hw : 0 ≤ w.toInt ∧ w.toInt < eN E) (ho : o.toInt = c (ix w)) (hf : 0 ≤ f.toInt ∧ f.toInt ≤ 9) (h : ∀ (σ' : Sg) (r : Int32), Fr FML σ σ' → r.toInt = clamp 0 9 (match eL E 1 with | none => (c (ix w)).tdiv 10 | some ops => lawE E c 1 w.toInt (-1) f.toInt ops) → Φ (some (.int r)) σ') : wp true (d + 6) nM_blowsOf [.ref 120, .int w, .int o, .int f] σ Φ := by
  apply wM_blowsOf
  simp only [pI, pL, pR, pV, eM_blowsOf_0]
  refine sM_name hO hE hc hw ho (-1) (fun σ1 hF1 hN _ => ?_)
  simp only [pI, pL, pR, pV, eM_blowsOf_7]
  refine ⟨by decide, ?_⟩
  refine sM_says (l := 1) ⟨rfl, by omega⟩ (by omega) hO (fml_ME hF1 hE) ((fml_mc hF1).trans hc) (Or.inr hw) (Or.inl rfl) hf (by simpa using hN) (by decide) (fun σ2 r hF2 hr => ?_)
  simp only [pI, pL, pR, pV, eM_blowsOf_18]
  refine h _ _ (hF1.tr hF2) ?_
  rw [hr, tDt (by decide), ho]
  rfl
theorem sM_blowsNow {d : Nat} {Φ : Po} {E : En} {c : Co} {σ : Sg} {w : Int32} (hO : Ok E c) (hE : ME σ E) (hc : mc σ 121 = c) (hw : 0 ≤ w.toInt ∧ w.toInt < eN E) (h : ∀ (σ' : Sg) (r : Int32), Fr FML σ σ' → r.toInt = blowsF E c (ix w) → Φ (some (.int r)) σ') : wp true (d + 7) nM_blowsNow [.ref 120, .int w] σ Φ := by
  apply wM_blowsNow
  simp only [pI, pL, pR, pV, eM_blowsNow_0]
  have hn := hO.1
  have hw' : 0 ≤ w.toInt ∧ w.toInt < 6 := by omega
  have hwn : ix w < eN E := by unfold ix; omega
  have hwt := ix_to hw.1
  refine sM_getO hw' (fun o h1 => ?_)
  simp only [pI, pL, pR, pV, eM_blowsNow_8]
  refine sM_getF hw' (fun f h2 => ?_)
  simp only [pI, pL, pR, pV, eM_blowsNow_14]
  rw [hc] at h1 h2
  have hfb := (hO.2.2.2.2.1 _ hwn).2.2.1
  refine sM_blowsOf hO hE hc hw h1 (by rw [h2]; exact hfb) (fun σ' r hF hr => ?_)
  simp only [pI, pL, pR, pV, eM_blowsNow_17]
  refine h _ _ hF ?_
  rw [hr, h2, ← hwt]
  rfl
theorem sM_duesOf {d : Nat} {Φ : Po} {E : En} {c : Co} {σ : Sg} {w : Int32} (hO : Ok E c) (hE : ME σ E) (hc : mc σ 121 = c) (hw : 0 ≤ w.toInt ∧ w.toInt < eN E) (h : ∀ (σ' : Sg) (r : Int32), Fr FML σ σ' → r.toInt = duesF E c (ix w) → Φ (some (.int r)) σ') : wp true (d + 6) nM_duesOf [.ref 120, .int w] σ Φ := by
  apply wM_duesOf
  simp only [pI, pL, pR, pV, eM_duesOf_0]
  have hn := hO.1
  have hw' : 0 ≤ w.toInt ∧ w.toInt < 6 := by omega
  have hwn : ix w < eN E := by unfold ix; omega
  have hwt := ix_to hw.1
  refine sM_getO hw' (fun o h1 => ?_)
  simp only [pI, pL, pR, pV, eM_duesOf_8]
  refine sM_getF hw' (fun f h2 => ?_)
  simp only [pI, pL, pR, pV, eM_duesOf_14]
  rw [hc] at h1 h2
  have hfb := (hO.2.2.2.2.1 _ hwn).2.2.1
  refine sM_name hO hE hc hw h1 (-1) (fun σ1 hF1 hN _ => ?_)
  simp only [pI, pL, pR, pV, eM_duesOf_17]
  refine sM_getD hw' (fun u h3 => ?_)
  simp only [pI, pL, pR, pV, eM_duesOf_25]
  refine sM_says (l := 4) ⟨rfl, by omega⟩ (by omega) hO (fml_ME hF1 hE) ((fml_mc hF1).trans hc) (Or.inr hw) (Or.inl rfl) (by rw [h2]; exact hfb) (by simpa using hN) (by decide) (fun σ2 r hF2 hr => ?_)
  simp only [pI, pL, pR, pV, eM_duesOf_30]
  refine h _ _ (hF1.tr hF2) ?_
  rw [hr, h3, fml_mc hF1, hc, h2, ← hwt]
  rfl
theorem sM_takesOf {d : Nat} {Φ : Po} {E : En} {c : Co} {σ : Sg} {w v f : Int32} (hO : Ok E c) (hE : ME σ E) (hc : mc σ 121 = c) (hw : 0 ≤ w.toInt ∧ w.toInt < eN E) (hv : 0 ≤ v.toInt ∧ v.toInt < eV E) (hf : 0 ≤ f.toInt ∧ f.toInt ≤ 9) (h : ∀ (σ' : Sg) (r : Int32), Fr FML σ σ' → r.toInt = takesF E c (ix w) (ix v) f.toInt → Φ (some (.int r)) σ') : wp true (d + 6) nM_takesOf [.ref 120, .int w, .int v, .int f] σ Φ := by
  apply wM_takesOf
  simp only [pI, pL, pR, pV, eM_takesOf_0]
  have hn := hO.1
  have hnv := hO.2.1
  have hvw : 0 ≤ v.toInt ∧ v.toInt < 6 := by omega
  have hwt := ix_to hw.1
  have hvt := ix_to hv.1
  have hvn : ix v < eV E := by unfold ix; omega
  refine sM_nameVillage hO hE hc (Or.inr hw) hv (by omega) (fun σ1 hF1 hN => ?_)
  simp only [pI, pL, pR, pV, eM_takesOf_7]
  refine sM_of (60 + 4 * ix v) (j := 0) rfl (by omega) hvw (by omega) (fun y1 h1 => ?_)
  simp only [pI, pL, pR, pV, eM_takesOf_16]
  have hE1 := fml_ME hF1 hE
  have h1 : y1.toInt = eR E (ix v) := by rw [h1]; exact hE1.2.2.2.1 _ (ix6 hvw)
  have hrb := (hO.2.2.2.2.2 _ hvn).1
  refine sM_says (l := 2) ⟨rfl, by omega⟩ (by omega) hO hE1 ((fml_mc hF1).trans hc) (Or.inr hw) (Or.inr hv) hf (by simpa using hN) (by decide) (fun σ2 r hF2 hr => ?_)
  simp only [pI, pL, pR, pV, eM_takesOf_22]
  refine h _ _ (hF1.tr hF2) ?_
  rw [hr, tM (by omega), h1]
  unfold takesF
  rw [hwt, hvt]
  rfl
theorem sM_catchOf {d : Nat} {Φ : Po} {E : En} {c : Co} {σ : Sg} {w v f : Int32} (hO : Ok E c) (hE : ME σ E) (hc : mc σ 121 = c) (hw : w.toInt = -1 ∨ (0 ≤ w.toInt ∧ w.toInt < eN E)) (hf0 : w.toInt = -1 → f.toInt = 0) (hv : 0 ≤ v.toInt ∧ v.toInt < eV E) (hf : 0 ≤ f.toInt ∧ f.toInt ≤ 9) (h : ∀ (σ' : Sg) (r : Int32), Fr FML σ σ' → r.toInt = catchF E c w.toInt (ix v) f.toInt → Φ (some (.int r)) σ') : wp true (d + 6) nM_catchOf [.ref 120, .int w, .int v, .int f] σ Φ := by
  apply wM_catchOf
  simp only [pI, pL, pR, pV, eM_catchOf_0]
  have hvt := ix_to hv.1
  refine sM_nameVillage hO hE hc hw hv hf0 (fun σ1 hF1 hN => ?_)
  simp only [pI, pL, pR, pV, eM_catchOf_7, eM_catchOf_18, eM_catchOf_19]
  have cn : (w = -1) = (w.toInt = -1) := by rw [ieq]; rfl
  rw [cn]
  have hE1 := fml_ME hF1 hE
  unfold catchF at h
  split
  next z =>
    refine sM_says (l := 3) ⟨rfl, by omega⟩ (by omega) hO hE1 ((fml_mc hF1).trans hc) hw (Or.inr hv) hf (by simpa using hN) (by decide) (fun σ2 r hF2 hr => ?_)
    simp only [pI, pL, pR, pV, eM_catchOf_24]
    refine h _ _ (hF1.tr hF2) ?_
    rw [hr, if_pos z, hvt]
    rfl
  next z =>
    refine sM_says (l := 3) ⟨rfl, by omega⟩ (by omega) hO hE1 ((fml_mc hF1).trans hc) hw (Or.inr hv) hf (by simpa using hN) (by decide) (fun σ2 r hF2 hr => ?_)
    simp only [pI, pL, pR, pV, eM_catchOf_24]
    refine h _ _ (hF1.tr hF2) ?_
    rw [hr, if_neg z, hvt]
    rfl
