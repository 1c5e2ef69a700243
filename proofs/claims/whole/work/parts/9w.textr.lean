/-! TEXTS: the reference's words, packed -/
def pkW : List Int → Int
  | [] => 0
  | c :: r => if pkW r < 281474976710656 then pkW r * 256 + c else 1152921504606846976
theorem pkW_0 : ∀ l : List Int, (∀ c, c ∈ l → 1 ≤ c ∧ c ≤ 255) → 0 ≤ pkW l ∧ (l ≠ [] → 1 ≤ pkW l) ∧ pkW l ≤ 1152921504606846976
  | [], _ => ⟨by decide, fun h => absurd rfl h, by decide⟩
  | c :: r, h => by
    have ih := pkW_0 r (fun x hx => h x (List.mem_cons_of_mem _ hx))
    have hc := h c List.mem_cons_self
    have e : pkW (c :: r) = if pkW r < 281474976710656 then pkW r * 256 + c else 1152921504606846976 := rfl
    rw [e]
    split
    · exact ⟨by omega, fun _ => by omega, by omega⟩
    · exact ⟨by omega, fun _ => by omega, by omega⟩
theorem pkW_inj : ∀ l m : List Int, (∀ c, c ∈ l → 1 ≤ c ∧ c ≤ 255) → (∀ c, c ∈ m → 1 ≤ c ∧ c ≤ 255) → pkW m < 281474976710656 → pkW l = pkW m → l = m
  | [], [], _, _, _, _ => rfl
  | [], c :: r, _, hm, _, e => by
    have := (pkW_0 (c :: r) hm).2.1 (by simp)
    have e : (0 : Int) = pkW (c :: r) := e
    omega
  | c :: r, [], hl, _, _, e => by
    have := (pkW_0 (c :: r) hl).2.1 (by simp)
    have e : pkW (c :: r) = (0 : Int) := e
    omega
  | c :: r, d :: s, hl, hm, hb, e => by
    have h1 := pkW_0 r (fun x hx => hl x (List.mem_cons_of_mem _ hx))
    have h2 := pkW_0 s (fun x hx => hm x (List.mem_cons_of_mem _ hx))
    have hc := hl c List.mem_cons_self
    have hd := hm d List.mem_cons_self
    have e1 : pkW (c :: r) = if pkW r < 281474976710656 then pkW r * 256 + c else 1152921504606846976 := rfl
    have e2 : pkW (d :: s) = if pkW s < 281474976710656 then pkW s * 256 + d else 1152921504606846976 := rfl
    rw [e2] at hb
    rw [e1, e2] at e
    by_cases q2 : pkW s < 281474976710656
    · rw [if_pos q2] at hb e
      by_cases q1 : pkW r < 281474976710656
      · rw [if_pos q1] at e
        have z : pkW r = pkW s ∧ c = d := by omega
        rw [pkW_inj r s (fun x hx => hl x (List.mem_cons_of_mem _ hx)) (fun x hx => hm x (List.mem_cons_of_mem _ hx)) (by omega) z.1, z.2]
      · rw [if_neg q1] at e
        omega
    · rw [if_neg q2] at hb
      omega
theorem mk_mem {f : Nat → Int} {c : Int} : ∀ n, c ∈ mk f n → ∃ j, j < n ∧ c = f j
  | 0, h => by cases h
  | n + 1, h => by
    have h : c ∈ f n :: mk f n := h
    rcases List.mem_cons.mp h with h | h
    · exact ⟨n, by omega, h⟩
    · obtain ⟨j, hj, e⟩ := mk_mem n h
      exact ⟨j, by omega, e⟩
theorem ordF_sp {l : List Int} : ∀ n i, ordF l n i ≠ 41 → spl (ordF l n i) = l
  | 0, i, h => absurd rfl h
  | n + 1, i, h => by
    have e : ordF l (n + 1) i = if spl i = l then i else ordF l n (i + 1) := rfl
    rw [e] at h ⊢
    by_cases q : spl i = l
    · rw [if_pos q]
      exact q
    · rw [if_neg q] at h ⊢
      exact ordF_sp n (i + 1) h
theorem ord_sp : ∀ o, o < 39 → ordOf (spl o) = o := by decide +kernel
theorem ordOf_e {l : List Int} {o : Nat} (ho : o < 39) : ordOf l = o ↔ l = spl o := by
  constructor
  · intro h
    have h2 : ordF l 42 0 = o := h
    have := ordF_sp (l := l) 42 0 (by omega)
    rw [h2] at this
    exact this.symm
  · intro h
    rw [h]
    exact ord_sp o ho
def wL : List Nat := [0, 1, 2, 3, 4, 5, 6, 7, 8, 9, 10, 11, 12, 13, 14, 15, 16, 17, 18, 19, 20, 21, 22, 33, 34]
def sgL : List Nat := [23, 24, 25, 26, 27, 28, 29, 30, 31, 32, 36, 37, 38]
def kO (o : Nat) : Int := if o = 23 then 60 else if o = 24 then 4 else if o = 25 then 62 else if o = 26 then 5 else if o = 27 then 61 else if o = 28 then 35 else if o = 29 then 43 else if o = 30 then 45 else if o = 31 then 42 else if o = 32 then 47 else if o = 36 then 40 else if o = 37 then 41 else if o = 38 then 59 else if o = 39 then 1 else 0
theorem wL_k : ∀ o, o ∈ wL → o < 39 ∧ (spl o).all isLt = true ∧ spl o ≠ [] ∧ (o = 6 ∨ o = 11 ∨ pkW (spl o) < 281474976710656) := by decide +kernel
theorem sgL_k : ∀ o, o ∈ sgL → o < 39 ∧ ((o ≠ 24 ∧ o ≠ 26 ∧ spl o = [kO o] ∧ isLt (kO o) = false) ∨ (o = 24 ∧ spl o = [61, 60]) ∨ (o = 26 ∧ spl o = [61, 62])) := by decide +kernel
theorem shl8 {w : Int64} {x : Int32} (hw : 0 ≤ w.toInt ∧ w.toInt < 281474976710656) (hx : 0 ≤ x.toInt ∧ x.toInt < 256) : ((w <<< ((8 : Int32).toInt64 &&& 63)) ||| Int32.toInt64 x).toInt = w.toInt * 256 + x.toInt := by
  have h8 : ((8 : Int32).toInt64 &&& 63) = (8 : Int64) := by decide
  rw [h8]
  obtain ⟨n, hn⟩ : ∃ n : Nat, w.toInt = n := ⟨w.toInt.toNat, by omega⟩
  obtain ⟨m, hm⟩ : ∃ m : Nat, x.toInt = m := ⟨x.toInt.toNat, by omega⟩
  have ew : w = Int64.ofNat n := by
    apply Int64.toInt_inj.mp
    rw [hn, Int64.toInt_ofNat_of_lt (by omega)]
  have ex : Int32.toInt64 x = Int64.ofNat m := by
    apply Int64.toInt_inj.mp
    rw [Int32.toInt_toInt64, hm, Int64.toInt_ofNat_of_lt (by omega)]
  rw [hn, hm, ew, ex]
  have e : (Int64.ofNat n <<< 8) ||| Int64.ofNat m = Int64.ofNat (n * 256 + m) := by
    apply Int64.toBitVec_inj.mp
    apply BitVec.eq_of_toNat_eq
    rw [Int64.toBitVec_or, Int64.toBitVec_shiftLeft]
    rw [BitVec.toNat_or]
    have a1 : (Int64.ofNat m).toBitVec.toNat = m := by
      show (BitVec.ofNat 64 m).toNat = m
      rw [BitVec.toNat_ofNat, Nat.mod_eq_of_lt (by omega)]
    have a2 : (Int64.ofNat (n * 256 + m)).toBitVec.toNat = n * 256 + m := by
      show (BitVec.ofNat 64 (n * 256 + m)).toNat = n * 256 + m
      rw [BitVec.toNat_ofNat, Nat.mod_eq_of_lt (by omega)]
    have a3 : ((Int64.ofNat n).toBitVec <<< ((8 : Int64).toBitVec.smod 64)).toNat = n * 256 := by
      have s : (8 : Int64).toBitVec.smod 64 = (8 : BitVec 64) := by decide
      rw [s]
      show ((BitVec.ofNat 64 n) <<< (8 : BitVec 64)).toNat = n * 256
      rw [BitVec.shiftLeft_eq', BitVec.toNat_shiftLeft, BitVec.toNat_ofNat, Nat.mod_eq_of_lt (a := n) (by omega), Nat.shiftLeft_eq]
      show n * 2 ^ 8 % 2 ^ 64 = n * 256
      rw [Nat.mod_eq_of_lt (by omega)]
    rw [a1, a2, a3]
    have := Nat.shiftLeft_add_eq_or_of_lt (a := n) (i := 8) (b := m) (by omega)
    rw [Nat.shiftLeft_eq] at this
    show n * 256 ||| m = n * 256 + m
    exact this.symm
  rw [e, Int64.toInt_ofNat_of_lt (by omega)]
  omega
theorem shr48 {w : Int64} (hw : 0 ≤ w.toInt) : (w >>> ((48 : Int32).toInt64 &&& 63) = 0) = (w.toInt < 281474976710656) := by
  have h8 : ((48 : Int32).toInt64 &&& 63) = (48 : Int64) := by decide
  rw [h8]
  have e : (w >>> (48 : Int64)).toInt = w.toInt / 281474976710656 := by
    show ((w >>> (48 : Int64)).toBitVec).toInt = w.toBitVec.toInt / 281474976710656
    rw [Int64.toBitVec_shiftRight]
    have s : (48 : Int64).toBitVec.smod 64 = (48 : BitVec 64) := by decide
    rw [s, BitVec.sshiftRight_eq', BitVec.toInt_sshiftRight, Int.shiftRight_eq_div_pow]
    rfl
  have r1 : w >>> (48 : Int64) = 0 ↔ (w >>> (48 : Int64)).toInt = 0 := by
    constructor
    · intro q
      rw [q]
      rfl
    · intro q
      apply Int64.toInt_inj.mp
      rw [q]
      rfl
  exact propext (r1.trans (by rw [e]; constructor <;> intro q <;> omega))
/-- what the reference's token says -/
def sgn (B : Nat → Int) (p : Nat) : Int := if (B p = 60 ∨ B p = 62) ∧ B (p + 1) = 61 then (if B p = 60 then 4 else 5) else if B p ∈ [35, 40, 41, 42, 43, 45, 47, 58, 59, 60, 61, 62] then B p else 3
def KW (L : Nat) (B : Nat → Int) (p : Nat) (k : Int) (w : Int) : Prop := (L ≤ p ∧ k = 0) ∨ (p < L ∧ isLt (B p) = true ∧ k = 2 ∧ w = pkW (mk (fun j => B (p + j)) (endF L B p - p))) ∨ (p < L ∧ ¬ isLt (B p) = true ∧ isDg (B p) = true ∧ k = 1) ∨ (p < L ∧ ¬ isLt (B p) = true ∧ ¬ isDg (B p) = true ∧ k = sgn B p)
theorem ltF_all {B : Nat → Int} : ∀ n i j, i ≤ j → j < ltF B n i → isLt (B j) = true
  | 0, i, j, h1, h2 => by
    have h2 : j < i := h2
    omega
  | n + 1, i, j, h1, h2 => by
    have e : ltF B (n + 1) i = if isLt (B i) = true then ltF B n (i + 1) else i := rfl
    rw [e] at h2
    by_cases q : isLt (B i) = true
    · rw [if_pos q] at h2
      by_cases z : j = i
      · subst z
        exact q
      · exact ltF_all n (i + 1) j (by omega) h2
    · rw [if_neg q] at h2
      omega
theorem isLt_b {c : Int} (h : isLt c = true) : 1 ≤ c ∧ c ≤ 255 := by
  rw [isLt_e] at h
  omega
theorem all_b {l : List Int} (h : l.all isLt = true) : ∀ c, c ∈ l → isLt c = true := fun c hc => by
  rw [List.all_eq_true] at h
  exact h c hc
/-- a word of letters at p -/
theorem KW_let {L : Nat} {B : Nat → Int} {p : Nat} (hp : p < L) (h : isLt (B p) = true) : ordP L B p = ordOf (mk (fun j => B (p + j)) (endF L B p - p)) ∧ (∀ c, c ∈ mk (fun j => B (p + j)) (endF L B p - p) → isLt c = true) ∧ mk (fun j => B (p + j)) (endF L B p - p) ≠ [] ∧ B p ∈ mk (fun j => B (p + j)) (endF L B p - p) := by
  have hd : ¬ isDg (B p) = true := by
    rw [isLt_e] at h
    rw [isDg_e]
    omega
  have eE : endF L B p = ltF B (L - p) p := by
    unfold endF
    rw [if_neg (by omega), if_pos h]
  have e1 : p < endF L B p := by
    rw [eE]
    have eN : L - p = (L - p - 1) + 1 := by omega
    rw [eN]
    show p < if isLt (B p) = true then ltF B (L - p - 1) (p + 1) else p
    rw [if_pos h]
    have := (ltF_b (B := B) (L - p - 1) (p + 1)).1
    omega
  refine ⟨?_, fun c hc => ?_, fun z => ?_, ?_⟩
  · unfold ordP
    rw [if_neg (by omega), if_neg hd]
  · obtain ⟨j, hj, e⟩ := mk_mem _ hc
    rw [e]
    exact ltF_all (L - p) p (p + j) (by omega) (by rw [← eE]; omega)
  · have := congrArg List.length z
    rw [mk_len] at this
    have this : endF L B p - p = 0 := this
    omega
  · obtain ⟨n, hn⟩ : ∃ n, endF L B p - p = n + 1 := ⟨endF L B p - p - 1, by omega⟩
    have key : ∀ n, B p ∈ mk (fun j => B (p + j)) (n + 1) := fun n => by
      induction n with
      | zero => exact List.mem_cons_self
      | succ n ih => exact List.mem_cons_of_mem _ ih
    rw [hn]
    exact key n
/-- a sign at p -/
theorem KW_sgn {L : Nat} {B : Nat → Int} {p : Nat} (hp : p < L) (h : ¬ isLt (B p) = true) (hd : ¬ isDg (B p) = true) : ordP L B p = ordOf (if (B p = 60 ∨ B p = 62) ∧ B (p + 1) = 61 then [61, B p] else [B p]) := by
  have eO : ordP L B p = ordOf (mk (fun j => B (p + j)) (endF L B p - p)) := by
    unfold ordP
    rw [if_neg (by omega), if_neg hd]
  rw [eO]
  have eE : endF L B p = if (B p = 60 ∨ B p = 62) ∧ B (p + 1) = 61 then p + 2 else p + 1 := by
    unfold endF
    rw [if_neg (by omega), if_neg h, if_neg hd]
  rw [eE]
  by_cases q : (B p = 60 ∨ B p = 62) ∧ B (p + 1) = 61
  · rw [if_pos q, if_pos q, show p + 2 - p = 2 from by omega]
    show ordOf [B (p + 1), B (p + 0)] = _
    rw [q.2, Nat.add_zero]
  · rw [if_neg q, if_neg q, show p + 1 - p = 1 from by omega]
    show ordOf [B (p + 0)] = _
    rw [Nat.add_zero]
theorem ordOf_ne {l : List Int} (h : l ≠ []) : ordOf l ≠ 39 ∧ ordOf l ≠ 40 := by
  have e39 : spl 39 = [] := by decide +kernel
  have e40 : spl 40 = [] := by decide +kernel
  constructor
  · intro q
    have h2 : ordF l 42 0 = 39 := q
    have := ordF_sp (l := l) 42 0 (by omega)
    rw [h2, e39] at this
    exact h this.symm
  · intro q
    have h2 : ordF l 42 0 = 40 := q
    have := ordF_sp (l := l) 42 0 (by omega)
    rw [h2, e40] at this
    exact h this.symm
theorem KW_word {L : Nat} {B : Nat → Int} {p : Nat} {k w : Int} (h : KW L B p k w) {o : Nat} (ho : o ∈ wL) : (k = 2 ∧ mk (fun j => B (p + j)) (endF L B p - p) = spl o ↔ ordP L B p = o) ∧ (o ≠ 6 → o ≠ 11 → (k = 2 ∧ w = pkW (spl o) ↔ ordP L B p = o)) := by
  obtain ⟨k1, k2, k3, k4⟩ := wL_k o ho
  have al := all_b k2
  rcases h with ⟨h1, h2⟩ | ⟨h1, h2, h3, h4⟩ | ⟨h1, h2, h3, h4⟩ | ⟨h1, h2, h3, h4⟩
  · have eO : ordP L B p = 40 := by
      unfold ordP
      rw [if_pos h1]
    rw [eO]
    exact ⟨⟨fun q => by omega, fun q => by omega⟩, fun _ _ => ⟨fun q => by omega, fun q => by omega⟩⟩
  · obtain ⟨a1, a2, a3, a4⟩ := KW_let h1 h2
    rw [a1, ordOf_e k1]
    refine ⟨⟨fun q => q.2, fun q => ⟨h3, q⟩⟩, fun n6 n11 => ⟨fun q => ?_, fun q => ⟨h3, by rw [h4, q]⟩⟩⟩
    refine pkW_inj _ _ (fun c hc => isLt_b (a2 c hc)) (fun c hc => isLt_b (al c hc)) (by omega) ?_
    rw [← h4]
    exact q.2
  · have eO : ordP L B p = 39 := by
      unfold ordP
      rw [if_neg (by omega), if_pos h3]
    rw [eO]
    exact ⟨⟨fun q => by omega, fun q => by omega⟩, fun _ _ => ⟨fun q => by omega, fun q => by omega⟩⟩
  · have eO := KW_sgn h1 h2 h3
    have k2' : k ≠ 2 := by
      rw [h4]
      unfold sgn
      split
      · split <;> decide
      · split
        next z =>
          intro y
          rw [y] at z
          revert z
          decide
        next => decide
    have ne : ordP L B p ≠ o := by
      rw [eO]
      intro q
      rw [ordOf_e k1] at q
      have m : B p ∈ spl o := by
        rw [← q]
        split <;> simp
      exact h2 (al _ m)
    exact ⟨⟨fun q => absurd q.1 k2', fun q => absurd q ne⟩, fun _ _ => ⟨fun q => absurd q.1 k2', fun q => absurd q ne⟩⟩
theorem KW_sign {L : Nat} {B : Nat → Int} {p : Nat} {k w : Int} (h : KW L B p k w) : (k = 0 ↔ ordP L B p = 40) ∧ (k = 1 ↔ ordP L B p = 39) ∧ ∀ o, o ∈ sgL → (k = kO o ↔ ordP L B p = o) := by
  have kn : ∀ o, o ∈ sgL → kO o ≠ 0 ∧ kO o ≠ 1 ∧ kO o ≠ 2 ∧ kO o ≠ 3 ∧ o ≠ 39 ∧ o ≠ 40 := by decide
  rcases h with ⟨h1, h2⟩ | ⟨h1, h2, h3, h4⟩ | ⟨h1, h2, h3, h4⟩ | ⟨h1, h2, h3, h4⟩
  · have eO : ordP L B p = 40 := by
      unfold ordP
      rw [if_pos h1]
    rw [eO]
    refine ⟨⟨fun _ => rfl, fun _ => h2⟩, ⟨fun q => by omega, fun q => by omega⟩, fun o ho => ?_⟩
    have := kn o ho
    exact ⟨fun q => by omega, fun q => by omega⟩
  · obtain ⟨a1, a2, a3, a4⟩ := KW_let h1 h2
    have n := ordOf_ne a3
    rw [a1]
    refine ⟨⟨fun q => by omega, fun q => absurd q n.2⟩, ⟨fun q => by omega, fun q => absurd q n.1⟩, fun o ho => ?_⟩
    have := kn o ho
    refine ⟨fun q => by omega, fun q => ?_⟩
    obtain ⟨m1, m2⟩ := sgL_k o ho
    rw [ordOf_e m1] at q
    exfalso
    rcases m2 with ⟨-, -, m3, m4⟩ | ⟨-, m3⟩ | ⟨-, m3⟩
    · have := a2 (kO o) (by rw [q, m3]; simp)
      rw [m4] at this
      cases this
    · have := a2 61 (by rw [q, m3]; simp)
      revert this
      decide
    · have := a2 61 (by rw [q, m3]; simp)
      revert this
      decide
  · have eO : ordP L B p = 39 := by
      unfold ordP
      rw [if_neg (by omega), if_pos h3]
    rw [eO]
    refine ⟨⟨fun q => by omega, fun q => by omega⟩, ⟨fun _ => rfl, fun _ => h4⟩, fun o ho => ?_⟩
    have := kn o ho
    exact ⟨fun q => by omega, fun q => by omega⟩
  · have eO := KW_sgn h1 h2 h3
    have n := ordOf_ne (l := if (B p = 60 ∨ B p = 62) ∧ B (p + 1) = 61 then [61, B p] else [B p]) (by split <;> simp)
    rw [← eO] at n
    have k01 : k ≠ 0 ∧ k ≠ 1 := by
      rw [h4]
      unfold sgn
      split
      · split <;> decide
      · split
        next z =>
          constructor <;>
          · intro y
            rw [y] at z
            revert z
            decide
        next => decide
    refine ⟨⟨fun q => absurd q k01.1, fun q => absurd q n.2⟩, ⟨fun q => absurd q k01.2, fun q => absurd q n.1⟩, fun o ho => ?_⟩
    have kk := kn o ho
    obtain ⟨m1, m2⟩ := sgL_k o ho
    rw [h4, eO, ordOf_e m1]
    unfold sgn
    by_cases q : (B p = 60 ∨ B p = 62) ∧ B (p + 1) = 61
    · rw [if_pos q, if_pos q]
      rcases m2 with ⟨m4, m5, m3, -⟩ | ⟨m4, m3⟩ | ⟨m4, m3⟩
      · have mk : ∀ o, o ∈ sgL → o ≠ 24 → o ≠ 26 → kO o ≠ 4 ∧ kO o ≠ 5 := by decide
        have := mk o ho m4 m5
        rw [m3]
        constructor
        · intro y
          split at y <;> omega
        · intro y
          have y := congrArg List.length y
          have y : (2 : Nat) = 1 := y
          omega
      · subst m4
        rw [m3]
        have e : kO 24 = 4 := rfl
        rw [e]
        constructor
        · intro y
          by_cases z : B p = 60
          · rw [z]
          · rw [if_neg z] at y
            omega
        · intro y
          have : B p = 60 := by injection y with _ y; injection y
          rw [if_pos this]
      · subst m4
        rw [m3]
        have e : kO 26 = 5 := rfl
        rw [e]
        constructor
        · intro y
          by_cases z : B p = 60
          · rw [if_pos z] at y
            omega
          · rw [show B p = 62 from by omega]
        · intro y
          have : B p = 62 := by injection y with _ y; injection y
          rw [if_neg (by omega)]
    · rw [if_neg q, if_neg q]
      rcases m2 with ⟨m4, m5, m3, -⟩ | ⟨m4, m3⟩ | ⟨m4, m3⟩
      · have mk : ∀ o, o ∈ sgL → o ≠ 24 → o ≠ 26 → kO o ∈ [35, 40, 41, 42, 43, 45, 47, 58, 59, 60, 61, 62] := by decide
        have mm := mk o ho m4 m5
        rw [m3]
        constructor
        · intro y
          split at y
          · rw [y]
          · omega
        · intro y
          have : B p = kO o := by injection y
          rw [if_pos (by rw [this]; exact mm)]
          exact this
      · subst m4
        rw [m3]
        have e : kO 24 = 4 := rfl
        rw [e]
        constructor
        · intro y
          split at y
          next z =>
            rw [y] at z
            exact absurd z (by decide)
          next => omega
        · intro y
          have y := congrArg List.length y
          have y : (1 : Nat) = 2 := y
          omega
      · subst m4
        rw [m3]
        have e : kO 26 = 5 := rfl
        rw [e]
        constructor
        · intro y
          split at y
          next z =>
            rw [y] at z
            exact absurd z (by decide)
          next => omega
        · intro y
          have y := congrArg List.length y
          have y : (1 : Nat) = 2 := y
          omega
