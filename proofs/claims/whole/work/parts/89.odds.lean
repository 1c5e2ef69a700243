/-! FRACTIONS, ODDS -/
theorem gcd_pos {A B : Nat} (h : 0 < B) : 0 < Nat.gcd B A := Nat.gcd_pos_of_pos_left _ h
theorem jmod {x y : Int64} {A B : Nat} (hx : x.toInt = A) (hy : y.toInt = B) : (x % y).toInt = (A % B : Nat) := by
  rw [jRt, hx, hy, Int.tmod_eq_emod_of_nonneg (by omega)]
  rfl
theorem jdiv {x y : Int64} {A B : Nat} (hx : x.toInt = A) (hy : y.toInt = B) : (x / y).toInt = (A / B : Nat) := by
  rw [jDt (by omega), hx, hy, Int.tdiv_eq_ediv_of_nonneg (by omega)]
  rfl
theorem jne0 {x : Int64} {A : Nat} (hx : x.toInt = A) (hA : A ≠ 0) : x ≠ 0 := fun e => by
  rw [e] at hx
  have : (0 : Int64).toInt = 0 := rfl
  omega
theorem half_mod {q r : Nat} (h : r < q) (hr : 0 < r) : 2 * (q % r) < q := by
  have h1 := Nat.mod_lt q hr
  have h2 : q % r ≤ q - r := by
    rw [Nat.mod_eq_sub_mod (by omega)]
    exact Nat.mod_le _ _
  omega
theorem lQ_set {d : Nat} {Φ : Po} {σ : Sg} {y1 y3 : Int64} {G : Nat} (h : ∀ (y5 y7 : Int64) (x9 : Int32) (v10 : Value), y5.toInt = G → bQ_set_45 true NOB (wp true d) Φ (kQ_set d Φ) [.ref 85, .long y1, .retAddr 0, .long y3, .retAddr 0, .long y5, .retAddr 0, .long y7, .retAddr 0, .int x9, v10, .retAddr 0] [] σ) :
    ∀ (k i p q : Nat) (y5 y7 : Int64) (x9 : Int32) (v10 : Value), y5.toInt = p → y7.toInt = q → x9.toInt = i → q < 2 ^ k → i + 2 * k < 900 → Nat.gcd q p = G → bQ_set_9 true NOB (wp true d) Φ (kQ_set d Φ) [.ref 85, .long y1, .retAddr 0, .long y3, .retAddr 0, .long y5, .retAddr 0, .long y7, .retAddr 0, .int x9, v10, .retAddr 0] [] σ := by
  have k1 : (1000 : Int32).toInt = 1000 := rfl
  have stop : ∀ (i p : Nat) (y5 y7 : Int64) (x9 : Int32) (v10 : Value), y5.toInt = p → y7.toInt = ((0 : Nat) : Int) → x9.toInt = i → i < 1000 → Nat.gcd 0 p = G → bQ_set_9 true NOB (wp true d) Φ (kQ_set d Φ) [.ref 85, .long y1, .retAddr 0, .long y3, .retAddr 0, .long y5, .retAddr 0, .long y7, .retAddr 0, .int x9, v10, .retAddr 0] [] σ := by
    intro i p y5 y7 x9 v10 h5 h7 h9 hi hg
    simp only [pI, pL, pR, pV, i10, ↓reduceIte, eQ_set_9]
    try simp only [cond, zB_1, zB_0, lg_cmp_ge, lg_cmp_le, lg_cmp_gt, lg_cmp_lt, lg_cmp_eq]
    try simp only [ne_eq, not_false_eq_true, true_and, and_true, ↓reduceIte, ile, ilt, ieq, jle, jlt, jeq, Int32.toInt_toInt64, Int32.reduceToInt, Int64.reduceToInt, Int.reduceNeg, Int.reduceEq, Int.reduceLT, Int.reduceLE, and_self, and_false, false_and]
    rw [if_neg (by omega), if_pos (by omega)]
    rw [Nat.gcd_zero_left] at hg
    exact h y5 y7 x9 v10 (by rw [h5, hg])
  have step : ∀ (i p q : Nat) (y5 y7 : Int64) (x9 : Int32) (v10 : Value), y5.toInt = p → y7.toInt = q → x9.toInt = i → i < 1000 → q ≠ 0 → (∀ (z5 z7 : Int64) (x : Int32) (v : Value), z5.toInt = q → z7.toInt = (p % q : Nat) → x.toInt = (i + 1 : Nat) → bQ_set_9 true NOB (wp true d) Φ (kQ_set d Φ) [.ref 85, .long y1, .retAddr 0, .long y3, .retAddr 0, .long z5, .retAddr 0, .long z7, .retAddr 0, .int x, v, .retAddr 0] [] σ) → bQ_set_9 true NOB (wp true d) Φ (kQ_set d Φ) [.ref 85, .long y1, .retAddr 0, .long y3, .retAddr 0, .long y5, .retAddr 0, .long y7, .retAddr 0, .int x9, v10, .retAddr 0] [] σ := by
    intro i p q y5 y7 x9 v10 h5 h7 h9 hi hq K
    have hne := jne0 h7 hq
    simp only [pI, pL, pR, pV, i10, ↓reduceIte, eQ_set_9]
    try simp only [cond, zB_1, zB_0, lg_cmp_ge, lg_cmp_le, lg_cmp_gt, lg_cmp_lt, lg_cmp_eq]
    try simp only [ne_eq, not_false_eq_true, true_and, and_true, ↓reduceIte, ile, ilt, ieq, jle, jlt, jeq, Int32.toInt_toInt64, Int32.reduceToInt, Int64.reduceToInt, Int.reduceNeg, Int.reduceEq, Int.reduceLT, Int.reduceLE, and_self, and_false, false_and]
    rw [if_neg (by omega), if_neg (by omega)]
    first
    | exact ⟨hne, hQ_set_9 _ _ _ _ _ (K _ _ _ _ h7 (jmod h5 h7) (by rw [tq1 x9 (by omega), h9]; omega))⟩
    | exact ⟨by omega, hQ_set_9 _ _ _ _ _ (K _ _ _ _ h7 (jmod h5 h7) (by rw [tq1 x9 (by omega), h9]; omega))⟩
  intro k
  induction k with
  | zero =>
    intro i p q y5 y7 x9 v10 h5 h7 h9 hq hi hg
    obtain rfl : q = 0 := by omega
    exact stop i p y5 y7 x9 v10 h5 h7 h9 (by omega) hg
  | succ k ih =>
    intro i p q y5 y7 x9 v10 h5 h7 h9 hq hi hg
    by_cases q0 : q = 0
    · subst q0
      exact stop i p y5 y7 x9 v10 h5 h7 h9 (by omega) hg
    · refine step i p q y5 y7 x9 v10 h5 h7 h9 (by omega) q0 (fun z5 z7 x v g5 g7 gx => ?_)
      rw [Nat.gcd_rec] at hg
      have hr := Nat.mod_lt p (by omega : 0 < q)
      generalize p % q = r at *
      by_cases r0 : r = 0
      · subst r0
        exact stop (i + 1) q z5 z7 x v g5 g7 gx (by omega) hg
      · refine step (i + 1) q r z5 z7 x v g5 g7 gx (by omega) r0 (fun w5 w7 u v2 k5 k7 ku => ?_)
        rw [Nat.gcd_rec] at hg
        have hh := half_mod hr (by omega)
        exact ih (i + 1 + 1) r (q % r) w5 w7 u v2 k5 k7 ku (by rw [Nat.pow_succ] at hq; omega) (by omega) hg
theorem sQ_set {d : Nat} {Φ : Po} {σ : Sg} {y1 y3 : Int64} {A B : Nat} (hA : y1.toInt = A) (hB : y3.toInt = B) (hB0 : 0 < B) (hB63 : B < 2 ^ 63) (h : ∀ σ' : Sg, Fr [(85, 0, 3)] σ σ' → (gL σ' 85 0).toInt = (A / Nat.gcd B A : Nat) → (gL σ' 85 1).toInt = (B / Nat.gcd B A : Nat) → Φ none σ') : wp true (d + 1) nQ_set [.ref 85, .long y1, .long y3] σ Φ := by
  apply wQ_set
  simp only [pI, pL, pR, pV, i10, ↓reduceIte, eQ_set_0]
  have hg := gcd_pos (A := A) hB0
  refine lQ_set (G := Nat.gcd B A) (fun y5 y7 x9 v10 h5 => ?_) 63 0 A B y1 y3 0 _ hA hB rfl hB63 (by omega) rfl
  have hne := jne0 h5 (by omega)
  simp only [pI, pL, pR, pV, i10, ↓reduceIte, eQ_set_45]
  try simp only [cond, zB_1, zB_0, lg_cmp_ge, lg_cmp_le, lg_cmp_gt, lg_cmp_lt, lg_cmp_eq]
  try simp only [ne_eq, not_false_eq_true, true_and, and_true, ↓reduceIte, ile, ilt, ieq, jle, jlt, jeq, Int32.toInt_toInt64, Int32.reduceToInt, Int64.reduceToInt, Int.reduceNeg, Int.reduceEq, Int.reduceLT, Int.reduceLE, and_self, and_false, false_and]
  rw [if_neg (by omega)]
  simp only [pI, pL, pR, pV, i10, ↓reduceIte, eQ_set_55]
  refine ⟨hne, hne, h _ ((Fr.sL (by decide)).tr (Fr.sL (by decide))) ?_ ?_⟩
  · rw [gL_sL]
    try rw [if_neg (by decide)]
    rw [gL_sL, if_pos ⟨rfl, rfl⟩]
    exact jdiv hA h5
  · rw [gL_sL, if_pos ⟨rfl, rfl⟩]
    exact jdiv hB h5
theorem lM_common {d : Nat} {Φ : Po} {σ : Sg} {y0 y2 : Int64} {G : Nat} (h : ∀ v : Int64, v.toInt = G → Φ (some (.long v)) σ) (q : Nat) : ∀ (p : Nat) (y4 y6 : Int64) (v8 : Value), y4.toInt = p → y6.toInt = q → Nat.gcd q p = G → bM_common_6 true NOB (wp true d) Φ (kM_common d Φ) [.long y0, .retAddr 0, .long y2, .retAddr 0, .long y4, .retAddr 0, .long y6, .retAddr 0, v8, .retAddr 0] [] σ := by
  induction q using Nat.strongRecOn with
  | ind q ih =>
    intro p y4 y6 v8 h4 h6 hg
    by_cases q0 : q = 0
    · subst q0
      rw [Nat.gcd_zero_left] at hg
      simp only [pI, pL, pR, pV, i10, ↓reduceIte, eM_common_6]
      try simp only [cond, zB_1, zB_0, lg_cmp_ge, lg_cmp_le, lg_cmp_gt, lg_cmp_lt, lg_cmp_eq]
      try simp only [ne_eq, not_false_eq_true, true_and, and_true, ↓reduceIte, ile, ilt, ieq, jle, jlt, jeq, Int32.toInt_toInt64, Int32.reduceToInt, Int64.reduceToInt, Int.reduceNeg, Int.reduceEq, Int.reduceLT, Int.reduceLE, and_self, and_false, false_and]
      rw [if_pos (by omega)]
      simp only [pI, pL, pR, pV, i10, ↓reduceIte, eM_common_31]
      exact h y4 (by rw [h4, hg])
    · have hne := jne0 h6 q0
      have hr := Nat.mod_lt p (by omega : 0 < q)
      rw [Nat.gcd_rec] at hg
      simp only [pI, pL, pR, pV, i10, ↓reduceIte, eM_common_6]
      try simp only [cond, zB_1, zB_0, lg_cmp_ge, lg_cmp_le, lg_cmp_gt, lg_cmp_lt, lg_cmp_eq]
      try simp only [ne_eq, not_false_eq_true, true_and, and_true, ↓reduceIte, ile, ilt, ieq, jle, jlt, jeq, Int32.toInt_toInt64, Int32.reduceToInt, Int64.reduceToInt, Int.reduceNeg, Int.reduceEq, Int.reduceLT, Int.reduceLE, and_self, and_false, false_and]
      rw [if_neg (by omega)]
      first
      | exact ⟨hne, hM_common_6 _ _ _ _ _ (ih (p % q) hr q _ _ _ h6 (jmod h4 h6) hg)⟩
      | exact ⟨by omega, hM_common_6 _ _ _ _ _ (ih (p % q) hr q _ _ _ h6 (jmod h4 h6) hg)⟩
theorem sM_part {d : Nat} {Φ : Po} {σ : Sg} {y0 y2 : Int64} {l : Int32} {A B : Nat} (hA : y0.toInt = A) (hB : y2.toInt = B) (hB0 : 0 < B) (h : ∀ v : Int64, v.toInt = (if l = 0 then A / Nat.gcd B A else B / Nat.gcd B A : Nat) → Φ (some (.long v)) σ) : wp true (d + 2) nM_part [.long y0, .long y2, .int l] σ Φ := by
  have hg := gcd_pos (A := A) hB0
  have go : ∀ (s : Int64) (S : Nat), s.toInt = S → (∀ v : Int64, v.toInt = (S / Nat.gcd B A : Nat) → Φ (some (.long v)) σ) → bM_part_10 true NOB (wp true (d + 1)) Φ (kM_part (d + 1) Φ) [.long y0, .retAddr 0, .long y2, .retAddr 0, .int l] [.long s] σ := by
    intro s S hs K
    simp only [pI, pL, pR, pV, i10, ↓reduceIte, eM_part_10]
    apply wM_common
    simp only [pI, pL, pR, pV, i10, ↓reduceIte, eM_common_0]
    refine lM_common (G := Nat.gcd B A) (fun v hv => ?_) B A y0 y2 _ hA hB rfl
    simp only [pI, pL, pR, pV, i10, ↓reduceIte, eM_part_15]
    exact ⟨jne0 hv (by omega), K _ (jdiv hs hv)⟩
  apply wM_part
  simp only [pI, pL, pR, pV, i10, ↓reduceIte, eM_part_0]
  split
  next z =>
    rw [if_pos z] at h
    simp only [pI, pL, pR, pV, i10, ↓reduceIte, eM_part_9]
    exact go y0 A hA h
  next z =>
    rw [if_neg z] at h
    exact go y2 B hB h
theorem wsum_ge {E : En} {c : Co} (hO : Ok E c) {w : Nat} (hg : c (24 + w) = 0) : ∀ n, n ≤ eN E → w < n → c (12 + w) ≤ wsum c n
  | 0, _, h => by omega
  | n + 1, hn, h => by
    have e : wsum c (n + 1) = wsum c n + (if c (24 + n) = 0 then c (12 + n) else 0) := rfl
    have h0 := wsum_r hO n (by omega)
    have hwn := (hO.w (w := n) (by omega)).2.2.1
    by_cases q : w = n
    · subst q
      rw [e, if_pos hg]
      omega
    · have ih := wsum_ge hO hg n (by omega) (by omega)
      rw [e]
      split <;> omega
/-- the two numbers of the odds -/
def oddA (c : Co) (N w n : Nat) : Nat := if c (24 + w) ≠ 0 then (if n = 0 then 0 else 1) else if n = 0 then (c (12 + w)).toNat else ((wsum c N).toNat - (c (12 + w)).toNat) ^ n
def oddB (c : Co) (N w n : Nat) : Nat := if c (24 + w) ≠ 0 then 1 else if n = 0 then (wsum c N).toNat else (wsum c N).toNat ^ n
theorem pow_b {a b n m : Nat} (h1 : a ≤ b) (hb : 1 ≤ b) (h2 : n ≤ m) : a ^ n ≤ b ^ m := Nat.le_trans (Nat.pow_le_pow_left h1 n) (Nat.pow_le_pow_right hb h2)
def qOdds (w n l : Int32) (E : En) (c : Co) (_ : Nat → Int) : Int := if (0 ≤ w.toInt ∧ w.toInt < eN E) ∧ (0 ≤ n.toInt ∧ n.toInt ≤ 9) then ((if l = 0 then oddA c (eN E) (ix w) (ix n) / Nat.gcd (oddB c (eN E) (ix w) (ix n)) (oddA c (eN E) (ix w) (ix n)) else oddB c (eN E) (ix w) (ix n) / Nat.gcd (oddB c (eN E) (ix w) (ix n)) (oddA c (eN E) (ix w) (ix n)) : Nat) : Int) else -1
theorem R.ws {lws : Lws} {σ : Sg} (h : R lws σ) : wsum (mc σ 121) (eN (EE lws σ)) ≤ 54 := by
  have g : WsOk (rd σ 121 0).toNat (mc σ 121) := h.1.2.2.2.2.2.2.1.2.1.2.2
  have e : (rd σ 121 0).toNat = eN (EE lws σ) := rfl
  have n6 := h.ok.1
  rw [e] at g
  have g : wsum (mc σ 121) (eN (EE lws σ)) ≤ 9 * (eN (EE lws σ) : Nat) := g
  omega
theorem p_odds (w n l : Int32) : PairL Rel nX_odds nM_odds [.int w, .int n, .int l] := by
  have k0 : (0 : Int32).toInt = 0 := rfl
  have k9 : (9 : Int32).toInt = 9 := rfl
  have c540 : (54 : Nat) ^ 9 = 3904305912313344 := by decide
  refine qryL (qOdds w n l) (fun lws σ Φ hR h => ?_) (fun lws σ Φ hR h => ?_)
  · apply wX_odds
    simp only [pI, pL, pR, pV, i10, ↓reduceIte, eX_odds_0]
    have g0 := Wd.i hR
    have hws := hR.ws
    unfold qOdds at h
    generalize EE lws σ = E at h g0 hws
    generalize mc σ 121 = c at h g0 hws
    generalize rd σ 121 = a at h g0
    obtain ⟨hO, hE, hc, -⟩ := g0.all
    obtain ⟨n1, -, -, -, -, -, n6, -⟩ := g0.nv
    have n1' : rd σ 1 4 = eN E := n1
    have no : ¬ ((0 ≤ w.toInt ∧ w.toInt < eN E) ∧ (0 ≤ n.toInt ∧ n.toInt ≤ 9)) → bX_odds_21 true NOB (wp true 12) Φ (kX_odds 12 Φ) [.ref 0, .int w, .int n, .int l] [] σ := fun q => by
      rw [if_neg q] at h
      simp only [pI, pL, pR, pV, i10, ↓reduceIte, eX_odds_21]
      exact h _ _ Fr.rf rfl
    refine sW_isWind (fun q => ?_) (fun q => ?_)
    · rw [n1'] at q
      simp only [pI, pL, pR, pV, i10, ↓reduceIte, eX_odds_8]
      simp only [ilt, ile, k0, k9]
      split
      next z => exact no (fun x => by omega)
      next z =>
        split
        next y =>
          rw [if_pos ⟨q, by omega⟩] at h
          simp only [pI, pL, pR, pV, i10, ↓reduceIte, eX_odds_25]
          have hix := ix_to (x := n) (by omega)
          have hiw := ix_to q.1
          have hwd := hO.w (w := ix w) (by omega)
          have hw0 := wsum_r hO (eN E) (Nat.le_refl _)
          have fin : ∀ (σ' : Sg) (A B : Nat), Fr [(85, 0, 3)] σ σ' → (gL σ' 85 0).toInt = (A / Nat.gcd B A : Nat) → (gL σ' 85 1).toInt = (B / Nat.gcd B A : Nat) → oddA c (eN E) (ix w) (ix n) = A → oddB c (eN E) (ix w) (ix n) = B → bX_odds_38 true NOB (wp true 12) Φ (kX_odds 12 Φ) [.ref 0, .int w, .int n, .int l] [] σ' := by
            intro σ' A B hF h0 h1 eA eB
            rw [eA, eB] at h
            simp only [pI, pL, pR, pV, i10, ↓reduceIte, eX_odds_38]
            split
            next u =>
              rw [if_pos u] at h
              simp only [pI, pL, pR, pV, i10, ↓reduceIte, eX_odds_52, eX_odds_59]
              exact h _ _ (hF.mo (by decide)) h0
            next u =>
              rw [if_neg u] at h
              simp only [pI, pL, pR, pV, i10, ↓reduceIte, eX_odds_59]
              exact h _ _ (hF.mo (by decide)) h1
          apply wQ_setOdds
          simp only [pI, pL, pR, pV, i10, ↓reduceIte, eQ_setOdds_0]
          refine sW_all hO n1' hc (fun v hv => ?_)
          simp only [pI, pL, pR, pV, i10, ↓reduceIte, eQ_setOdds_4]
          refine sW_weightOf ⟨n1', n6⟩ hc (fun u hu => ?_)
          have cz : (n = 0) = (ix n = 0) := by
            simp only [ieq, k0]
            exact propext (by omega)
          have v64 : (Int32.toInt64 v).toInt = wsum c (eN E) := by rw [Int32.toInt_toInt64, hv]
          have u64 : (Int32.toInt64 u).toInt = u.toInt := Int32.toInt_toInt64 _
          simp only [pI, pL, pR, pV, i10, ↓reduceIte, eQ_setOdds_12]
          simp only [lg_cmp_eq, jeq, u64, show (0 : Int64).toInt = 0 from rfl, cz]
          by_cases gone : c (24 + ix w) = 0
          · rw [if_pos ⟨q, gone⟩] at hu
            have hge := wsum_ge hO gone (eN E) (Nat.le_refl _) (by omega)
            rw [if_neg (by omega)]
            obtain ⟨W, hW⟩ : ∃ W : Nat, wsum c (eN E) = W := ⟨(wsum c (eN E)).toNat, by omega⟩
            obtain ⟨O, hOw⟩ : ∃ O : Nat, c (12 + ix w) = O := ⟨(c (12 + ix w)).toNat, by omega⟩
            have hWO : O ≤ W ∧ W ≤ 54 ∧ 1 ≤ O := by omega
            have eAB : (oddA c (eN E) (ix w) (ix n) = if ix n = 0 then O else (W - O) ^ ix n) ∧ (oddB c (eN E) (ix w) (ix n) = if ix n = 0 then W else W ^ ix n) := by
              refine ⟨?_, ?_⟩
              · unfold oddA
                rw [if_neg (fun x => x gone), hW, hOw, Int.toNat_natCast, Int.toNat_natCast]
              · unfold oddB
                rw [if_neg (fun x => x gone), hW, Int.toNat_natCast]
            have hpw : ∀ (t b : Nat), t ≤ 54 → b ≤ 9 → t ^ b ≤ 3904305912313344 := fun t b ht hb => by
              rw [← c540]
              exact pow_b ht (by omega) hb
            have lp : ∀ (r i : Nat) (y8 y10 : Int64) (x12 : Int32) (A0 B0 : Nat), i + r = ix n → x12.toInt = i → y8.toInt = (A0 * (W - O) ^ i : Nat) → y10.toInt = (B0 * W ^ i : Nat) → (ix n = 0 ∧ A0 = O ∧ B0 = W ∨ ix n ≠ 0 ∧ A0 = 1 ∧ B0 = 1) → bQ_setOdds_64 true NOB (wp true 11) (pV (bX_odds_38 true NOB (wp true 12) Φ (kX_odds 12 Φ)) [.ref 0, .int w, .int n, .int l] []) (kQ_setOdds 11 (pV (bX_odds_38 true NOB (wp true 12) Φ (kX_odds 12 Φ)) [.ref 0, .int w, .int n, .int l] [])) [.ref 85, .ref 1, .int w, .int n, .long (Int32.toInt64 v), .retAddr 0, .long (Int32.toInt64 u), .retAddr 0, .long y8, .retAddr 0, .long y10, .retAddr 0, .int x12] [] σ := by
              intro r
              induction r with
              | zero =>
                intro i y8 y10 x12 A0 B0 hi h12 h8 h10 hAB
                obtain rfl : i = ix n := by omega
                simp only [pI, pL, pR, pV, i10, ↓reduceIte, eQ_setOdds_64]
                simp only [ile, h12]
                rw [if_pos (by omega)]
                simp only [pI, pL, pR, pV, i10, ↓reduceIte, eQ_setOdds_93]
                have hB9 : 0 < B0 * W ^ ix n ∧ B0 * W ^ ix n < 2 ^ 63 ∧ oddA c (eN E) (ix w) (ix n) = A0 * (W - O) ^ ix n ∧ oddB c (eN E) (ix w) (ix n) = B0 * W ^ ix n := by
                  rw [eAB.1, eAB.2]
                  rcases hAB with ⟨e0, rfl, rfl⟩ | ⟨e0, rfl, rfl⟩
                  · rw [e0]
                    try rw [if_pos rfl]
                    try rw [if_pos rfl]
                    rw [Nat.pow_zero, Nat.pow_zero, Nat.mul_one, Nat.mul_one]
                    exact ⟨by omega, by omega, rfl, rfl⟩
                  · rw [if_neg e0, if_neg e0, Nat.one_mul, Nat.one_mul]
                    exact ⟨Nat.pow_pos (by omega), by have := hpw W (ix n) (by omega) (by omega); omega, rfl, rfl⟩
                refine sQ_set h8 h10 hB9.1 hB9.2.1 (fun σ' hF k0 k1 => ?_)
                simp only [pI, pL, pR, pV, i10, ↓reduceIte, eQ_setOdds_101]
                exact fin σ' _ _ hF k0 k1 hB9.2.2.1 hB9.2.2.2
              | succ r ih =>
                intro i y8 y10 x12 A0 B0 hi h12 h8 h10 hAB
                simp only [pI, pL, pR, pV, i10, ↓reduceIte, eQ_setOdds_64]
                simp only [ile, h12]
                rw [if_neg (by omega)]
                obtain ⟨e0, rfl, rfl⟩ : ix n ≠ 0 ∧ A0 = 1 ∧ B0 = 1 := by
                  rcases hAB with z | z
                  · omega
                  · exact z
                rw [Nat.one_mul] at h8 h10
                have b1 := hpw (W - O) i (by omega) (by omega)
                have b2 := hpw W i (by omega) (by omega)
                have b3 := hpw (W - O) (i + 1) (by omega) (by omega)
                have b4 := hpw W (i + 1) (by omega) (by omega)
                have d1 : (Int32.toInt64 v - Int32.toInt64 u).toInt = (W - O : Nat) := by rw [jM (by rw [v64, u64]; omega), v64, u64]; omega
                have m1 : y8.toInt * (Int32.toInt64 v - Int32.toInt64 u).toInt = ((W - O) ^ (i + 1) : Nat) := by rw [h8, d1, Nat.pow_succ]; exact (Int.natCast_mul _ _).symm
                have m2 : y10.toInt * (Int32.toInt64 v).toInt = (W ^ (i + 1) : Nat) := by rw [h10, v64, hW, Nat.pow_succ]; exact (Int.natCast_mul _ _).symm
                exact hQ_setOdds_64 _ _ _ _ _ (ih (i + 1) _ _ (x12 + 1) 1 1 (by omega) (by rw [tq1 x12 (by omega), h12]; omega) (by rw [jX (by rw [m1]; omega), m1, Nat.one_mul]) (by rw [jX (by rw [m2]; omega), m2, Nat.one_mul]) (Or.inr ⟨e0, rfl, rfl⟩))
            have uO : (Int32.toInt64 u).toInt = O := by rw [u64, hu, hOw]
            have vW : (Int32.toInt64 v).toInt = W := by rw [v64, hW]
            simp only [pI, pL, pR, pV, i10, ↓reduceIte, eQ_setOdds_37]
            simp only [cz]
            by_cases e0 : ix n = 0
            · rw [if_pos e0]
              simp only [pI, pL, pR, pV, i10, ↓reduceIte, eQ_setOdds_47]
              simp only [cz]
              rw [if_pos e0]
              simp only [pI, pL, pR, pV, i10, ↓reduceIte, eQ_setOdds_59]
              exact lp (ix n) 0 _ _ 0 O W (by omega) rfl (by rw [uO, Nat.pow_zero, Nat.mul_one]) (by rw [vW, Nat.pow_zero, Nat.mul_one]) (Or.inl ⟨e0, rfl, rfl⟩)
            · rw [if_neg e0]
              simp only [pI, pL, pR, pV, i10, ↓reduceIte, eQ_setOdds_46, eQ_setOdds_47]
              simp only [cz]
              rw [if_neg e0]
              simp only [pI, pL, pR, pV, i10, ↓reduceIte, eQ_setOdds_58, eQ_setOdds_59]
              exact lp (ix n) 0 _ _ 0 1 1 (by omega) rfl rfl rfl (Or.inr ⟨e0, rfl, rfl⟩)
          · rw [if_neg (fun x => gone x.2)] at hu
            rw [if_pos (by omega)]
            have eAB : (oddA c (eN E) (ix w) (ix n) = if ix n = 0 then 0 else 1) ∧ oddB c (eN E) (ix w) (ix n) = 1 := by
              unfold oddA oddB
              rw [if_pos gone, if_pos gone]
              exact ⟨rfl, rfl⟩
            by_cases e0 : ix n = 0
            · rw [if_pos e0]
              simp only [pI, pL, pR, pV, i10, ↓reduceIte, eQ_setOdds_32]
              refine sQ_set (A := 0) (B := 1) rfl rfl (by omega) (by decide) (fun σ' hF k0 k1 => ?_)
              simp only [pI, pL, pR, pV, i10, ↓reduceIte, eQ_setOdds_36]
              exact fin σ' 0 1 hF k0 k1 (by rw [eAB.1, if_pos e0]) eAB.2
            · rw [if_neg e0]
              simp only [pI, pL, pR, pV, i10, ↓reduceIte, eQ_setOdds_31, eQ_setOdds_32]
              refine sQ_set (A := 1) (B := 1) rfl rfl (by omega) (by decide) (fun σ' hF k0 k1 => ?_)
              simp only [pI, pL, pR, pV, i10, ↓reduceIte, eQ_setOdds_36]
              exact fin σ' 1 1 hF k0 k1 (by rw [eAB.1, if_neg e0]) eAB.2
        next y => exact no (fun x => by omega)
    · rw [n1'] at q
      simp only [pI, pL, pR, pV, i10, ↓reduceIte, eX_odds_8]
      exact no (fun x => q x.1)
  · apply wM_odds
    simp only [pI, pL, pR, pV, i10, ↓reduceIte, eM_odds_0]
    have g0 := Wd.i hR
    have hws := hR.ws
    unfold qOdds at h
    generalize EE lws σ = E at h g0 hws
    generalize mc σ 121 = c at h g0 hws
    generalize rd σ 121 = a at h g0
    obtain ⟨hO, -, -, hE, hc, -⟩ := g0.all
    obtain ⟨-, -, n1, -, -, -, n6, -⟩ := g0.nv
    have n1' : rd σ 121 0 = eN E := n1
    have no : ¬ ((0 ≤ w.toInt ∧ w.toInt < eN E) ∧ (0 ≤ n.toInt ∧ n.toInt ≤ 9)) → bM_odds_18 true NOB (wp true 12) Φ (kM_odds 12 Φ) [.ref 120, .int w, .int n, .int l, .retAddr 0, .retAddr 0, .retAddr 0, .retAddr 0, .retAddr 0, .retAddr 0, .retAddr 0] [] σ := fun q => by
      rw [if_neg q] at h
      simp only [pI, pL, pR, pV, i10, ↓reduceIte, eM_odds_18]
      exact h _ _ Fr.rf rfl
    refine sM_isWind (by omega) (fun q => ?_) (fun q => ?_)
    · rw [n1'] at q
      simp only [pI, pL, pR, pV, i10, ↓reduceIte, eM_odds_5]
      refine sM_isIn (fun y => ?_) (fun y => ?_)
      · rw [k0, k9] at y
        rw [if_pos ⟨q, y⟩] at h
        have hix := ix_to (x := n) (by omega)
        have hiw := ix_to q.1
        have hwd := hO.w (w := ix w) (by omega)
        have hw0 := wsum_r hO (eN E) (Nat.le_refl _)
        have cz : (n = 0) = (ix n = 0) := by
          simp only [ieq, k0]
          exact propext (by omega)
        simp only [pI, pL, pR, pV, i10, ↓reduceIte, eM_odds_15, eM_odds_22]
        refine sM_getG (by omega) (fun gn hgn => ?_)
        rw [hc] at hgn
        have c1 : (gn = 1) = (c (24 + ix w) = 1) := by rw [ieq, hgn]; rfl
        simp only [pI, pL, pR, pV, i10, ↓reduceIte, eM_odds_28]
        simp only [c1]
        by_cases gone : c (24 + ix w) = 0
        · rw [if_neg (by omega)]
          have hge := wsum_ge hO gone (eN E) (Nat.le_refl _) (by omega)
          obtain ⟨W, hW⟩ : ∃ W : Nat, wsum c (eN E) = W := ⟨(wsum c (eN E)).toNat, by omega⟩
          obtain ⟨O, hOw⟩ : ∃ O : Nat, c (12 + ix w) = O := ⟨(c (12 + ix w)).toNat, by omega⟩
          have hWO : O ≤ W ∧ W ≤ 54 ∧ 1 ≤ O := by omega
          have eAB : (oddA c (eN E) (ix w) (ix n) = if ix n = 0 then O else (W - O) ^ ix n) ∧ (oddB c (eN E) (ix w) (ix n) = if ix n = 0 then W else W ^ ix n) := by
            refine ⟨?_, ?_⟩
            · unfold oddA
              rw [if_neg (fun x => x gone), hW, hOw, Int.toNat_natCast, Int.toNat_natCast]
            · unfold oddB
              rw [if_neg (fun x => x gone), hW, Int.toNat_natCast]
          have hpw : ∀ (t b : Nat), t ≤ 54 → b ≤ 9 → t ^ b ≤ 3904305912313344 := fun t b ht hb => by
            rw [← c540]
            exact pow_b ht (by omega) hb
          simp only [pI, pL, pR, pV, i10, ↓reduceIte, eM_odds_46]
          refine sM_weights hO n1' hc (fun v hv => ?_)
          have vW : (Int32.toInt64 v).toInt = W := by rw [Int32.toInt_toInt64, hv, hW]
          simp only [pI, pL, pR, pV, i10, ↓reduceIte, eM_odds_50]
          simp only [cz]
          by_cases e0 : ix n = 0
          · rw [if_pos e0]
            rw [eAB.1, eAB.2, if_pos e0, if_pos e0] at h
            refine sM_getW (by omega) (fun u hu => ?_)
            rw [hc] at hu
            have uO : (Int32.toInt64 u).toInt = O := by rw [Int32.toInt_toInt64, hu, hOw]
            simp only [pI, pL, pR, pV, i10, ↓reduceIte, eM_odds_63]
            refine sM_part uO vW (by omega) (fun r hr => ?_)
            simp only [pI, pL, pR, pV, i10, ↓reduceIte, eM_odds_70]
            exact h _ _ Fr.rf hr
          · rw [if_neg e0]
            rw [eAB.1, eAB.2, if_neg e0, if_neg e0] at h
            simp only [pI, pL, pR, pV, i10, ↓reduceIte, eM_odds_71]
            have lp : ∀ (r i : Nat) (y6 y8 : Int64) (x10 : Int32), i + r = ix n → x10.toInt = i → y6.toInt = ((W - O) ^ i : Nat) → y8.toInt = (W ^ i : Nat) → bM_odds_80 true NOB (wp true 12) Φ (kM_odds 12 Φ) [.ref 120, .int w, .int n, .int l, .long (Int32.toInt64 v), .retAddr 0, .long y6, .retAddr 0, .long y8, .retAddr 0, .int x10] [] σ := by
              intro r
              induction r with
              | zero =>
                intro i y6 y8 x10 hi h10 h6 h8
                obtain rfl : i = ix n := by omega
                simp only [pI, pL, pR, pV, i10, ↓reduceIte, eM_odds_80]
                simp only [ile, h10]
                rw [if_pos (by omega)]
                simp only [pI, pL, pR, pV, i10, ↓reduceIte, eM_odds_114]
                refine sM_part h6 h8 (Nat.pow_pos (by omega)) (fun r hr => ?_)
                simp only [pI, pL, pR, pV, i10, ↓reduceIte, eM_odds_122]
                exact h _ _ Fr.rf hr
              | succ r ih =>
                intro i y6 y8 x10 hi h10 h6 h8
                have b3 := hpw (W - O) (i + 1) (by omega) (by omega)
                have b4 := hpw W (i + 1) (by omega) (by omega)
                simp only [pI, pL, pR, pV, i10, ↓reduceIte, eM_odds_80]
                simp only [ile, h10]
                rw [if_neg (by omega)]
                refine sM_getW (by omega) (fun u hu => ?_)
                rw [hc] at hu
                have uO : (Int32.toInt64 u).toInt = O := by rw [Int32.toInt_toInt64, hu, hOw]
                have d1 : (Int32.toInt64 v - Int32.toInt64 u).toInt = (W - O : Nat) := by rw [jM (by rw [vW, uO]; omega), vW, uO]; omega
                have m1 : y6.toInt * (Int32.toInt64 v - Int32.toInt64 u).toInt = ((W - O) ^ (i + 1) : Nat) := by rw [h6, d1, Nat.pow_succ]; exact (Int.natCast_mul _ _).symm
                have m2 : y8.toInt * (Int32.toInt64 v).toInt = (W ^ (i + 1) : Nat) := by rw [h8, vW, Nat.pow_succ]; exact (Int.natCast_mul _ _).symm
                simp only [pI, pL, pR, pV, i10, ↓reduceIte, eM_odds_96]
                exact hM_odds_80 _ _ _ _ _ (ih (i + 1) _ _ (x10 + 1) (by omega) (by rw [tq1 x10 (by omega), h10]; omega) (by rw [jX (by rw [m1]; omega), m1]) (by rw [jX (by rw [m2]; omega), m2]))
            exact lp (ix n) 0 1 1 0 (by omega) rfl rfl rfl
        · rw [if_pos (by omega)]
          have eAB : (oddA c (eN E) (ix w) (ix n) = if ix n = 0 then 0 else 1) ∧ oddB c (eN E) (ix w) (ix n) = 1 := by
            unfold oddA oddB
            rw [if_pos gone, if_pos gone]
            exact ⟨rfl, rfl⟩
          rw [eAB.1, eAB.2] at h
          have one : ∀ v : Int64, v.toInt = (if l = 0 then (if ix n = 0 then 0 else 1) / Nat.gcd 1 (if ix n = 0 then 0 else 1) else 1 / Nat.gcd 1 (if ix n = 0 then 0 else 1) : Nat) → bM_odds_45 true NOB (wp true 12) Φ (kM_odds 12 Φ) [.ref 120, .int w, .int n, .int l, .retAddr 0, .retAddr 0, .retAddr 0, .retAddr 0, .retAddr 0, .retAddr 0, .retAddr 0] [.long v] σ := by
            intro v hv
            simp only [pI, pL, pR, pV, i10, ↓reduceIte, eM_odds_45]
            exact h _ _ Fr.rf hv
          split
          next z =>
            simp only [ile, k0]
            split
            next u =>
              have e0 : ix n = 0 := by omega
              simp only [pI, pL, pR, pV, i10, ↓reduceIte, eM_odds_44]
              exact one 0 (by rw [if_pos z, if_pos e0]; rfl)
            next u =>
              have e0 : ix n ≠ 0 := by omega
              simp only [pI, pL, pR, pV, i10, ↓reduceIte, eM_odds_40]
              exact one 1 (by rw [if_pos z, if_neg e0]; rfl)
          next z =>
            simp only [pI, pL, pR, pV, i10, ↓reduceIte, eM_odds_40]
            refine one 1 ?_
            rw [if_neg z]
            by_cases e0 : ix n = 0
            · rw [if_pos e0]; rfl
            · rw [if_neg e0]; rfl
      · rw [k0, k9] at y
        simp only [pI, pL, pR, pV, i10, ↓reduceIte, eM_odds_15]
        exact no (fun x => y x.2)
    · rw [n1'] at q
      simp only [pI, pL, pR, pV, i10, ↓reduceIte, eM_odds_5]
      exact no (fun x => q x.1)
