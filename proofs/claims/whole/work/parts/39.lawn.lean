theorem ME.cnt {σ : Sg} {E : En} (h : ME σ E) {t : Nat} (ht : t < 4) (hr : rd σ 121 3 = t) : 0 ≤ rd σ 123 (705 * t) ∧ rd σ 123 (705 * t) ≤ 24 := (h.2.2.2.2.1.2.2 t ht hr).1
theorem lM_clauseOf {d : Nat} {Φ : Po} {σ : Sg} {E : En} {l t : Nat} {lI : Int32} (hE : ME σ E) (hl : lI.toInt = l ∧ l < 5) (ht : t < 4) (hr : rd σ 121 3 = t) (h0 : eL E l = none → ∀ v : Int32, v.toInt = -1 → Φ (some (.int v)) σ) (h1 : ∀ (k : Nat) (v : Int32) (ops : List (Int × Int)), v.toInt = k → k < 24 → eL E l = some ops → (0 ≤ rd σ 123 (705 * t + 2 + 4 * k) ∧ rd σ 123 (705 * t + 3 + 4 * k) = rd σ 123 (705 * t + 2 + 4 * k) + ops.length ∧ rd σ 123 (705 * t + 3 + 4 * k) ≤ 300 ∧ MCode σ t (rd σ 123 (705 * t + 2 + 4 * k)).toNat ops) → Φ (some (.int v)) σ) :
    ∀ (n : Nat) (x : Int32), x.toInt + n = 24 → 0 ≤ x.toInt → (∀ j : Nat, (j : Int) < x.toInt → rd σ 123 (705 * t + 1 + 4 * j) ≠ l) → bM_clauseOf_2 true NOB (wp true d) Φ (kM_clauseOf d Φ) [.ref 120, .int lI, .int x] [] σ := by
  obtain ⟨c0, c1⟩ := hE.cnt ht hr
  obtain ⟨q1, q2⟩ := hE.2.2.2.2.1.2.2 t ht hr
  have q2 := q2 l hl.2
  have er : (gI σ 121 (ix 3)).toInt = t := hr
  have e7 : (705 * gI σ 121 (ix 3)).toInt = 705 * t := by rw [tX (by rw [er, show (705 : Int32).toInt = 705 from rfl]; omega), er]; rfl
  have e7x : ix (705 * gI σ 121 (ix 3)) = 705 * t := ix_of (by omega)
  have ec : (gI σ 123 (705 * t)).toInt = rd σ 123 (705 * t) := rfl
  have fin0 : ∀ x : Int32, 0 ≤ x.toInt → rd σ 123 (705 * t) ≤ x.toInt → (∀ j : Nat, (j : Int) < x.toInt → rd σ 123 (705 * t + 1 + 4 * j) ≠ l) → Φ (some (.int (-1))) σ := by
    intro x hx0 hx hj
    refine h0 ?_ _ rfl
    cases hx : eL E l with
    | none => rfl
    | some ops =>
      rw [hx] at q2
      obtain ⟨k, k1, k2, -⟩ := q2
      exact absurd k2 (hj k (by omega))
  intro n
  induction n with
  | zero =>
    intro x hx hx0 hj
    simp only [pI, pL, pR, pV, i10, ↓reduceIte, eM_clauseOf_2, eM_clauseOf_63]
    simp only [ilt, er]
    rw [if_neg (by rw [tl0]; omega), e7x]
    simp only [ile, ec]
    rw [if_pos (by omega)]
    exact ⟨⟨by decide, by decide⟩, ⟨by decide, by decide⟩, ⟨by omega, by omega⟩, fin0 x hx0 (by omega) hj⟩
  | succ n ih =>
    intro x hx hx0 hj
    simp only [pI, pL, pR, pV, i10, ↓reduceIte, eM_clauseOf_2, eM_clauseOf_63]
    have e8 : (705 * gI σ 121 (ix 3) + 1 + 4 * x).toInt = 705 * t + 1 + 4 * x.toInt := by
      have a1 : (4 * x).toInt = 4 * x.toInt := by rw [tX (by rw [show (4 : Int32).toInt = 4 from rfl]; omega)]; rfl
      have a2 : (705 * gI σ 121 (ix 3) + 1).toInt = 705 * t + 1 := by rw [tP (by rw [e7, tl1]; omega), e7, tl1]
      rw [tP (by rw [a1, a2]; omega), a1, a2]
    have hxx := ix_to hx0
    have e8x : ix (705 * gI σ 121 (ix 3) + 1 + 4 * x) = 705 * t + 1 + 4 * ix x := ix_of (by omega)
    simp only [ilt, er]
    rw [if_neg (by rw [tl0]; omega), e7x]
    simp only [ile, ec]
    refine ⟨⟨by decide, by decide⟩, ⟨by decide, by decide⟩, ⟨by omega, by omega⟩, ?_⟩
    split
    next z => exact fin0 x hx0 z hj
    next z =>
      rw [e8x]
      refine ⟨⟨by decide, by decide⟩, ⟨by omega, by omega⟩, ?_⟩
      have es : (gI σ 123 (705 * t + 1 + 4 * ix x)).toInt = rd σ 123 (705 * t + 1 + 4 * ix x) := rfl
      simp only [ieq, es, hl.1]
      split
      next y =>
        cases hx' : eL E l with
        | none =>
          rw [hx'] at q2
          exact absurd y (q2 (ix x) (by omega))
        | some ops =>
          have q3 := q2
          rw [hx'] at q3
          obtain ⟨k, k1, k2, k3, k4⟩ := q3
          have : k = ix x := by
            rcases Nat.lt_trichotomy k (ix x) with g | g | g
            · exact absurd k2 (hj k (by omega))
            · exact g
            · exact absurd y (k3 _ g)
          subst this
          exact h1 (ix x) x ops (by omega) (by omega) hx' k4
      next y =>
        simp only [pI, pL, pR, pV, i10, ↓reduceIte, eM_clauseOf_57]
        refine hM_clauseOf_2 _ _ _ _ _ (ih (x + 1) ?_ ?_ ?_)
        · rw [t1 (by omega)]; omega
        · rw [t1 (by omega)]; omega
        · intro j hjx
          rw [t1 (by omega)] at hjx
          by_cases e : j = ix x
          · subst e; exact y
          · exact hj j (by omega)
theorem sM_clauseOf {d : Nat} {Φ : Po} {σ : Sg} {E : En} {l : Nat} {lI : Int32} (hE : ME σ E) (hl : lI.toInt = l ∧ l < 5) (h0 : eL E l = none → ∀ v : Int32, v.toInt = -1 → Φ (some (.int v)) σ) (h1 : ∀ (t k : Nat) (v : Int32) (ops : List (Int × Int)), t < 4 → rd σ 121 3 = t → v.toInt = k → k < 24 → eL E l = some ops → (0 ≤ rd σ 123 (705 * t + 2 + 4 * k) ∧ rd σ 123 (705 * t + 3 + 4 * k) = rd σ 123 (705 * t + 2 + 4 * k) + ops.length ∧ rd σ 123 (705 * t + 3 + 4 * k) ≤ 300 ∧ MCode σ t (rd σ 123 (705 * t + 2 + 4 * k)).toNat ops) → Φ (some (.int v)) σ) : wp true (d + 1) nM_clauseOf [.ref 120, .int lI] σ Φ := by
  apply wM_clauseOf
  simp only [pI, pL, pR, pV, i10, ↓reduceIte, eM_clauseOf_0]
  obtain ⟨g1, g2, g3⟩ := hE.2.2.2.2.1
  by_cases hr : rd σ 121 3 = -1
  · simp only [pI, pL, pR, pV, i10, ↓reduceIte, eM_clauseOf_2, eM_clauseOf_63]
    have er : (gI σ 121 (ix 3)).toInt = -1 := hr
    simp only [ilt, er]
    rw [if_pos (by decide)]
    exact ⟨⟨by decide, by decide⟩, h0 (g2 hr l) _ rfl⟩
  · have hrt : rd σ 121 3 = ((rd σ 121 3).toNat : Nat) := by omega
    exact lM_clauseOf hE hl (t := (rd σ 121 3).toNat) (by omega) hrt h0 (fun k v ops a b c e => h1 _ k v ops (by omega) hrt a b c e) 24 0 rfl (by decide) (fun j hj => by rw [tl0] at hj; omega)
/-- what a law says, its names being told -/
theorem work_ok {d : Nat} {Φ : Po} {E : En} {c : Co} {l t k : Nat} {w v f : Int} {kI : Int32} {σ : Sg} {ops : List (Int × Int)} (hl : l < 5) (ht : t < 4) (hr : rd σ 121 3 = t) (hO : Ok E c) (hE : ME σ E) (hc : mc σ 121 = c) (hw : w = -1 ∨ (0 ≤ w ∧ w < eN E)) (hv : v = -1 ∨ (0 ≤ v ∧ v < eV E)) (hf : 0 ≤ f ∧ f ≤ 9) (hkI : kI.toInt = k) (hk : k < 24) (ho : eL E l = some ops) (hM : 0 ≤ rd σ 123 (705 * t + 2 + 4 * k) ∧ rd σ 123 (705 * t + 3 + 4 * k) = rd σ 123 (705 * t + 2 + 4 * k) + ops.length ∧ rd σ 123 (705 * t + 3 + 4 * k) ≤ 300 ∧ MCode σ t (rd σ 123 (705 * t + 2 + 4 * k)).toNat ops) (hN : NmL σ E c w v f (if l = 2 ∨ l = 3 then 8 else 6)) (h : ∀ σ' : Sg, Fr FML σ σ' → (if l = 0 then rd σ' 128 0 = lawE E c l w v f ops ∧ (rd σ' 128 0 = 0 ∨ rd σ' 128 0 = 1) else (gL σ' 127 0).toInt = lawE E c l w v f ops) → Φ none σ') : wp true (d + 4) nM_work [.ref 120, .int kI] σ Φ := by
  obtain ⟨m1, m2, m3, m4⟩ := hM
  have hLw := hE.2.2.2.2.2 l ops hl ho
  apply wM_work
  simp only [pI, pL, pR, pV, i10, ↓reduceIte, eM_work_0]
  have er : (gI σ 121 (ix 3)).toInt = t := hr
  have e7 : (705 * gI σ 121 (ix 3)).toInt = 705 * t := by rw [tX (by rw [er, show (705 : Int32).toInt = 705 from rfl]; omega), er]; rfl
  have e8 : (705 * gI σ 121 (ix 3) + 1 + 4 * kI).toInt = 705 * t + 1 + 4 * k := by
    have a1 : (4 * kI).toInt = 4 * k := by rw [tX (by rw [show (4 : Int32).toInt = 4 from rfl]; omega), hkI]; rfl
    have a2 : (705 * gI σ 121 (ix 3) + 1).toInt = 705 * t + 1 := by rw [tP (by rw [e7, tl1]; omega), e7, tl1]
    rw [tP (by rw [a1, a2]; omega), a1, a2]
  have e9 : (705 * gI σ 121 (ix 3) + 97).toInt = 705 * t + 97 := by rw [tP (by rw [e7, show (97 : Int32).toInt = 97 from rfl]; omega), e7]; rfl
  have e10 : (705 * gI σ 121 (ix 3) + 1 + 4 * kI + 1).toInt = 705 * t + 2 + 4 * k := by rw [tP (by rw [e8, tl1]; omega), e8, tl1]; omega
  have e10x : ix (705 * gI σ 121 (ix 3) + 1 + 4 * kI + 1) = 705 * t + 2 + 4 * k := ix_of (by omega)
  rw [e10x]
  refine ⟨⟨by decide, by decide⟩, ⟨by decide, by decide⟩, ⟨by omega, by omega⟩, ?_⟩
  have efr : (gI σ 123 (705 * t + 2 + 4 * k)).toInt = rd σ 123 (705 * t + 2 + 4 * k) := rfl
  refine lM_work (d := d) (Φ := Φ) (l := l) ht hO hE hc hw hv hf hk e8 e9 m3 ops 0 0 [] [] σ 0 0 _ _ _ hLw.2 rfl rfl (by omega) (fun _ h => by cases h) (fun _ h => by cases h) trivial trivial rfl rfl m4 (by omega) (by omega) Fr.rf hN (fun σ' hF hV hT hBt => h σ' hF ?_)
  have hlen := evl_len (E := E) (c := c) (w := w) (v := v) (f := f) ops 0 0 [] [] hLw.2 rfl rfl
  unfold lawE
  generalize evl E c w v f ops ([], []) = q at hlen hV hT hBt ⊢
  obtain ⟨p1, p2⟩ := q
  split
  next z =>
    rw [if_pos z] at hlen
    match p2, hlen.2, hT, hBt with
    | [x], _, hT, hBt =>
      have e : rd σ' 128 0 = x := hT.1
      refine ⟨e, ?_⟩
      rw [e]
      exact hBt x List.mem_cons_self
  next z =>
    rw [if_neg z] at hlen
    match p1, hlen.1, hV with
    | [x], _, hV => exact hV.1
theorem sM_says {d : Nat} {Φ : Po} {E : En} {c : Co} {l : Nat} {w v f : Int} {lI wo tp : Int32} {σ : Sg} (hl : lI.toInt = l ∧ l < 5) (hl0 : l ≠ 0) (hO : Ok E c) (hE : ME σ E) (hc : mc σ 121 = c) (hw : w = -1 ∨ (0 ≤ w ∧ w < eN E)) (hv : v = -1 ∨ (0 ≤ v ∧ v < eV E)) (hf : 0 ≤ f ∧ f ≤ 9) (hN : NmL σ E c w v f (if l = 2 ∨ l = 3 then 8 else 6)) (htp : 0 ≤ tp.toInt) (h : ∀ (σ' : Sg) (r : Int32), Fr FML σ σ' → r.toInt = clamp 0 tp.toInt (match eL E l with | none => wo.toInt | some ops => lawE E c l w v f ops) → Φ (some (.int r)) σ') : wp true (d + 5) nM_says [.ref 120, .int lI, .int wo, .int tp] σ Φ := by
  apply wM_says
  simp only [pI, pL, pR, pV, i10, ↓reduceIte, eM_says_0]
  refine sM_clauseOf hE hl (fun ho x hx => ?_) (fun t k x ops ht hr hx hk ho hM => ?_)
  · simp only [pI, pL, pR, pV, i10, ↓reduceIte, eM_says_5, eM_says_18, eM_says_34]
    try simp only [cond, zB_1, zB_0, lg_cmp_ge, lg_cmp_le, lg_cmp_gt, lg_cmp_lt, lg_cmp_eq]
    try simp only [ne_eq, not_false_eq_true, true_and, and_true, ↓reduceIte, ile, ilt, ieq, jle, jlt, jeq, Int32.toInt_toInt64, Int32.reduceToInt, Int64.reduceToInt, Int.reduceNeg, Int.reduceEq, Int.reduceLT, Int.reduceLE, and_self, and_false, false_and]
    rw [hx, if_pos (by decide)]
    try rw [if_neg (by decide)]
    refine sM_cut (by rw [tl0]; omega) (fun r hr => ?_)
    simp only [pI, pL, pR, pV, i10, ↓reduceIte, eM_says_39]
    refine h _ _ Fr.rf ?_
    rw [hr, ho, Int32.toInt_toInt64]
    rfl
  · simp only [pI, pL, pR, pV, i10, ↓reduceIte, eM_says_5]
    try simp only [cond, zB_1, zB_0, lg_cmp_ge, lg_cmp_le, lg_cmp_gt, lg_cmp_lt, lg_cmp_eq]
    try simp only [ne_eq, not_false_eq_true, true_and, and_true, ↓reduceIte, ile, ilt, ieq, jle, jlt, jeq, Int32.toInt_toInt64, Int32.reduceToInt, Int64.reduceToInt, Int.reduceNeg, Int.reduceEq, Int.reduceLT, Int.reduceLE, and_self, and_false, false_and]
    rw [hx, if_neg (by omega)]
    refine work_ok hl.2 ht hr hO hE hc hw hv hf hx hk ho hM hN (fun σ' hF hres => ?_)
    rw [if_neg hl0] at hres
    simp only [pI, pL, pR, pV, i10, ↓reduceIte, eM_says_18, eM_says_28, eM_says_34]
    try simp only [cond, zB_1, zB_0, lg_cmp_ge, lg_cmp_le, lg_cmp_gt, lg_cmp_lt, lg_cmp_eq]
    try simp only [ne_eq, not_false_eq_true, true_and, and_true, ↓reduceIte, ile, ilt, ieq, jle, jlt, jeq, Int32.toInt_toInt64, Int32.reduceToInt, Int64.reduceToInt, Int.reduceNeg, Int.reduceEq, Int.reduceLT, Int.reduceLE, and_self, and_false, false_and]
    rw [hx, if_pos (by omega)]
    refine ⟨⟨by decide, by decide⟩, ?_⟩
    refine sM_cut (by rw [tl0]; omega) (fun r hr => ?_)
    simp only [pI, pL, pR, pV, i10, ↓reduceIte, eM_says_39]
    refine h _ _ hF ?_
    rw [hr, ho]
    show clamp 0 tp.toInt (gL σ' 127 0).toInt = _
    rw [hres]
theorem sM_isComing {d : Nat} {Φ : Po} {E : En} {c : Co} {σ : Sg} {w : Int32} (hO : Ok E c) (hE : ME σ E) (hc : mc σ 121 = c) (hw : 0 ≤ w.toInt ∧ w.toInt < eN E) (h : ∀ (σ' : Sg) (r : Int32), Fr FML σ σ' → r.toInt = bi (comesF E c (ix w)) → Φ (some (.int r)) σ') : wp true (d + 5) nM_isComing [.ref 120, .int w] σ Φ := by
  apply wM_isComing
  simp only [pI, pL, pR, pV, i10, ↓reduceIte, eM_isComing_0]
  have hn := hO.1
  have hw' : 0 ≤ w.toInt ∧ w.toInt < 6 := by omega
  have hwn : ix w < eN E := by unfold ix; omega
  have hwt := ix_to hw.1
  unfold comesF at h
  refine sM_clauseOf hE (l := 0) ⟨rfl, by omega⟩ (fun ho x hx => ?_) (fun t k x ops ht hr hx hk ho hM => ?_)
  · simp only [pI, pL, pR, pV, i10, ↓reduceIte, eM_isComing_5]
    try simp only [cond, zB_1, zB_0, lg_cmp_ge, lg_cmp_le, lg_cmp_gt, lg_cmp_lt, lg_cmp_eq]
    try simp only [ne_eq, not_false_eq_true, true_and, and_true, ↓reduceIte, ile, ilt, ieq, jle, jlt, jeq, Int32.toInt_toInt64, Int32.reduceToInt, Int64.reduceToInt, Int.reduceNeg, Int.reduceEq, Int.reduceLT, Int.reduceLE, and_self, and_false, false_and]
    rw [hx]
    try rw [if_neg (by decide)]
    exact h _ _ Fr.rf (by rw [ho]; rfl)
  · simp only [pI, pL, pR, pV, i10, ↓reduceIte, eM_isComing_5, eM_isComing_12]
    try simp only [cond, zB_1, zB_0, lg_cmp_ge, lg_cmp_le, lg_cmp_gt, lg_cmp_lt, lg_cmp_eq]
    try simp only [ne_eq, not_false_eq_true, true_and, and_true, ↓reduceIte, ile, ilt, ieq, jle, jlt, jeq, Int32.toInt_toInt64, Int32.reduceToInt, Int64.reduceToInt, Int.reduceNeg, Int.reduceEq, Int.reduceLT, Int.reduceLE, and_self, and_false, false_and]
    rw [hx, if_pos (by omega)]
    refine sM_getO hw' (fun o h1 => ?_)
    simp only [pI, pL, pR, pV, i10, ↓reduceIte, eM_isComing_20]
    refine sM_getF hw' (fun f h2 => ?_)
    simp only [pI, pL, pR, pV, i10, ↓reduceIte, eM_isComing_26]
    rw [hc] at h1 h2
    refine sM_name hO hE hc hw h1 (-1) (fun σ1 hF1 hN _ => ?_)
    simp only [pI, pL, pR, pV, i10, ↓reduceIte, eM_isComing_29]
    have hfb := (hO.2.2.2.2.1 _ hwn).2.2.1
    refine work_ok (l := 0) (by omega) ht ((fml_rd hF1 (by omega)).trans hr) hO (fml_ME hF1 hE) ((fml_mc hF1).trans hc) (Or.inr hw) (Or.inl rfl) (by rw [h2]; exact hfb) hx hk ho ?_ (by simpa using hN) (fun σ' hF hres => ?_)
    · rw [fml_rd hF1 (by omega), fml_rd hF1 (by omega)]
      exact ⟨hM.1, hM.2.1, hM.2.2.1, MCode.fr hF1 (fun _ => inS3 (by omega)) _ _ hM.2.2.2⟩
    · rw [if_pos rfl] at hres
      simp only [pI, pL, pR, pV, i10, ↓reduceIte, eM_isComing_34]
      have e : (gI σ' 128 (ix 0)).toInt = lawE E c 0 w.toInt (-1) f.toInt ops := hres.1
      have hz : zB (gI σ' 128 (ix 0)) = true := zB_v hres.2
      rw [hz]
      refine ⟨⟨by decide, by decide⟩, h _ _ (hF1.tr hF) ?_⟩
      rw [ho]
      show _ = bi (decide _)
      rw [hwt, ← h2]
      have h01 : (gI σ' 128 (ix 0)).toInt = 0 ∨ (gI σ' 128 (ix 0)).toInt = 1 := hres.2
      rw [← e]
      rcases h01 with g | g <;> rw [g] <;> rfl
theorem sM_blowsOf {d : Nat} {Φ : Po} {E : En} {c : Co} {σ : Sg} {w o f : Int32} (hO : Ok E c) (hE : ME σ E) (hc : mc σ 121 = c) (hw : 0 ≤ w.toInt ∧ w.toInt < eN E) (ho : o.toInt = c (ix w)) (hf : 0 ≤ f.toInt ∧ f.toInt ≤ 9) (h : ∀ (σ' : Sg) (r : Int32), Fr FML σ σ' → r.toInt = clamp 0 9 (match eL E 1 with | none => (c (ix w)).tdiv 10 | some ops => lawE E c 1 w.toInt (-1) f.toInt ops) → Φ (some (.int r)) σ') : wp true (d + 6) nM_blowsOf [.ref 120, .int w, .int o, .int f] σ Φ := by
  apply wM_blowsOf
  simp only [pI, pL, pR, pV, i10, ↓reduceIte, eM_blowsOf_0]
  refine sM_name hO hE hc hw ho (-1) (fun σ1 hF1 hN _ => ?_)
  simp only [pI, pL, pR, pV, i10, ↓reduceIte, eM_blowsOf_7]
  refine ⟨by decide, ?_⟩
  refine sM_says (l := 1) ⟨rfl, by omega⟩ (by omega) hO (fml_ME hF1 hE) ((fml_mc hF1).trans hc) (Or.inr hw) (Or.inl rfl) hf (by simpa using hN) (by decide) (fun σ2 r hF2 hr => ?_)
  simp only [pI, pL, pR, pV, i10, ↓reduceIte, eM_blowsOf_18]
  refine h _ _ (hF1.tr hF2) ?_
  rw [hr, tDt (by decide), ho]
  rfl
theorem sM_blowsNow {d : Nat} {Φ : Po} {E : En} {c : Co} {σ : Sg} {w : Int32} (hO : Ok E c) (hE : ME σ E) (hc : mc σ 121 = c) (hw : 0 ≤ w.toInt ∧ w.toInt < eN E) (h : ∀ (σ' : Sg) (r : Int32), Fr FML σ σ' → r.toInt = blowsF E c (ix w) → Φ (some (.int r)) σ') : wp true (d + 7) nM_blowsNow [.ref 120, .int w] σ Φ := by
  apply wM_blowsNow
  simp only [pI, pL, pR, pV, i10, ↓reduceIte, eM_blowsNow_0]
  have hn := hO.1
  have hw' : 0 ≤ w.toInt ∧ w.toInt < 6 := by omega
  have hwn : ix w < eN E := by unfold ix; omega
  have hwt := ix_to hw.1
  refine sM_getO hw' (fun o h1 => ?_)
  simp only [pI, pL, pR, pV, i10, ↓reduceIte, eM_blowsNow_8]
  refine sM_getF hw' (fun f h2 => ?_)
  simp only [pI, pL, pR, pV, i10, ↓reduceIte, eM_blowsNow_14]
  rw [hc] at h1 h2
  have hfb := (hO.2.2.2.2.1 _ hwn).2.2.1
  refine sM_blowsOf hO hE hc hw h1 (by rw [h2]; exact hfb) (fun σ' r hF hr => ?_)
  simp only [pI, pL, pR, pV, i10, ↓reduceIte, eM_blowsNow_17]
  refine h _ _ hF ?_
  rw [hr, h2, ← hwt]
  rfl
theorem sM_duesOf {d : Nat} {Φ : Po} {E : En} {c : Co} {σ : Sg} {w : Int32} (hO : Ok E c) (hE : ME σ E) (hc : mc σ 121 = c) (hw : 0 ≤ w.toInt ∧ w.toInt < eN E) (h : ∀ (σ' : Sg) (r : Int32), Fr FML σ σ' → r.toInt = duesF E c (ix w) → Φ (some (.int r)) σ') : wp true (d + 6) nM_duesOf [.ref 120, .int w] σ Φ := by
  apply wM_duesOf
  simp only [pI, pL, pR, pV, i10, ↓reduceIte, eM_duesOf_0]
  have hn := hO.1
  have hw' : 0 ≤ w.toInt ∧ w.toInt < 6 := by omega
  have hwn : ix w < eN E := by unfold ix; omega
  have hwt := ix_to hw.1
  refine sM_getO hw' (fun o h1 => ?_)
  simp only [pI, pL, pR, pV, i10, ↓reduceIte, eM_duesOf_8]
  refine sM_getF hw' (fun f h2 => ?_)
  simp only [pI, pL, pR, pV, i10, ↓reduceIte, eM_duesOf_14]
  rw [hc] at h1 h2
  have hfb := (hO.2.2.2.2.1 _ hwn).2.2.1
  refine sM_name hO hE hc hw h1 (-1) (fun σ1 hF1 hN _ => ?_)
  simp only [pI, pL, pR, pV, i10, ↓reduceIte, eM_duesOf_17]
  refine sM_getD hw' (fun u h3 => ?_)
  simp only [pI, pL, pR, pV, i10, ↓reduceIte, eM_duesOf_25]
  refine sM_says (l := 4) ⟨rfl, by omega⟩ (by omega) hO (fml_ME hF1 hE) ((fml_mc hF1).trans hc) (Or.inr hw) (Or.inl rfl) (by rw [h2]; exact hfb) (by simpa using hN) (by decide) (fun σ2 r hF2 hr => ?_)
  simp only [pI, pL, pR, pV, i10, ↓reduceIte, eM_duesOf_30]
  refine h _ _ (hF1.tr hF2) ?_
  rw [hr, h3, fml_mc hF1, hc, h2, ← hwt]
  rfl
theorem sM_takesOf {d : Nat} {Φ : Po} {E : En} {c : Co} {σ : Sg} {w v f : Int32} (hO : Ok E c) (hE : ME σ E) (hc : mc σ 121 = c) (hw : 0 ≤ w.toInt ∧ w.toInt < eN E) (hv : 0 ≤ v.toInt ∧ v.toInt < eV E) (hf : 0 ≤ f.toInt ∧ f.toInt ≤ 9) (h : ∀ (σ' : Sg) (r : Int32), Fr FML σ σ' → r.toInt = takesF E c (ix w) (ix v) f.toInt → Φ (some (.int r)) σ') : wp true (d + 6) nM_takesOf [.ref 120, .int w, .int v, .int f] σ Φ := by
  apply wM_takesOf
  simp only [pI, pL, pR, pV, i10, ↓reduceIte, eM_takesOf_0]
  have hn := hO.1
  have hnv := hO.2.1
  have hvw : 0 ≤ v.toInt ∧ v.toInt < 6 := by omega
  have hwt := ix_to hw.1
  have hvt := ix_to hv.1
  have hvn : ix v < eV E := by unfold ix; omega
  refine sM_nameVillage hO hE hc (Or.inr hw) hv (by omega) (fun σ1 hF1 hN => ?_)
  simp only [pI, pL, pR, pV, i10, ↓reduceIte, eM_takesOf_7]
  refine sM_of (60 + 4 * ix v) (j := 0) rfl (by omega) hvw (by omega) (fun y1 h1 => ?_)
  simp only [pI, pL, pR, pV, i10, ↓reduceIte, eM_takesOf_16]
  have hE1 := fml_ME hF1 hE
  have h1 : y1.toInt = eR E (ix v) := by rw [h1]; exact hE1.2.2.2.1 _ (ix6 hvw)
  have hrb := (hO.2.2.2.2.2 _ hvn).1
  refine sM_says (l := 2) ⟨rfl, by omega⟩ (by omega) hO hE1 ((fml_mc hF1).trans hc) (Or.inr hw) (Or.inr hv) hf (by simpa using hN) (by decide) (fun σ2 r hF2 hr => ?_)
  simp only [pI, pL, pR, pV, i10, ↓reduceIte, eM_takesOf_22]
  refine h _ _ (hF1.tr hF2) ?_
  rw [hr, tM (by omega), h1]
  unfold takesF
  rw [hwt, hvt]
  rfl
theorem sM_catchOf {d : Nat} {Φ : Po} {E : En} {c : Co} {σ : Sg} {w v f : Int32} (hO : Ok E c) (hE : ME σ E) (hc : mc σ 121 = c) (hw : w.toInt = -1 ∨ (0 ≤ w.toInt ∧ w.toInt < eN E)) (hf0 : w.toInt = -1 → f.toInt = 0) (hv : 0 ≤ v.toInt ∧ v.toInt < eV E) (hf : 0 ≤ f.toInt ∧ f.toInt ≤ 9) (h : ∀ (σ' : Sg) (r : Int32), Fr FML σ σ' → r.toInt = catchF E c w.toInt (ix v) f.toInt → Φ (some (.int r)) σ') : wp true (d + 6) nM_catchOf [.ref 120, .int w, .int v, .int f] σ Φ := by
  apply wM_catchOf
  simp only [pI, pL, pR, pV, i10, ↓reduceIte, eM_catchOf_0]
  have hvt := ix_to hv.1
  refine sM_nameVillage hO hE hc hw hv hf0 (fun σ1 hF1 hN => ?_)
  simp only [pI, pL, pR, pV, i10, ↓reduceIte, eM_catchOf_7, eM_catchOf_18, eM_catchOf_19]
  have cn : (w = -1) = (w.toInt = -1) := by rw [ieq]; rfl
  simp only [cn]
  have hE1 := fml_ME hF1 hE
  unfold catchF at h
  split
  next z =>
    refine sM_says (l := 3) ⟨rfl, by omega⟩ (by omega) hO hE1 ((fml_mc hF1).trans hc) hw (Or.inr hv) hf (by simpa using hN) (by decide) (fun σ2 r hF2 hr => ?_)
    simp only [pI, pL, pR, pV, i10, ↓reduceIte, eM_catchOf_24]
    refine h _ _ (hF1.tr hF2) ?_
    rw [hr, if_pos z, hvt]
    rfl
  next z =>
    refine sM_says (l := 3) ⟨rfl, by omega⟩ (by omega) hO hE1 ((fml_mc hF1).trans hc) hw (Or.inr hv) hf (by simpa using hN) (by decide) (fun σ2 r hF2 hr => ?_)
    simp only [pI, pL, pR, pV, i10, ↓reduceIte, eM_catchOf_24]
    refine h _ _ (hF1.tr hF2) ?_
    rw [hr, if_neg z, hvt]
    rfl
