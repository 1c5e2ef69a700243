/-! ARREARS, BROKE -/
def anyS (c : Co) : Nat → Bool
  | 0 => false
  | w + 1 => anyS c w || (decide (c (24 + w) = 0) && decide (0 < c w))
theorem sD_wasCalm {d : Nat} {Φ : Po} {σ : Sg} {w : Int} (hw : rd σ 110 2 = w) (h1 : w = -1 → Φ (some (.int 1)) σ) (h0 : w ≠ -1 → Φ (some (.int 0)) σ) : wp true (d + 1) nD_wasCalm [.ref 110] σ Φ := by
  apply wD_wasCalm
  simp only [pI, pL, pR, pV, i10, ↓reduceIte, eD_wasCalm_0, eD_wasCalm_12, eD_wasCalm_13]
  have c0 : (gI σ 110 2 = -1) = (w = -1) := by rw [ieq, show (gI σ 110 2).toInt = w from hw]; rfl
  simp only [c0]
  split
  next z =>
    rw [zB_1]
    exact h1 z
  next z =>
    rw [zB_0]
    exact h0 z
theorem sF_isOwed {d : Nat} {Φ : Po} {σ : Sg} {n : Nat} {c : Co} {w : Int32} (hn : rd σ 1 4 = n ∧ n ≤ 6) (hc : rc σ 2 = c) (hw : 0 ≤ w.toInt ∧ w.toInt < n) (h : ∀ v : Int32, v.toInt = bi (decide (c (24 + ix w) = 0) && decide (0 < c (ix w))) → Φ (some (.int v)) σ) : wp true (d + 2) nF_isOwed [.ref 111, .int w] σ Φ := by
  apply wF_isOwed
  simp only [pI, pL, pR, pV, i10, ↓reduceIte, eF_isOwed_0]
  refine sW_isHere hn hc (fun a b => ?_) (fun a => ?_)
  · simp only [pI, pL, pR, pV, i10, ↓reduceIte, eF_isOwed_8, eF_isOwed_29, eF_isOwed_30]
    have ei : ix (0 + w) = ix w := by rw [ixk (n := 0) rfl (by omega)]; omega
    have eo : (gI σ 2 (ix w)).toInt = c (ix w) := by rw [← hc]; exact (rc_at (by unfold ix; omega)).symm
    rw [ei]
    refine ⟨inb_k (n := 0) rfl (by omega) (by omega), ?_⟩
    simp only [ile, eo, tl0]
    split
    next z =>
      rw [zB_0]
      exact h _ (by rw [decide_eq_true b, decide_eq_false (by omega)]; rfl)
    next z =>
      rw [zB_1]
      exact h _ (by rw [decide_eq_true b, decide_eq_true (by omega)]; rfl)
  · simp only [pI, pL, pR, pV, i10, ↓reduceIte, eF_isOwed_8, eF_isOwed_29, eF_isOwed_30]
    rw [zB_0]
    refine h _ ?_
    rw [decide_eq_false (fun z => a ⟨hw, z⟩)]
    rfl
theorem anyS_up {c : Co} {m : Nat} : ∀ n, m < n → (decide (c (24 + m) = 0) && decide (0 < c m)) = true → anyS c n = true
  | 0, h, _ => by omega
  | n + 1, h, e => by
    show (anyS c n || _) = true
    by_cases q : m = n
    · subst q; rw [e, Bool.or_true]
    · rw [anyS_up n (by omega) e, Bool.true_or]
theorem lF_any {d : Nat} {Φ : Po} {σ : Sg} {E : En} {c : Co} (hO : Ok E c) (hn : rd σ 1 4 = eN E) (hc : rc σ 2 = c) (h : ∀ v : Int32, v.toInt = bi (anyS c (eN E)) → Φ (some (.int v)) σ) :
    ∀ (n : Nat) (x : Int32), x.toInt + n = eN E → 0 ≤ x.toInt → anyS c (ix x) = false → bF_isAnyOwed_2 true NOB (wp true (d + 2)) Φ (kF_isAnyOwed (d + 2) Φ) [.ref 111, .int x] [] σ
  | 0, x, hx, h0, ha => by
    simp only [pI, pL, pR, pV, i10, ↓reduceIte, eF_isAnyOwed_2, eF_isAnyOwed_29]
    have e4 : (gI σ 1 4).toInt = eN E := hn
    simp only [ile, e4]
    rw [if_pos (by omega)]
    have : ix x = eN E := by unfold ix; omega
    rw [this] at ha
    exact h _ (by rw [ha]; rfl)
  | n + 1, x, hx, h0, ha => by
    simp only [pI, pL, pR, pV, i10, ↓reduceIte, eF_isAnyOwed_2]
    have h6 := hO.1
    have e4 : (gI σ 1 4).toInt = eN E := hn
    have hxx := ix_to h0
    simp only [ile, e4]
    rw [if_neg (by omega)]
    refine sF_isOwed ⟨hn, h6⟩ hc (by omega) (fun v hv => ?_)
    cases hb : (decide (c (24 + ix x) = 0) && decide (0 < c (ix x))) with
    | false =>
      rw [hb] at hv
      rcases b01 (Or.inl hv) with rfl | rfl
      · simp only [pI, pL, pR, pV, i10, ↓reduceIte, eF_isAnyOwed_18, eF_isAnyOwed_23]
        refine hF_isAnyOwed_2 _ _ _ _ _ (lF_any hO hn hc h n (x + 1) ?_ ?_ ?_)
        · rw [t1 (by omega)]; omega
        · rw [t1 (by omega)]; omega
        · rw [ix1 (by omega)]
          show (anyS c (ix x) || _) = false
          rw [ha, hb]
          rfl
      · exact absurd hv (by decide)
    | true =>
      rw [hb] at hv
      rcases b01 (Or.inr hv) with rfl | rfl
      · exact absurd hv (by decide)
      · simp only [pI, pL, pR, pV, i10, ↓reduceIte, eF_isAnyOwed_18]
        exact h _ (by rw [anyS_up (c := c) (m := ix x) (eN E) (by omega) hb]; rfl)
theorem sF_any {d : Nat} {Φ : Po} {σ : Sg} {E : En} {c : Co} (hO : Ok E c) (hn : rd σ 1 4 = eN E) (hc : rc σ 2 = c) (h : ∀ v : Int32, v.toInt = bi (anyS c (eN E)) → Φ (some (.int v)) σ) : wp true (d + 3) nF_isAnyOwed [.ref 111] σ Φ := by
  apply wF_isAnyOwed
  simp only [pI, pL, pR, pV, i10, ↓reduceIte, eF_isAnyOwed_0]
  exact lF_any hO hn hc h (eN E) 0 (by rw [tl0]; omega) (by decide) rfl
theorem lM_any {d : Nat} {Φ : Po} {σ : Sg} {E : En} {c : Co} (hO : Ok E c) (hn : rd σ 121 0 = eN E) (hc : mc σ 121 = c) (h : ∀ v : Int32, v.toInt = bi (anyS c (eN E)) → Φ (some (.int v)) σ) :
    ∀ (n : Nat) (x : Int32), x.toInt + n = eN E → 0 ≤ x.toInt → anyS c (ix x) = false → bM_isInArrears_2 true NOB (wp true (d + 1)) Φ (kM_isInArrears (d + 1) Φ) [.ref 120, .int x] [] σ
  | 0, x, hx, h0, ha => by
    simp only [pI, pL, pR, pV, i10, ↓reduceIte, eM_isInArrears_2, eM_isInArrears_38]
    have e4 : (gI σ 121 (ix 0)).toInt = eN E := hn
    simp only [ile, e4]
    rw [if_pos (by omega)]
    have : ix x = eN E := by unfold ix; omega
    rw [this] at ha
    exact ⟨⟨by decide, by decide⟩, h _ (by rw [ha]; rfl)⟩
  | n + 1, x, hx, h0, ha => by
    simp only [pI, pL, pR, pV, i10, ↓reduceIte, eM_isInArrears_2]
    have h6 := hO.1
    have e4 : (gI σ 121 (ix 0)).toInt = eN E := hn
    have hxx := ix_to h0
    simp only [ile, e4]
    rw [if_neg (by omega)]
    refine ⟨⟨by decide, by decide⟩, ?_⟩
    have next : (decide (c (24 + ix x) = 0) && decide (0 < c (ix x))) = false → bM_isInArrears_32 true NOB (wp true (d + 1)) Φ (kM_isInArrears (d + 1) Φ) [.ref 120, .int x] [] σ := fun q => by
      simp only [pI, pL, pR, pV, i10, ↓reduceIte, eM_isInArrears_32]
      refine hM_isInArrears_2 _ _ _ _ _ (lM_any hO hn hc h n (x + 1) ?_ ?_ ?_)
      · rw [t1 (by omega)]; omega
      · rw [t1 (by omega)]; omega
      · rw [ix1 (by omega)]
        show (anyS c (ix x) || _) = false
        rw [ha, q]
        rfl
    refine sM_getG (by omega) (fun g hg => ?_)
    simp only [pI, pL, pR, pV, i10, ↓reduceIte, eM_isInArrears_18]
    rw [hc] at hg
    have c0 : (g = 0) = (c (24 + ix x) = 0) := by rw [ieq, hg]; rfl
    simp only [c0]
    split
    next z =>
      refine sM_getO (by omega) (fun o ho => ?_)
      simp only [pI, pL, pR, pV, i10, ↓reduceIte, eM_isInArrears_27]
      rw [hc] at ho
      simp only [ile, ho, tl0]
      split
      next y => exact next (by rw [decide_eq_false (by omega : ¬ 0 < c (ix x)), Bool.and_false])
      next y => exact h _ (by rw [anyS_up (c := c) (m := ix x) (eN E) (by omega) (by rw [decide_eq_true z, decide_eq_true (by omega)]; rfl)]; rfl)
    next z => exact next (by rw [decide_eq_false z, Bool.false_and])
theorem sM_any {d : Nat} {Φ : Po} {σ : Sg} {E : En} {c : Co} (hO : Ok E c) (hn : rd σ 121 0 = eN E) (hc : mc σ 121 = c) (h : ∀ v : Int32, v.toInt = bi (anyS c (eN E)) → Φ (some (.int v)) σ) : wp true (d + 2) nM_isInArrears [.ref 120] σ Φ := by
  apply wM_isInArrears
  simp only [pI, pL, pR, pV, i10, ↓reduceIte, eM_isInArrears_0]
  exact lM_any hO hn hc h (eN E) 0 (by rw [tl0]; omega) (by decide) rfl
def arrS (E : En) (c : Co) : Nat → Nat → Int
  | 0, _ => -1
  | n + 1, i => if (passF E (pasN E c i)).2.1 = -1 ∧ anyS (pasN E c (i + 1)) (eN E) = true then ((i + 1 : Nat) : Int) else arrS E c n (i + 1)
theorem lF_arr {d : Nat} {Φ : Po} {E : En} {c : Co} {canI : Int32} {σ0 : Sg} {can : Nat} (hO : Ok E c) (hT : TkOk E c) (hE : CE σ0 E) (h44 : 0 ≤ rd σ0 2 44 ∧ rd σ0 2 44 ≤ 9999) (hcan : canI.toInt = can) (hcn : (can : Int) ≤ 9999 - c 42) (hc60 : can ≤ 60)
    (h : ∀ (σ2 σ3 : Sg) (v : Int32), Fr FD σ0 σ2 → v.toInt = arrS E c can 0 → Fr [(2, 0, 75)] σ2 σ3 → (∀ k, k < 75 → gI σ3 2 k = gI σ2 112 k) → Φ (some (.int v)) σ3) :
    ∀ (n i : Nat) (σ : Sg) (f x : Int32), i + n = can → x.toInt = i + 1 → Fr FD σ0 σ → (f = -1 ∧ arrS E c can 0 = arrS E c n i ∨ f ≠ -1 ∧ f.toInt = arrS E c can 0) → rc σ 2 = pasN E c i → rd σ 2 44 = rd σ0 2 44 + i → bF_daysToArrears_15 true NOB (wp true (d + 6)) Φ (kF_daysToArrears (d + 6) Φ) [.ref 111, .int f, .int canI, .int x] [] σ := by
  have fin : ∀ (σ : Sg) (f x : Int32), Fr FD σ0 σ → f.toInt = arrS E c can 0 → bF_daysToArrears_57 true NOB (wp true (d + 6)) Φ (kF_daysToArrears (d + 6) Φ) [.ref 111, .int f, .int canI, .int x] [] σ := by
    intro σ f x hF hf
    simp only [pI, pL, pR, pV, i10, ↓reduceIte, eF_daysToArrears_57]
    refine sF_giveBack (fun σ3 h4 h5 => ?_)
    simp only [pI, pL, pR, pV, i10, ↓reduceIte, eF_daysToArrears_61]
    exact h σ σ3 f hF hf h4 h5
  intro n
  induction n with
  | zero =>
    intro i σ f x hi hx hF hf hc hw
    simp only [pI, pL, pR, pV, i10, ↓reduceIte, eF_daysToArrears_15]
    simp only [ilt, hcan]
    rw [if_pos (by omega)]
    refine fin σ f x hF ?_
    rcases hf with ⟨rfl, q⟩ | ⟨-, q⟩
    · rw [q]; rfl
    · exact q
  | succ n ih =>
    intro i σ f x hi hx hF hf hc hw
    simp only [pI, pL, pR, pV, i10, ↓reduceIte, eF_daysToArrears_15]
    simp only [ilt, hcan]
    rw [if_neg (by omega)]
    split
    next z =>
      subst z
      rcases hf with ⟨-, q⟩ | ⟨q, -⟩
      · obtain ⟨o1, o2, o3, o4⟩ := pasN_ok hO hT i (by omega)
        have p1 := passF_ok o1 o2 (by omega)
        have eS : arrS E c (n + 1) i = if (passF E (pasN E c i)).2.1 = -1 ∧ anyS (pasN E c (i + 1)) (eN E) = true then ((i + 1 : Nat) : Int) else arrS E c n (i + 1) := rfl
        have hx1 : (x + 1).toInt = ((i + 1 : Nat) : Int) + 1 := by rw [t1 (by omega), hx]; omega
        refine sD_pass o1 (CEd hF hE) hc o2 (by omega) (by rw [hw]; omega) (fun σ2 hF2 hc2 hw2 hf2 ht2 hP => ?_)
        simp only [pI, pL, pR, pV, i10, ↓reduceIte, eF_daysToArrears_32]
        have hW : rd σ2 2 44 = rd σ0 2 44 + (i + 1 : Nat) := by rw [hP.1, hw]; omega
        refine sD_wasCalm hw2 (fun y => ?_) (fun y => ?_)
        · simp only [pI, pL, pR, pV, i10, ↓reduceIte, eF_daysToArrears_39]
          refine sF_any p1.1 (((hF.tr hF2).rd (inFD (by omega))).trans hE.1) hc2 (fun v hv => ?_)
          simp only [pI, pL, pR, pV, i10, ↓reduceIte, eF_daysToArrears_46]
          have c0 : (v = 0) = (v.toInt = 0) := by rw [ieq]; rfl
          simp only [c0, hv]
          cases hb : anyS (passF E (pasN E c i)).1 (eN E) with
          | true =>
            try rw [if_neg (by decide)]
            simp only [pI, pL, pR, pV, i10, ↓reduceIte, eF_daysToArrears_51]
            refine hF_daysToArrears_15 _ _ _ _ _ (ih (i + 1) σ2 x (x + 1) (by omega) hx1 (hF.tr hF2) (Or.inr ⟨fun e => by rw [e] at hx; have : (-1 : Int32).toInt = -1 := rfl; omega, ?_⟩) hc2 hW)
            rw [q, eS, if_pos ⟨y, hb⟩, hx]
            omega
          | false =>
            try rw [if_pos rfl]
            simp only [pI, pL, pR, pV, i10, ↓reduceIte, eF_daysToArrears_51]
            refine hF_daysToArrears_15 _ _ _ _ _ (ih (i + 1) σ2 (-1) (x + 1) (by omega) hx1 (hF.tr hF2) (Or.inl ⟨rfl, ?_⟩) hc2 hW)
            rw [q, eS, if_neg (fun e => by have e2 : anyS (passF E (pasN E c i)).1 (eN E) = true := e.2; rw [hb] at e2; cases e2)]
        · simp only [pI, pL, pR, pV, i10, ↓reduceIte, eF_daysToArrears_39, eF_daysToArrears_51]
          refine hF_daysToArrears_15 _ _ _ _ _ (ih (i + 1) σ2 (-1) (x + 1) (by omega) hx1 (hF.tr hF2) (Or.inl ⟨rfl, ?_⟩) hc2 hW)
          rw [q, eS, if_neg (fun e => y e.1)]
      · exact absurd rfl q
    next z =>
      refine fin σ f x hF ?_
      rcases hf with ⟨q, -⟩ | ⟨-, q⟩
      · exact absurd q z
      · exact q
theorem canN_i {E : En} {c : Co} (hO : Ok E c) (hT : TkOk E c) {i : Nat} (y : pasN E c (canN c i) 42 < 9999) (h : i < 60) : canN c i = i ∧ i + 1 ≤ canN c 60 := by
  have hl := canN_le (n := i) hO.2.2.1
  have o3 := (pasN_ok hO hT (canN c i) (by omega)).2.2.1
  rw [o3] at y
  have hd := hO.2.2.1
  unfold canN at *
  omega
theorem canN_m {c : Co} {n : Nat} : canN c n = (9999 - c 42).toNat ∨ canN c n = n := by
  unfold canN
  omega
theorem lM_arr {d : Nat} {Φ : Po} {E : En} {c : Co} {σ0 : Sg} (hO : Ok E c) (hT : TkOk E c) (hE : ME σ0 E) (hi0 : rd σ0 120 24 = 0)
    (h : ∀ (σ2 σ3 : Sg) (v : Int32), Fr FMg σ0 σ2 → v.toInt = arrS E c (canN c 60) 0 → Fr [(121, 8, 84), (120, 24, 25)] σ2 σ3 → (∀ k, 8 ≤ k → k < 84 → gI σ3 121 k = gI σ2 129 k) → gI σ3 120 24 = 1 → Φ (some (.int v)) σ3) :
    ∀ (n i : Nat) (σ : Sg) (f x : Int32), i + n = 60 → x.toInt = i + 1 → Fr FMg σ0 σ → (f = -1 ∧ arrS E c (canN c 60) 0 = arrS E c (canN c 60 - canN c i) (canN c i) ∨ f ≠ -1 ∧ f.toInt = arrS E c (canN c 60) 0) → mc σ 121 = pasN E c (canN c i) → rd σ 120 28 = tkN E c (canN c i) → rd σ 120 24 = 0 → bM_arrears_8 true NOB (wp true (d + 11)) Φ (kM_arrears (d + 11) Φ) [.ref 120, .int f, .int x] [] σ := by
  have fin : ∀ (σ : Sg) (f x : Int32), Fr FMg σ0 σ → f.toInt = arrS E c (canN c 60) 0 → bM_arrears_49 true NOB (wp true (d + 11)) Φ (kM_arrears (d + 11) Φ) [.ref 120, .int f, .int x] [] σ := by
    intro σ f x hF hf
    simp only [pI, pL, pR, pV, i10, ↓reduceIte, eM_arrears_49]
    refine sM_putBack (fun σ3 h4 h5 h6 => ?_)
    simp only [pI, pL, pR, pV, i10, ↓reduceIte, eM_arrears_53]
    exact h σ σ3 f hF hf h4 h5 h6
  intro n
  induction n with
  | zero =>
    intro i σ f x hi hx hF hf hc ht hz
    simp only [pI, pL, pR, pV, i10, ↓reduceIte, eM_arrears_8]
    simp only [ilt, show (60 : Int32).toInt = 60 from rfl]
    rw [if_pos (by omega)]
    refine fin σ f x hF ?_
    rcases hf with ⟨rfl, q⟩ | ⟨-, q⟩
    · rw [q, show i = 60 from by omega, Nat.sub_self]; rfl
    · exact q
  | succ n ih =>
    intro i σ f x hi hx hF hf hc ht hz
    simp only [pI, pL, pR, pV, i10, ↓reduceIte, eM_arrears_8]
    simp only [ilt, show (60 : Int32).toInt = 60 from rfl]
    rw [if_neg (by omega)]
    split
    next z =>
      subst z
      rcases hf with ⟨-, q⟩ | ⟨q, -⟩
      · have hl := canN_le (n := i) hO.2.2.1
        obtain ⟨o1, o2, o3, o4⟩ := pasN_ok hO hT (canN c i) (by omega)
        obtain ⟨s1, s2⟩ := canN_s hO hT i
        have hx1 : (x + 1).toInt = ((i + 1 : Nat) : Int) + 1 := by rw [t1 (by omega), hx]; omega
        refine sM_goOn o1 (MEg hF hE) hc o2 hz (by rw [ht]; omega) (fun y => ?_) (fun y σ2 hF2 hc2 hw hf ht2 hs hz2 => ?_)
        · simp only [pI, pL, pR, pV, i10, ↓reduceIte, eM_arrears_23, eM_arrears_43]
          refine hM_arrears_8 _ _ _ _ _ (ih (i + 1) σ (-1) (x + 1) (by omega) hx1 hF (Or.inl ⟨rfl, ?_⟩) ?_ ?_ hz)
          · rw [s1 y]; exact q
          · rw [s1 y]; exact hc
          · rw [s1 y]; exact ht
        · have e1 := (s2 (by omega)).1
          obtain ⟨hci, h60⟩ := canN_i hO hT y (by omega : i < 60)
          obtain ⟨r, hr⟩ : ∃ r, canN c 60 - canN c i = r + 1 := ⟨canN c 60 - canN c i - 1, by omega⟩
          have hr2 : canN c 60 - canN c (i + 1) = r := by omega
          rw [hr] at q
          have p1 := passF_ok o1 o2 y
          have eS : arrS E c (r + 1) (canN c i) = if (passF E (pasN E c (canN c i))).2.1 = -1 ∧ anyS (pasN E c (canN c i + 1)) (eN E) = true then ((canN c i + 1 : Nat) : Int) else arrS E c r (canN c i + 1) := rfl
          have hc3 : mc σ2 121 = pasN E c (canN c (i + 1)) := by rw [e1]; exact hc2
          have ht3 : rd σ2 120 28 = tkN E c (canN c (i + 1)) := by rw [e1, hs, ht]; rfl
          simp only [pI, pL, pR, pV, i10, ↓reduceIte, eM_arrears_23]
          have cw : (gI σ2 120 25 = -1) = ((passF E (pasN E c (canN c i))).2.1 = -1) := by rw [ieq, show (gI σ2 120 25).toInt = _ from hw]; rfl
          simp only [cw]
          split
          next y2 =>
            refine sM_any p1.1 (((hF.tr hF2).rd rfl).trans hE.1) hc2 (fun v hv => ?_)
            simp only [pI, pL, pR, pV, i10, ↓reduceIte, eM_arrears_38]
            have c0 : (v = 0) = (v.toInt = 0) := by rw [ieq]; rfl
            simp only [c0, hv]
            cases hb : anyS (passF E (pasN E c (canN c i))).1 (eN E) with
            | true =>
              try rw [if_neg (by decide)]
              simp only [pI, pL, pR, pV, i10, ↓reduceIte, eM_arrears_43]
              refine hM_arrears_8 _ _ _ _ _ (ih (i + 1) σ2 x (x + 1) (by omega) hx1 (hF.tr hF2) (Or.inr ⟨fun e => by rw [e] at hx; have : (-1 : Int32).toInt = -1 := rfl; omega, ?_⟩) hc3 ht3 hz2)
              rw [q, eS, if_pos ⟨y2, hb⟩, hx, hci]
              omega
            | false =>
              try rw [if_pos rfl]
              simp only [pI, pL, pR, pV, i10, ↓reduceIte, eM_arrears_43]
              refine hM_arrears_8 _ _ _ _ _ (ih (i + 1) σ2 (-1) (x + 1) (by omega) hx1 (hF.tr hF2) (Or.inl ⟨rfl, ?_⟩) hc3 ht3 hz2)
              rw [q, eS, if_neg (fun e => by have e2 : anyS (passF E (pasN E c (canN c i))).1 (eN E) = true := e.2; rw [hb] at e2; cases e2), hr2, e1]
          next y2 =>
            simp only [pI, pL, pR, pV, i10, ↓reduceIte, eM_arrears_43]
            refine hM_arrears_8 _ _ _ _ _ (ih (i + 1) σ2 (-1) (x + 1) (by omega) hx1 (hF.tr hF2) (Or.inl ⟨rfl, ?_⟩) hc3 ht3 hz2)
            rw [q, eS, if_neg (fun e => y2 e.1), hr2, e1]
      · exact absurd rfl q
    next z =>
      refine fin σ f x hF ?_
      rcases hf with ⟨q, -⟩ | ⟨-, q⟩
      · exact absurd q z
      · exact q
def qArr (E : En) (c : Co) (_ : Nat → Int) : Int := arrS E c (canN c 60) 0
theorem p_arrears : PairI Rel nX_arrears nM_arrears [] := by
  refine qryJ qArr (fun lws σ Φ hR h => ?_) (fun lws σ Φ hR h => ?_)
  · apply wX_arrears
    simp only [pI, pL, pR, pV, i10, ↓reduceIte, eX_arrears_0]
    apply wF_daysToArrears
    simp only [pI, pL, pR, pV, i10, ↓reduceIte, eF_daysToArrears_0]
    have hO := hR.ok
    have hT := hR.tk
    have hl := canN_le (n := 60) hO.2.2.1
    refine sF_canPass hR.rc hO.2.2.1 (by decide) (fun v hv => ?_)
    simp only [pI, pL, pR, pV, i10, ↓reduceIte, eF_daysToArrears_8]
    refine sF_keepNow (fun σ1 h1 h2 => ?_)
    simp only [pI, pL, pR, pV, i10, ↓reduceIte, eF_daysToArrears_13]
    have hv : v.toInt = canN (mc σ 121) 60 := hv
    refine lF_arr hO hT (keep_ce h1 hR.ce) (by rw [h1.rd rfl]; exact hR.w44) hv hl.1 hl.2 (fun σ2 σ3 r h3 hr h4 h5 => ?_) (canN (mc σ 121) 60) 0 σ1 (-1) 1 (by omega) rfl Fr.rf (Or.inl ⟨rfl, rfl⟩) ((keep_rc h1).trans hR.rc) (by omega)
    simp only [pI, pL, pR, pV, i10, ↓reduceIte, eX_arrears_7]
    exact h _ _ (back_fi h1 h2 h3 h4 h5 FDsub FD112) hr
  · apply wM_arrears
    simp only [pI, pL, pR, pV, i10, ↓reduceIte, eM_arrears_0]
    have hO := hR.ok
    have hT := hR.tk
    refine sM_setAside (fun σ1 h1 h2 hz h28 => ?_)
    simp only [pI, pL, pR, pV, i10, ↓reduceIte, eM_arrears_4]
    have c0 : canN (mc σ 121) 0 = 0 := by unfold canN; omega
    refine lM_arr (c := mc σ 121) hO hT (aside_me h1 hR.me) hz (fun σ2 σ3 v h3 hr h4 h5 h6 => h _ _ (put_fi hR.fl h1 h2 h3 h4 h5 h6 FMgsub FMg129) hr) 60 0 σ1 (-1) 1 (by omega) rfl Fr.rf (Or.inl ⟨rfl, by rw [c0]; rfl⟩) ?_ ?_ hz
    · simp only [c0]
      exact aside_mc h1
    · simp only [c0]
      exact h28
def brkS (E : En) (c : Co) (v : Nat) : Nat → Nat → Int
  | 0, _ => -1
  | n + 1, i => if pasN E c (i + 1) (30 + v) = 0 then ((i + 1 : Nat) : Int) else brkS E c v n (i + 1)
def brk (E : En) (c : Co) (v n : Nat) : Int := if c (30 + v) = 0 then 0 else brkS E c v n 0
theorem lF_brk {d : Nat} {Φ : Po} {E : En} {c : Co} {canI vI : Int32} {σ0 : Sg} {can : Nat} (hO : Ok E c) (hT : TkOk E c) (hE : CE σ0 E) (h44 : 0 ≤ rd σ0 2 44 ∧ rd σ0 2 44 ≤ 9999) (hcan : canI.toInt = can) (hcn : (can : Int) ≤ 9999 - c 42) (hc60 : can ≤ 60) (hv : 0 ≤ vI.toInt ∧ vI.toInt < eV E) {A : Int}
    (h : ∀ (σ2 σ3 : Sg) (v : Int32), Fr FD σ0 σ2 → v.toInt = A → Fr [(2, 0, 75)] σ2 σ3 → (∀ k, k < 75 → gI σ3 2 k = gI σ2 112 k) → Φ (some (.int v)) σ3) :
    ∀ (n i : Nat) (σ : Sg) (f x : Int32), i + n = can → x.toInt = i + 1 → Fr FD σ0 σ → (f = -1 ∧ A = brkS E c (ix vI) n i ∨ f ≠ -1 ∧ f.toInt = A) → rc σ 2 = pasN E c i → rd σ 2 44 = rd σ0 2 44 + i → bF_daysToBroke_35 true NOB (wp true (d + 6)) Φ (kF_daysToBroke (d + 6) Φ) [.ref 111, .int vI, .int f, .int canI, .int x] [] σ := by
  have fin : ∀ (σ : Sg) (f x : Int32), Fr FD σ0 σ → f.toInt = A → bF_daysToBroke_77 true NOB (wp true (d + 6)) Φ (kF_daysToBroke (d + 6) Φ) [.ref 111, .int vI, .int f, .int canI, .int x] [] σ := by
    intro σ f x hF hf
    simp only [pI, pL, pR, pV, i10, ↓reduceIte, eF_daysToBroke_77]
    refine sF_giveBack (fun σ3 h4 h5 => ?_)
    simp only [pI, pL, pR, pV, i10, ↓reduceIte, eF_daysToBroke_81]
    exact h σ σ3 f hF hf h4 h5
  have h6v := hO.2.1
  have epx : ix (30 + vI) = 30 + ix vI := ixk (n := 30) rfl (by omega)
  intro n
  induction n with
  | zero =>
    intro i σ f x hi hx hF hf hc hw
    simp only [pI, pL, pR, pV, i10, ↓reduceIte, eF_daysToBroke_35]
    simp only [ilt, hcan]
    rw [if_pos (by omega)]
    refine fin σ f x hF ?_
    rcases hf with ⟨rfl, q⟩ | ⟨-, q⟩
    · rw [q]; rfl
    · exact q
  | succ n ih =>
    intro i σ f x hi hx hF hf hc hw
    simp only [pI, pL, pR, pV, i10, ↓reduceIte, eF_daysToBroke_35]
    simp only [ilt, hcan]
    rw [if_neg (by omega)]
    split
    next z =>
      subst z
      rcases hf with ⟨-, q⟩ | ⟨q, -⟩
      · obtain ⟨o1, o2, o3, o4⟩ := pasN_ok hO hT i (by omega)
        have eS : brkS E c (ix vI) (n + 1) i = if pasN E c (i + 1) (30 + ix vI) = 0 then ((i + 1 : Nat) : Int) else brkS E c (ix vI) n (i + 1) := rfl
        have hx1 : (x + 1).toInt = ((i + 1 : Nat) : Int) + 1 := by rw [t1 (by omega), hx]; omega
        refine sD_pass o1 (CEd hF hE) hc o2 (by omega) (by rw [hw]; omega) (fun σ2 hF2 hc2 hw2 hf2 ht2 hP => ?_)
        simp only [pI, pL, pR, pV, i10, ↓reduceIte, eF_daysToBroke_53]
        have hW : rd σ2 2 44 = rd σ0 2 44 + (i + 1 : Nat) := by rw [hP.1, hw]; omega
        have ep : (gI σ2 2 (30 + ix vI)).toInt = pasN E c (i + 1) (30 + ix vI) := by
          show rd σ2 2 _ = (passF E (pasN E c i)).1 _
          rw [← hc2]; exact (rc_at (by unfold ix; omega)).symm
        have c0 : (gI σ2 2 (30 + ix vI) = 0) = (pasN E c (i + 1) (30 + ix vI) = 0) := by rw [ieq, ep]; rfl
        rw [epx]
        simp only [c0]
        refine ⟨inb_k (n := 30) rfl (by omega) (by omega), ?_⟩
        split
        next y =>
          simp only [pI, pL, pR, pV, i10, ↓reduceIte, eF_daysToBroke_71]
          refine hF_daysToBroke_35 _ _ _ _ _ (ih (i + 1) σ2 x (x + 1) (by omega) hx1 (hF.tr hF2) (Or.inr ⟨fun e => by rw [e] at hx; have : (-1 : Int32).toInt = -1 := rfl; omega, ?_⟩) hc2 hW)
          rw [q, eS, if_pos y, hx]
          omega
        next y =>
          simp only [pI, pL, pR, pV, i10, ↓reduceIte, eF_daysToBroke_71]
          refine hF_daysToBroke_35 _ _ _ _ _ (ih (i + 1) σ2 (-1) (x + 1) (by omega) hx1 (hF.tr hF2) (Or.inl ⟨rfl, ?_⟩) hc2 hW)
          rw [q, eS, if_neg y]
      · exact absurd rfl q
    next z =>
      refine fin σ f x hF ?_
      rcases hf with ⟨q, -⟩ | ⟨-, q⟩
      · exact absurd q z
      · exact q
theorem lM_brk {d : Nat} {Φ : Po} {E : En} {c : Co} {σ0 : Sg} {vI : Int32} (hO : Ok E c) (hT : TkOk E c) (hE : ME σ0 E) (hi0 : rd σ0 120 24 = 0) (hv : 0 ≤ vI.toInt ∧ vI.toInt < eV E) {A : Int}
    (h : ∀ (σ2 σ3 : Sg) (v : Int32), Fr FMg σ0 σ2 → v.toInt = A → Fr [(121, 8, 84), (120, 24, 25)] σ2 σ3 → (∀ k, 8 ≤ k → k < 84 → gI σ3 121 k = gI σ2 129 k) → gI σ3 120 24 = 1 → Φ (some (.int v)) σ3) :
    ∀ (n i : Nat) (σ : Sg) (f x : Int32), i + n = 60 → x.toInt = i + 1 → Fr FMg σ0 σ → (f = -1 ∧ A = brkS E c (ix vI) (canN c 60 - canN c i) (canN c i) ∨ f ≠ -1 ∧ f.toInt = A) → mc σ 121 = pasN E c (canN c i) → rd σ 120 28 = tkN E c (canN c i) → rd σ 120 24 = 0 → bM_broke_31 true NOB (wp true (d + 11)) Φ (kM_broke (d + 11) Φ) [.ref 120, .int vI, .int f, .int x] [] σ := by
  have fin : ∀ (σ : Sg) (f x : Int32), Fr FMg σ0 σ → f.toInt = A → bM_broke_66 true NOB (wp true (d + 11)) Φ (kM_broke (d + 11) Φ) [.ref 120, .int vI, .int f, .int x] [] σ := by
    intro σ f x hF hf
    simp only [pI, pL, pR, pV, i10, ↓reduceIte, eM_broke_66]
    refine sM_putBack (fun σ3 h4 h5 h6 => ?_)
    simp only [pI, pL, pR, pV, i10, ↓reduceIte, eM_broke_70]
    exact h σ σ3 f hF hf h4 h5 h6
  have h6v := hO.2.1
  have v6 : 0 ≤ vI.toInt ∧ vI.toInt < 6 := by omega
  intro n
  induction n with
  | zero =>
    intro i σ f x hi hx hF hf hc ht hz
    simp only [pI, pL, pR, pV, i10, ↓reduceIte, eM_broke_31]
    simp only [ilt, show (60 : Int32).toInt = 60 from rfl]
    rw [if_pos (by omega)]
    refine fin σ f x hF ?_
    rcases hf with ⟨rfl, q⟩ | ⟨-, q⟩
    · rw [q, show i = 60 from by omega, Nat.sub_self]; rfl
    · exact q
  | succ n ih =>
    intro i σ f x hi hx hF hf hc ht hz
    simp only [pI, pL, pR, pV, i10, ↓reduceIte, eM_broke_31]
    simp only [ilt, show (60 : Int32).toInt = 60 from rfl]
    rw [if_neg (by omega)]
    split
    next z =>
      subst z
      rcases hf with ⟨-, q⟩ | ⟨q, -⟩
      · have hl := canN_le (n := i) hO.2.2.1
        obtain ⟨o1, o2, o3, o4⟩ := pasN_ok hO hT (canN c i) (by omega)
        obtain ⟨s1, s2⟩ := canN_s hO hT i
        have hx1 : (x + 1).toInt = ((i + 1 : Nat) : Int) + 1 := by rw [t1 (by omega), hx]; omega
        refine sM_goOn o1 (MEg hF hE) hc o2 hz (by rw [ht]; omega) (fun y => ?_) (fun y σ2 hF2 hc2 hw hf ht2 hs hz2 => ?_)
        · simp only [pI, pL, pR, pV, i10, ↓reduceIte, eM_broke_46, eM_broke_60]
          refine hM_broke_31 _ _ _ _ _ (ih (i + 1) σ (-1) (x + 1) (by omega) hx1 hF (Or.inl ⟨rfl, ?_⟩) ?_ ?_ hz)
          · rw [s1 y]; exact q
          · rw [s1 y]; exact hc
          · rw [s1 y]; exact ht
        · have e1 := (s2 (by omega)).1
          obtain ⟨hci, h60⟩ := canN_i hO hT y (by omega : i < 60)
          obtain ⟨r, hr⟩ : ∃ r, canN c 60 - canN c i = r + 1 := ⟨canN c 60 - canN c i - 1, by omega⟩
          have hr2 : canN c 60 - canN c (i + 1) = r := by omega
          rw [hr] at q
          have eS : brkS E c (ix vI) (r + 1) (canN c i) = if pasN E c (canN c i + 1) (30 + ix vI) = 0 then ((canN c i + 1 : Nat) : Int) else brkS E c (ix vI) r (canN c i + 1) := rfl
          have hc3 : mc σ2 121 = pasN E c (canN c (i + 1)) := by rw [e1]; exact hc2
          have ht3 : rd σ2 120 28 = tkN E c (canN c (i + 1)) := by rw [e1, hs, ht]; rfl
          simp only [pI, pL, pR, pV, i10, ↓reduceIte, eM_broke_46]
          refine sM_ofP v6 (fun p hp => ?_)
          simp only [pI, pL, pR, pV, i10, ↓reduceIte, eM_broke_55]
          have c0 : (p = 0) = (pasN E c (canN c i + 1) (30 + ix vI) = 0) := by rw [ieq, hp, hc3, e1]; rfl
          simp only [c0]
          split
          next y2 =>
            simp only [pI, pL, pR, pV, i10, ↓reduceIte, eM_broke_60]
            refine hM_broke_31 _ _ _ _ _ (ih (i + 1) σ2 x (x + 1) (by omega) hx1 (hF.tr hF2) (Or.inr ⟨fun e => by rw [e] at hx; have : (-1 : Int32).toInt = -1 := rfl; omega, ?_⟩) hc3 ht3 hz2)
            rw [q, eS, if_pos y2, hx, hci]
            omega
          next y2 =>
            simp only [pI, pL, pR, pV, i10, ↓reduceIte, eM_broke_60]
            refine hM_broke_31 _ _ _ _ _ (ih (i + 1) σ2 (-1) (x + 1) (by omega) hx1 (hF.tr hF2) (Or.inl ⟨rfl, ?_⟩) hc3 ht3 hz2)
            rw [q, eS, if_neg y2, hr2, e1]
      · exact absurd rfl q
    next z =>
      refine fin σ f x hF ?_
      rcases hf with ⟨q, -⟩ | ⟨-, q⟩
      · exact absurd q z
      · exact q
def qBrk (v : Int32) (E : En) (c : Co) (_ : Nat → Int) : Int := if 0 ≤ v.toInt ∧ v.toInt < eV E then brk E c (ix v) (canN c 60) else -1
theorem p_broke (w : Int32) : PairI Rel nX_broke nM_broke [.int w] := by
  refine qryJ (qBrk w) (fun lws σ Φ hR h => ?_) (fun lws σ Φ hR h => ?_)
  · apply wX_broke
    simp only [pI, pL, pR, pV, i10, ↓reduceIte, eX_broke_0]
    have hO := hR.ok
    have hT := hR.tk
    have hn := hO.2.1
    obtain ⟨-, e6, -, -, -, -⟩ := hR.n
    unfold qBrk at h
    refine sW_isVillage (fun q => ?_) (fun q => ?_)
    · rw [e6] at q
      rw [if_pos q] at h
      simp only [pI, pL, pR, pV, i10, ↓reduceIte, eX_broke_8]
      apply wF_daysToBroke
      simp only [pI, pL, pR, pV, i10, ↓reduceIte, eF_daysToBroke_0, eF_daysToBroke_19]
      have epx : ix (30 + w) = 30 + ix w := ixk (n := 30) rfl (by omega)
      have ep : (gI σ 2 (30 + ix w)).toInt = mc σ 121 (30 + ix w) := by rw [← hR.rc]; exact (rc_at (by unfold ix; omega)).symm
      have c0 : (gI σ 2 (30 + ix w) = 0) = (mc σ 121 (30 + ix w) = 0) := by rw [ieq, ep]; rfl
      rw [epx]
      simp only [c0]
      refine ⟨inb_k (n := 30) rfl (by omega) (by omega), ?_⟩
      have hl := canN_le (n := 60) hO.2.2.1
      have go : ∀ f : Int32, (f = -1 ∧ brk (EE lws σ) (mc σ 121) (ix w) (canN (mc σ 121) 60) = brkS (EE lws σ) (mc σ 121) (ix w) (canN (mc σ 121) 60) 0 ∨ f ≠ -1 ∧ f.toInt = brk (EE lws σ) (mc σ 121) (ix w) (canN (mc σ 121) 60)) → bF_daysToBroke_20 true NOB (wp true 11) (pI (bX_broke_19 true NOB (wp true 12) Φ (kX_broke 12 Φ)) [.ref 0, .int w] []) (kF_daysToBroke 11 (pI (bX_broke_19 true NOB (wp true 12) Φ (kX_broke 12 Φ)) [.ref 0, .int w] [])) [.ref 111, .int w, .retAddr 0, .retAddr 0, .retAddr 0] [.int f] σ := by
        intro f hf
        simp only [pI, pL, pR, pV, i10, ↓reduceIte, eF_daysToBroke_20]
        refine sF_canPass hR.rc hO.2.2.1 (by decide) (fun v hv => ?_)
        simp only [pI, pL, pR, pV, i10, ↓reduceIte, eF_daysToBroke_27]
        refine sF_keepNow (fun σ1 h1 h2 => ?_)
        simp only [pI, pL, pR, pV, i10, ↓reduceIte, eF_daysToBroke_32]
        have hv : v.toInt = canN (mc σ 121) 60 := hv
        refine lF_brk hO hT (keep_ce h1 hR.ce) (by rw [h1.rd rfl]; exact hR.w44) hv hl.1 hl.2 q (fun σ2 σ3 r h3 hr h4 h5 => ?_) (canN (mc σ 121) 60) 0 σ1 f 1 (by omega) rfl Fr.rf hf ((keep_rc h1).trans hR.rc) (by omega)
        simp only [pI, pL, pR, pV, i10, ↓reduceIte, eX_broke_19, eX_broke_23]
        exact h _ _ (back_fi h1 h2 h3 h4 h5 FDsub FD112) hr
      split
      next z => exact go 0 (Or.inr ⟨by decide, by unfold brk; rw [if_pos z]; rfl⟩)
      next z => exact go (-1) (Or.inl ⟨rfl, by unfold brk; rw [if_neg z]⟩)
    · rw [e6] at q
      simp only [pI, pL, pR, pV, i10, ↓reduceIte, eX_broke_8, eX_broke_22, eX_broke_23]
      exact h _ _ Fr.rf.fi (by rw [if_neg q]; rfl)
  · apply wM_broke
    simp only [pI, pL, pR, pV, i10, ↓reduceIte, eM_broke_0]
    have hO := hR.ok
    have hT := hR.tk
    have hn := hO.2.1
    obtain ⟨-, -, -, e1, -, b1⟩ := hR.n
    unfold qBrk at h
    refine sM_isVillage b1 (fun q => ?_) (fun q => ?_)
    · rw [e1] at q
      rw [if_pos q] at h
      simp only [pI, pL, pR, pV, i10, ↓reduceIte, eM_broke_5, eM_broke_10]
      refine sM_setAside (fun σ1 h1 h2 hz h28 => ?_)
      simp only [pI, pL, pR, pV, i10, ↓reduceIte, eM_broke_14]
      refine sM_ofP (by omega) (fun p hp => ?_)
      simp only [pI, pL, pR, pV, i10, ↓reduceIte, eM_broke_20, eM_broke_27]
      have c0 : (p = 0) = (mc σ 121 (30 + ix w) = 0) := by rw [ieq, hp, aside_mc h1]; rfl
      simp only [c0]
      have cc : canN (mc σ 121) 0 = 0 := by unfold canN; omega
      have go : ∀ f : Int32, (f = -1 ∧ brk (EE lws σ) (mc σ 121) (ix w) (canN (mc σ 121) 60) = brkS (EE lws σ) (mc σ 121) (ix w) (canN (mc σ 121) 60) 0 ∨ f ≠ -1 ∧ f.toInt = brk (EE lws σ) (mc σ 121) (ix w) (canN (mc σ 121) 60)) → bM_broke_28 true NOB (wp true 12) Φ (kM_broke 12 Φ) [.ref 120, .int w, .retAddr 0, .retAddr 0] [.int f] σ1 := by
        intro f hf
        simp only [pI, pL, pR, pV, i10, ↓reduceIte, eM_broke_28]
        refine lM_brk (d := 1) (c := mc σ 121) hO hT (aside_me h1 hR.me) hz q (fun σ2 σ3 v h3 hr h4 h5 h6 => h _ _ (put_fi hR.fl h1 h2 h3 h4 h5 h6 FMgsub FMg129) hr) 60 0 σ1 f 1 (by omega) rfl Fr.rf (by rw [cc]; exact hf) ?_ ?_ hz
        · rw [cc]
          exact aside_mc h1
        · rw [cc]
          exact h28
      split
      next z => exact go 0 (Or.inr ⟨by decide, by unfold brk; rw [if_pos z]; rfl⟩)
      next z => exact go (-1) (Or.inl ⟨rfl, by unfold brk; rw [if_neg z]⟩)
    · rw [e1] at q
      simp only [pI, pL, pR, pV, i10, ↓reduceIte, eM_broke_5]
      exact h _ _ Fr.rf.fi (by rw [if_neg q]; rfl)
