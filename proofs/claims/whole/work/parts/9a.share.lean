/-! SHARES: the pair -/
theorem memK_s {s k : Nat} : memK s (k + 1) = if s.testBit k = true then memK s k ++ [k] else memK s k := by
  unfold memK
  rw [List.range_succ, List.filter_append]
  by_cases b : s.testBit k = true
  · rw [if_pos b, List.filter_cons_of_pos b, List.filter_nil]
  · rw [if_neg b, List.filter_cons_of_neg b, List.filter_nil, List.append_nil]
def chM (s : Nat) : Bool := decide ((memK s 6).length = pc s) && (((memK s 6).all (fun u => s.testBit u && decide (u < 6))) && (List.range 6).all (fun k => !(s.testBit k) || (decide (5 < pc s) || decide ((memK s k).length < 5))))
theorem chM_all : ((List.range 64).all chM) = true := by decide +kernel
theorem chM_ok {s : Nat} (hs : s < 64) : (memK s 6).length = pc s ∧ (∀ u, u ∈ memK s 6 → s.testBit u = true ∧ u < 6) ∧ (∀ k, k < 6 → s.testBit k = true → pc s ≤ 5 → (memK s k).length < 5) := by
  have h := List.all_eq_true.mp chM_all s (List.mem_range.mpr hs)
  unfold chM at h
  rw [Bool.and_eq_true, Bool.and_eq_true] at h
  obtain ⟨h1, h2, h3⟩ := h
  refine ⟨of_decide_eq_true h1, fun u hu => ?_, fun k hk hb h5 => ?_⟩
  · have := List.all_eq_true.mp h2 u hu
    rw [Bool.and_eq_true] at this
    exact ⟨this.1, of_decide_eq_true this.2⟩
  · have := List.all_eq_true.mp h3 k (List.mem_range.mpr hk)
    rw [hb, decide_eq_false (by omega : ¬ 5 < pc s), Bool.not_true, Bool.false_or, Bool.false_or] at this
    exact of_decide_eq_true this
theorem memV : ∀ V, V < 7 → ∀ s, s < 64 → s < 2 ^ V → memK s V = memK s 6 := by decide +kernel
def btV (s : Int32) : Nat → Int32
  | 0 => 0
  | k + 1 => btV s k + ((s >>> (Int32.ofNat k &&& 31)) &&& 1)
theorem btK : ∀ s, s < 64 → decide (btV (Int32.ofNat s) 10 = Int32.ofNat (pc s)) = true := by decide +kernel
theorem sM_bits {d : Nat} {Φ : Po} {x0 : Int32} {s : Nat} {σ : Sg} (hx : x0.toInt = s) (hs : s < 64) (h : ∀ v : Int32, v.toInt = pc s → Φ (some (.int v)) σ) : wp true (d + 1) nM_bits [.int x0] σ Φ := by
  have k10 : (10 : Int32).toInt = 10 := rfl
  have ex : x0 = Int32.ofNat s := ofN hx (by omega)
  have hp := pc_b (a := s)
  have lp : ∀ (n k : Nat) (x1 x2 : Int32), k + n = 10 → x2.toInt = k → x1 = btV x0 k → bM_bits_4 true NOB (wp true d) Φ (kM_bits d Φ) [.int x0, .int x1, .int x2] [] σ := by
    intro n
    induction n with
    | zero =>
      intro k x1 x2 hk h2 h1
      simp only [pI, pL, pR, pV, i10, ↓reduceIte, eM_bits_4]
      simp only [ile, h2, k10]
      rw [if_pos (by omega)]
      simp only [pI, pL, pR, pV, i10, ↓reduceIte, eM_bits_24]
      obtain rfl : k = 10 := by omega
      refine h _ ?_
      rw [h1, ex, of_decide_eq_true (btK s hs)]
      exact toInt_of rfl (by omega)
    | succ n ih =>
      intro k x1 x2 hk h2 h1
      have h21 : (x2 + 1).toInt = ((k + 1 : Nat) : Int) := by rw [tq1 x2 (by omega), h2]; omega
      have e2 : x2 = Int32.ofNat k := ofN h2 (by omega)
      simp only [pI, pL, pR, pV, i10, ↓reduceIte, eM_bits_4]
      simp only [ile, h2, k10]
      rw [if_neg (by omega)]
      exact hM_bits_4 _ _ _ _ _ (ih (k + 1) _ _ (by omega) h21 (by rw [h1, e2]; rfl))
  apply wM_bits
  simp only [pI, pL, pR, pV, i10, ↓reduceIte, eM_bits_0]
  exact lp 10 0 0 0 rfl rfl rfl
abbrev FSm : Ls := FML ++ [(130, 0, 6), (131, 0, 6), (132, 0, 5)]
theorem FSmm {σ σ' : Sg} (h : Fr FSm σ σ') : Fr MS σ σ' := by
  have g : ∀ e, e ∈ FSm → e ∈ MS := by decide
  exact h.mo g
/-- the villages up to k, as the reference has laid them -/
def LayS (T : Nat → Int) (s k : Nat) (σ : Sg) : Prop := (∀ i, i < (memK s k).length → (gI σ 131 i).toInt = ((memK s k).getD i 0 : Nat) ∧ (gI σ 132 i).toInt = i) ∧ (∀ u, u < k → s.testBit u = true → (gI σ 130 u).toInt = T u)
theorem sM_orders {d : Nat} {Φ : Po} {T : Nat → Int} {s v : Nat} {x1 x2 x3 x4 x5 x6 x70 : Int32} {σ0 : Sg} (hT : ∀ k, 0 ≤ T k ∧ T k ≤ 99) (h3 : x3.toInt = s) (hs : s < 64) (h4 : x4.toInt = v) (hv : v < 6) (hb : s.testBit v = true) (h5 : pc s ≤ 5) (h6 : x6.toInt = pc s) (hM : MemIs T (memK s 6) σ0) (hr0 : RowIs (List.range (pc s)) σ0) (h : ∀ (σ' : Sg) (x7 x8 x9 : Int32), Fr [(132, 0, 5)] σ0 σ' → x7.toInt = shA T s v 64 → x8.toInt = ordN (pc s) → bM_share_176 true NOB (wp true (d + 2)) Φ (kM_share (d + 2) Φ) [.ref 120, .int x1, .int x2, .int x3, .int x4, .int x5, .int x6, .int x7, .int x8, .int x9] [] σ') : bM_share_135 true NOB (wp true (d + 2)) Φ (kM_share (d + 2) Φ) [.ref 120, .int x1, .int x2, .int x3, .int x4, .int x5, .int x6, .int x70, .retAddr 0, .retAddr 0] [] σ0 := by
  obtain ⟨c1, c2, c3, c4, c5, c6⟩ := chS_ok hs hv hb h5
  obtain ⟨m1, m2, m3⟩ := chM_ok hs
  obtain ⟨t1', t2'⟩ := permT_ok (pc s) (by omega) c1
  have hsum := shA_sum (T := T) hs hv hb h5
  have hgb : ∀ a, gA T v a ≤ 99 := fun a => by
    have h1 := hT v
    have h2 := mst_r (a := a) hT 6
    unfold gA
    omega
  have hord : ordN (pc s) ≤ 120 := by
    have : pc s = 1 ∨ pc s = 2 ∨ pc s = 3 ∨ pc s = 4 ∨ pc s = 5 := by omega
    rcases this with e | e | e | e | e <;> rw [e] <;> decide
  have lp : ∀ (rest : List (List Nat)) (l : List Nat) (σ' : Sg) (x7 x8 : Int32) (K j : Nat), chP (pc s) (l :: rest) = true → (∀ q, q ∈ l :: rest → q ∈ permT (pc s)) → RowIs l σ' → Fr [(132, 0, 5)] σ0 σ' → x7.toInt = K → x8.toInt = j → K ≤ 99 * j → K + sumL (gA T v) ((l :: rest).map (amask (memK s 6) v)) = shA T s v 64 → j + (l :: rest).length = ordN (pc s) → bM_share_144 true NOB (wp true (d + 2)) Φ (kM_share (d + 2) Φ) [.ref 120, .int x1, .int x2, .int x3, .int x4, .int x5, .int x6, .int x7, .int x8, .int 1] [] σ' := by
    have step : ∀ (l : List Nat) (σ' : Sg) (x7 x8 : Int32) (K j : Nat), l ∈ permT (pc s) → l.length = pc s → (∀ r, r ∈ l → r < pc s) → RowIs l σ' → Fr [(132, 0, 5)] σ0 σ' → x7.toInt = K → x8.toInt = j → K ≤ 99 * j → j < 120 → (nextP l = none → ∀ y7 y8 : Int32, y7.toInt = (K + gA T v (amask (memK s 6) v l) : Nat) → y8.toInt = (j + 1 : Nat) → bM_share_176 true NOB (wp true (d + 2)) Φ (kM_share (d + 2) Φ) [.ref 120, .int x1, .int x2, .int x3, .int x4, .int x5, .int x6, .int y7, .int y8, .int 0] [] σ') → (∀ (l' : List Nat) (σ2 : Sg), nextP l = some l' → Fr [(132, 0, 5)] σ' σ2 → RowIs l' σ2 → ∀ y7 y8 : Int32, y7.toInt = (K + gA T v (amask (memK s 6) v l) : Nat) → y8.toInt = (j + 1 : Nat) → bM_share_144 true NOB (wp true (d + 2)) Φ (kM_share (d + 2) Φ) [.ref 120, .int x1, .int x2, .int x3, .int x4, .int x5, .int x6, .int y7, .int y8, .int 1] [] σ2) → bM_share_144 true NOB (wp true (d + 2)) Φ (kM_share (d + 2) Φ) [.ref 120, .int x1, .int x2, .int x3, .int x4, .int x5, .int x6, .int x7, .int x8, .int 1] [] σ' := by
      intro l σ' x7 x8 K j hlm hll hlr hr hF h7 h8 hK hj k0 k1
      have hM' : MemIs T (memK s 6) σ' := fun r hrm => by
        obtain ⟨a1, a2, a3⟩ := hM r hrm
        have no : ∀ x k, x ≠ 132 → inS [(132, 0, 5)] x k = false := fun x k hx => not_inS (fun e he z => by
          rw [List.mem_singleton] at he
          subst he
          exact hx z.1.symm)
        exact ⟨by rw [hF.1 _ _ (no 131 r (by omega))]; exact a1, a2, by rw [hF.1 _ _ (no 130 _ (by omega))]; exact a3⟩
      have hga := hgb (amask (memK s 6) v l)
      simp only [pI, pL, pR, pV, i10, ↓reduceIte, eM_share_144]
      refine sM_added hT h4 (by rw [h6, hll]) (by omega) (by omega) hr hM' (fun r hrl => by rw [m1]; exact hlr r hrl) (c5 l hlm) (fun r hg => ?_)
      have y7 : (x7 + r).toInt = (K + gA T v (amask (memK s 6) v l) : Nat) := by rw [tP (by rw [h7, hg]; omega), h7, hg]; omega
      have y8 : (x8 + 1).toInt = (j + 1 : Nat) := by rw [tq1 x8 (by omega), h8]; omega
      simp only [pI, pL, pR, pV, i10, ↓reduceIte, eM_share_159]
      refine sM_nextRow c1 h5 hll h6 hr (fun q => ?_) (fun l' σ2 q hF2 hr2 => ?_)
      · simp only [pI, pL, pR, pV, i10, ↓reduceIte, eM_share_171]
        refine hM_share_144 _ _ _ _ _ ?_
        simp only [pI, pL, pR, pV, i10, ↓reduceIte, eM_share_144]
        exact k0 q _ _ y7 y8
      · simp only [pI, pL, pR, pV, i10, ↓reduceIte, eM_share_171]
        exact hM_share_144 _ _ _ _ _ (k1 l' σ2 q hF2 hr2 _ _ y7 y8)
    intro rest
    induction rest with
    | nil =>
      intro l σ' x7 x8 K j hc hq hr hF h7 h8 hK hS hO
      have hc : (l.length == pc s && (l.all (fun r => decide (r < pc s)) && (nextP l == none))) = true := hc
      rw [Bool.and_eq_true, Bool.and_eq_true] at hc
      obtain ⟨e1, e2, e3⟩ := hc
      have hO : j + 1 = ordN (pc s) := hO
      have hS : K + (gA T v (amask (memK s 6) v l) + 0) = shA T s v 64 := hS
      refine step l σ' x7 x8 K j (hq l List.mem_cons_self) (eq_of_beq e1) (fun r hrl => of_decide_eq_true (List.all_eq_true.mp e2 r hrl)) hr hF h7 h8 hK (by omega) (fun _ y7 y8 g7 g8 => ?_) (fun l' σ2 q => ?_)
      · exact h σ' y7 y8 0 hF (by rw [g7, ← hS]; rfl) (by rw [g8, hO])
      · rw [eq_of_beq e3] at q
        cases q
    | cons m rest ih =>
      intro l σ' x7 x8 K j hc hq hr hF h7 h8 hK hS hO
      have hc : (l.length == pc s && (l.all (fun r => decide (r < pc s)) && (nextP l == some m && chP (pc s) (m :: rest)))) = true := hc
      rw [Bool.and_eq_true, Bool.and_eq_true, Bool.and_eq_true] at hc
      obtain ⟨e1, e2, e3, e4⟩ := hc
      have hO : j + ((m :: rest).length + 1) = ordN (pc s) := hO
      have hS : K + (gA T v (amask (memK s 6) v l) + sumL (gA T v) ((m :: rest).map (amask (memK s 6) v))) = shA T s v 64 := hS
      have hga := hgb (amask (memK s 6) v l)
      refine step l σ' x7 x8 K j (hq l List.mem_cons_self) (eq_of_beq e1) (fun r hrl => of_decide_eq_true (List.all_eq_true.mp e2 r hrl)) hr hF h7 h8 hK (by omega) (fun q => ?_) (fun l' σ2 q hF2 hr2 y7 y8 g7 g8 => ?_)
      · rw [eq_of_beq e3] at q
        cases q
      · rw [eq_of_beq e3] at q
        injection q with q
        subst q
        exact ih m σ2 y7 y8 _ (j + 1) e4 (fun z hz => hq z (List.mem_cons_of_mem _ hz)) hr2 (hF.tr hF2) g7 g8 (by omega) (by omega) (by omega)
  simp only [pI, pL, pR, pV, i10, ↓reduceIte, eM_share_135]
  cases hp : permT (pc s) with
  | nil =>
    rw [hp] at t2'
    cases t2'
  | cons l rest =>
    rw [hp] at t1' t2'
    injection t2' with t2'
    refine lp rest l σ0 0 0 0 0 t1' (fun q hq => by rw [hp]; exact hq) (by rw [t2']; exact hr0) Fr.rf rfl rfl (Nat.zero_le _) ?_ ?_
    · rw [Nat.zero_add, hsum]
      unfold masks
      rw [hp]
    · rw [Nat.zero_add, ← hp, ← c2]
      unfold masks
      rw [List.length_map]
def qShare (w f s v l : Int32) (E : En) (c : Co) (_ : Nat → Int) : Int := if ((0 ≤ w.toInt ∧ w.toInt < eN E) ∧ (1 ≤ f.toInt ∧ f.toInt ≤ 9) ∧ (0 ≤ v.toInt ∧ v.toInt < eV E)) ∧ ((0 < s.toInt ∧ s.toInt < (2 ^ eV E : Nat)) ∧ pc (ix s) ≤ 5 ∧ (ix s).testBit (ix v) = true) then ((if l = 0 then shA (fun k => takesF E c (ix w) k f.toInt) (ix s) (ix v) 64 / Nat.gcd (ordN (pc (ix s))) (shA (fun k => takesF E c (ix w) k f.toInt) (ix s) (ix v) 64) else ordN (pc (ix s)) / Nat.gcd (ordN (pc (ix s))) (shA (fun k => takesF E c (ix w) k f.toInt) (ix s) (ix v) 64) : Nat) : Int) else -1
theorem shA_small {T : Nat → Int} {s v : Nat} (hT : ∀ k, 0 ≤ T k ∧ T k ≤ 99) (hs : s < 64) (hv : v < 6) (hb : s.testBit v = true) (h5 : pc s ≤ 5) : shA T s v 64 ≤ 72000 := by
  rw [shA_sum hs hv hb h5]
  have h := sumL_b (g := gA T v) (b := 99) (fun a => by
    have h1 := hT v
    have h2 := mst_r (a := a) hT 6
    unfold gA
    omega) (masks s v)
  rw [(chS_ok hs hv hb h5).2.1] at h
  have := ordB (pc s)
  omega
theorem pow64 {V : Nat} (h : V ≤ 6) : 2 ^ V ≤ 64 := Nat.le_trans (Nat.pow_le_pow_right (by omega) h) (by decide)
theorem p_share (w f s v l : Int32) : PairI Rel nX_share nM_share [.int w, .int f, .int s, .int v, .int l] := by
  have k9 : (9 : Int32).toInt = 9 := rfl
  have k5 : (5 : Int32).toInt = 5 := rfl
  refine qryI (qShare w f s v l) (fun lws σ Φ hR h => ?_) (fun lws σ Φ hR h => ?_)
  · apply wX_share
    simp only [pI, pL, pR, pV, i10, ↓reduceIte, eX_share_0]
    have g0 := Wd.i hR
    unfold qShare at h
    generalize EE lws σ = E at h g0
    generalize mc σ 121 = c at h g0
    generalize rd σ 121 = a at h g0
    have n1 : rd σ 1 4 = eN E := g0.nv.1
    have n2 : rd σ 1 6 = eV E := g0.nv.2.1
    have n6 := g0.nv.2.2.2.2.2.2.2
    have hT : ∀ k, 0 ≤ (fun k => takesF E c (ix w) k f.toInt) k ∧ (fun k => takesF E c (ix w) k f.toInt) k ≤ 99 := fun k => takes_r
    generalize hTT : (fun k => takesF E c (ix w) k f.toInt) = T at h hT
    have no1 : ¬ ((0 ≤ w.toInt ∧ w.toInt < eN E) ∧ (1 ≤ f.toInt ∧ f.toInt ≤ 9) ∧ (0 ≤ v.toInt ∧ v.toInt < eV E)) → bX_share_30 true NOB (wp true 12) Φ (kX_share 12 Φ) [.ref 0, .int w, .int f, .int s, .int v, .int l, .retAddr 0] [] σ := fun q => by
      rw [if_neg (fun z => q z.1)] at h
      simp only [pI, pL, pR, pV, i10, ↓reduceIte, eX_share_30]
      exact h _ _ Fr.rf rfl
    have no2 : ¬ ((0 < s.toInt ∧ s.toInt < (2 ^ eV E : Nat)) ∧ pc (ix s) ≤ 5 ∧ (ix s).testBit (ix v) = true) → ∀ x6 : Int32, bX_share_78 true NOB (wp true 12) Φ (kX_share 12 Φ) [.ref 0, .int w, .int f, .int s, .int v, .int l, .int x6] [] σ := fun q x6 => by
      rw [if_neg (fun z => q z.2)] at h
      simp only [pI, pL, pR, pV, i10, ↓reduceIte, eX_share_78]
      exact h _ _ Fr.rf rfl
    refine sW_isWind (fun q => ?_) (fun q => ?_)
    · rw [n1] at q
      simp only [pI, pL, pR, pV, i10, ↓reduceIte, eX_share_8]
      refine sX_isForce (fun q1 => ?_) (fun q1 => ?_)
      · simp only [pI, pL, pR, pV, i10, ↓reduceIte, eX_share_15]
        refine sW_isVillage (fun q2 => ?_) (fun q2 => ?_)
        · rw [n2] at q2
          have hvx := ix_to q2.1
          have hp := pow64 n6
          have ep : ((1 : Int32) <<< (gI σ 1 6 &&& 31)).toInt = (2 ^ eV E : Nat) := pow2N g0.nv.2.1 n6
          simp only [pI, pL, pR, pV, i10, ↓reduceIte, eX_share_27, eX_share_32]
          simp only [ile, ep, tl0]
          by_cases y : 0 < s.toInt ∧ s.toInt < (2 ^ eV E : Nat)
          · have hsx := ix_to (x := s) (by omega)
            have hs64 : ix s < 64 := by omega
            have hvi : ix v < 6 := by omega
            have cb := bitI0 hsx.symm hs64 hvx.symm hvi
            have hbc := bcI hsx.symm hs64
            rw [if_neg (by omega), if_neg (by omega)]
            simp only [pI, pL, pR, pV, i10, ↓reduceIte, eX_share_54]
            refine sJ_bits ?_
            simp only [pI, pL, pR, pV, i10, ↓reduceIte, eX_share_65]
            simp only [ilt, k5, hbc, cb]
            split
            next z => exact no2 (fun x => by omega) _
            next z =>
              split
              next u =>
                refine no2 (fun x => ?_) _
                rw [u] at x
                exact absurd x.2.2 (by decide)
              next u =>
                have hb : (ix s).testBit (ix v) = true := by
                  cases e : (ix s).testBit (ix v)
                  · exact absurd e u
                  · rfl
                rw [if_pos ⟨⟨q, q1, q2⟩, y, by omega, hb⟩] at h
                simp only [pI, pL, pR, pV, i10, ↓reduceIte, eX_share_80]
                refine sZ_findTakes g0 q q1 (fun σ1 hF1 hk => ?_)
                simp only [pI, pL, pR, pV, i10, ↓reduceIte, eX_share_89]
                have hM : ∀ k, k < 6 → (ix s).testBit k = true → (gI σ1 116 k).toInt = T k := fun k hk6 hbk => by
                  rw [← hTT]
                  refine hk k ?_
                  apply Classical.byContradiction
                  intro z2
                  have := bitHi (eV E) (by omega) (ix s) hs64 (by omega) k hk6 (by omega)
                  rw [this] at hbk
                  cases hbk
                refine sQ_setShare (d := 9) hT hsx.symm hs64 hvx.symm hvi hb (by omega) hM (fun σ2 hF2 e0 e1 => ?_)
                have hFx : Fr XS σ σ2 := (FShx hF1).tr (hF2.mo (by decide))
                have hsm := shA_small hT hs64 hvi hb (by omega)
                have hob := ordB (pc (ix s))
                simp only [pI, pL, pR, pV, i10, ↓reduceIte, eX_share_106]
                split
                next t =>
                  rw [if_pos t] at h
                  simp only [pI, pL, pR, pV, i10, ↓reduceIte, eX_share_121, eX_share_128]
                  have hd := Nat.div_le_self (shA T (ix s) (ix v) 64) (Nat.gcd (ordN (pc (ix s))) (shA T (ix s) (ix v) 64))
                  generalize shA T (ix s) (ix v) 64 / Nat.gcd (ordN (pc (ix s))) (shA T (ix s) (ix v) 64) = Z at *
                  exact h _ _ hFx (by rw [j32 (by rw [e0]; omega), e0])
                next t =>
                  rw [if_neg t] at h
                  simp only [pI, pL, pR, pV, i10, ↓reduceIte, eX_share_128]
                  have hd := Nat.div_le_self (ordN (pc (ix s))) (Nat.gcd (ordN (pc (ix s))) (shA T (ix s) (ix v) 64))
                  generalize ordN (pc (ix s)) / Nat.gcd (ordN (pc (ix s))) (shA T (ix s) (ix v) 64) = Z at *
                  exact h _ _ hFx (by rw [j32 (by rw [e1]; omega), e1])
          · have no3 := no2 (fun z => y z.1) 0
            by_cases y1 : s.toInt ≤ 0
            · rw [if_pos y1]
              simp only [pI, pL, pR, pV, i10, ↓reduceIte, eX_share_53, eX_share_54]
              exact no3
            · rw [if_neg y1, if_pos (by omega)]
              simp only [pI, pL, pR, pV, i10, ↓reduceIte, eX_share_53, eX_share_54]
              exact no3
        · rw [n2] at q2
          simp only [pI, pL, pR, pV, i10, ↓reduceIte, eX_share_27]
          exact no1 (fun z => q2 z.2.2)
      · simp only [pI, pL, pR, pV, i10, ↓reduceIte, eX_share_15]
        exact no1 (fun z => q1 z.2.1)
    · rw [n1] at q
      simp only [pI, pL, pR, pV, i10, ↓reduceIte, eX_share_8]
      exact no1 (fun z => q z.1)
  · apply wM_share
    simp only [pI, pL, pR, pV, i10, ↓reduceIte, eM_share_0]
    have g0 := Wd.i hR
    unfold qShare at h
    generalize EE lws σ = E at h g0
    generalize mc σ 121 = c at h g0
    generalize rd σ 121 = a at h g0
    have n1 : rd σ 121 0 = eN E := g0.nv.2.2.1
    have n2 : rd σ 121 1 = eV E := g0.nv.2.2.2.1
    have n5 := g0.nv.2.2.2.2.2.2.1
    have n6 := g0.nv.2.2.2.2.2.2.2
    have hT : ∀ k, 0 ≤ (fun k => takesF E c (ix w) k f.toInt) k ∧ (fun k => takesF E c (ix w) k f.toInt) k ≤ 99 := fun k => takes_r
    generalize hTT : (fun k => takesF E c (ix w) k f.toInt) = T at h hT
    have hTk : ∀ k, takesF E c (ix w) k f.toInt = T k := fun k => by rw [← hTT]
    have i1 : inb 1 4016 := ⟨by decide, by decide⟩
    have no : ¬ (((0 ≤ w.toInt ∧ w.toInt < eN E) ∧ (1 ≤ f.toInt ∧ f.toInt ≤ 9) ∧ (0 ≤ v.toInt ∧ v.toInt < eV E)) ∧ ((0 < s.toInt ∧ s.toInt < (2 ^ eV E : Nat)) ∧ pc (ix s) ≤ 5 ∧ (ix s).testBit (ix v) = true)) → bM_share_62 true NOB (wp true 12) Φ (kM_share 12 Φ) [.ref 120, .int w, .int f, .int s, .int v, .int l, .retAddr 0, .retAddr 0, .retAddr 0, .retAddr 0] [] σ := fun q => by
      rw [if_neg q] at h
      simp only [pI, pL, pR, pV, i10, ↓reduceIte, eM_share_62]
      exact h _ _ Fr.rf rfl
    refine sM_isWind (by omega) (fun q => ?_) (fun q => ?_)
    · rw [n1] at q
      simp only [pI, pL, pR, pV, i10, ↓reduceIte, eM_share_5]
      refine sM_isIn (fun q1 => ?_) (fun q1 => ?_)
      · rw [tl1, k9] at q1
        have hp := pow64 n6
        have ep : ((1 : Int32) <<< (gI σ 121 (ix 1) &&& 31)).toInt = (2 ^ eV E : Nat) := pow2N g0.nv.2.2.2.1 n6
        have hp0 : 0 < 2 ^ eV E := Nat.pow_pos (by decide)
        have ep1 : ((1 : Int32) <<< (gI σ 121 (ix 1) &&& 31) - 1).toInt = (2 ^ eV E : Nat) - 1 := by rw [tM (by rw [ep, tl1]; omega), ep, tl1]
        simp only [pI, pL, pR, pV, i10, ↓reduceIte, eM_share_15]
        refine ⟨i1, ?_⟩
        refine sM_isIn (fun y => ?_) (fun y => ?_)
        · rw [tl1, ep1] at y
          have y : 0 < s.toInt ∧ s.toInt < (2 ^ eV E : Nat) := by omega
          have hsx := ix_to (x := s) (by omega)
          have hs64 : ix s < 64 := by omega
          simp only [pI, pL, pR, pV, i10, ↓reduceIte, eM_share_33]
          refine sM_bits hsx.symm hs64 (fun b hbv => ?_)
          simp only [pI, pL, pR, pV, i10, ↓reduceIte, eM_share_40]
          simp only [ilt, k5, hbv]
          split
          next z => exact no (fun x => by omega)
          next z =>
            refine sM_isVillage (by omega) (fun q2 => ?_) (fun q2 => ?_)
            · rw [n2] at q2
              have hvx := ix_to q2.1
              have hvi : ix v < 6 := by omega
              simp only [pI, pL, pR, pV, i10, ↓reduceIte, eM_share_50]
              refine sM_has hsx.symm hs64 hvx.symm hvi (fun hb => ?_) (fun hb => ?_)
              · rw [if_pos ⟨⟨q, by omega, q2⟩, y, by omega, hb⟩] at h
                have hp5 : pc (ix s) ≤ 5 := by omega
                obtain ⟨m1, m2, m3⟩ := chM_ok hs64
                have hmV := memV (eV E) (by omega) (ix s) hs64 (by omega)
                -- the villages are laid
                have lp : ∀ (n k : Nat) (σ' : Sg) (x6 x7 : Int32), k + n = eV E → x7.toInt = k → x6.toInt = (memK (ix s) k).length → Fr FSm σ σ' → LayS T (ix s) k σ' → bM_share_70 true NOB (wp true 12) Φ (kM_share 12 Φ) [.ref 120, .int w, .int f, .int s, .int v, .int l, .int x6, .int x7, .retAddr 0, .retAddr 0] [] σ' := by
                  intro n
                  induction n with
                  | zero =>
                    intro k σ' x6 x7 hk h7 h6 hF hL
                    have nV := (g0.m (FSmm hF).fi).nv.2.2.2.1
                    have nV : (gI σ' 121 (ix 1)).toInt = eV E := nV
                    simp only [pI, pL, pR, pV, i10, ↓reduceIte, eM_share_70]
                    simp only [ile, nV, h7]
                    rw [if_pos (by omega)]
                    refine ⟨i1, ?_⟩
                    obtain rfl : k = eV E := by omega
                    rw [hmV] at h6
                    obtain ⟨l1, l2⟩ := hL
                    rw [hmV] at l1
                    have fin : bM_share_135 true NOB (wp true 12) Φ (kM_share 12 Φ) [.ref 120, .int w, .int f, .int s, .int v, .int l, .int x6, .int x7, .retAddr 0, .retAddr 0] [] σ' := by
                      refine sM_orders (d := 10) hT hsx.symm hs64 hvx.symm hvi hb hp5 (by rw [h6, m1]) (fun r hr => ?_) (fun i hi => ?_) (fun σ2 x7 x8 x9 hF2 h7 h8 => ?_)
                      · have hu : (memK (ix s) 6).getD r 0 ∈ memK (ix s) 6 := by
                          rw [List.getD_eq_getElem?_getD, List.getElem?_eq_getElem hr]
                          exact List.getElem_mem hr
                        have hu2 := m2 _ hu
                        refine ⟨(l1 r hr).1, hu2.2, l2 _ ?_ hu2.1⟩
                        apply Classical.byContradiction
                        intro z2
                        have := bitHi (eV E) (by omega) (ix s) hs64 (by omega) _ hu2.2 (by omega)
                        rw [this] at hu2
                        exact absurd hu2.1 (by decide)
                      · rw [List.length_range] at hi
                        rw [(l1 i (by omega)).2, List.getD_eq_getElem?_getD, List.getElem?_range hi]
                        rfl
                      · have hsm := shA_small hT hs64 hvi hb hp5
                        have hob := ordB (pc (ix s))
                        have hFm : Fr MS σ σ2 := (FSmm hF).tr (hF2.mo (by decide))
                        simp only [pI, pL, pR, pV, i10, ↓reduceIte, eM_share_176]
                        have hB0 : 0 < ordN (pc (ix s)) := by
                          have := (chS_ok hs64 hvi hb hp5).1
                          have : pc (ix s) = 1 ∨ pc (ix s) = 2 ∨ pc (ix s) = 3 ∨ pc (ix s) = 4 ∨ pc (ix s) = 5 := by omega
                          rcases this with e | e | e | e | e <;> rw [e] <;> decide
                        refine sM_part (by rw [Int32.toInt_toInt64]; exact h7) (by rw [Int32.toInt_toInt64]; exact h8) hB0 (fun r hr => ?_)
                        simp only [pI, pL, pR, pV, i10, ↓reduceIte, eM_share_187]
                        have hd1 := Nat.div_le_self (shA T (ix s) (ix v) 64) (Nat.gcd (ordN (pc (ix s))) (shA T (ix s) (ix v) 64))
                        have hd2 := Nat.div_le_self (ordN (pc (ix s))) (Nat.gcd (ordN (pc (ix s))) (shA T (ix s) (ix v) 64))
                        generalize shA T (ix s) (ix v) 64 / Nat.gcd (ordN (pc (ix s))) (shA T (ix s) (ix v) 64) = Z1 at *
                        generalize ordN (pc (ix s)) / Nat.gcd (ordN (pc (ix s))) (shA T (ix s) (ix v) 64) = Z2 at *
                        refine h _ _ hFm ?_
                        rw [j32 (by rw [hr]; split <;> omega), hr]
                    exact fin
                  | succ n ih =>
                    intro k σ' x6 x7 hk h7 h6 hF hL
                    have g1 := g0.m (FSmm hF).fi
                    have nV : (gI σ' 121 (ix 1)).toInt = eV E := g1.nv.2.2.2.1
                    obtain ⟨hO, -, -, hE, hc, -⟩ := g1.all
                    have h71 : (x7 + 1).toInt = ((k + 1 : Nat) : Int) := by rw [tq1 x7 (by omega), h7]; omega
                    have i7 : ix x7 = k := ix_of h7
                    have i6 : ix x6 = (memK (ix s) k).length := ix_of h6
                    have eK := memK_s (s := ix s) (k := k)
                    simp only [pI, pL, pR, pV, i10, ↓reduceIte, eM_share_70]
                    simp only [ile, nV, h7]
                    rw [if_neg (by omega)]
                    refine ⟨i1, ?_⟩
                    refine sM_has hsx.symm hs64 h7 (by omega) (fun hbk => ?_) (fun hbk => ?_)
                    · rw [if_pos hbk] at eK
                      have hlen := m3 k (by omega) hbk hp5
                      simp only [pI, pL, pR, pV, i10, ↓reduceIte, eM_share_87, eM_share_93]
                      refine sM_takesOf hO hE hc q (by omega) (by omega) (fun σ1 r hF1 hr => ?_)
                      rw [i7, hTk] at hr
                      simp only [pI, pL, pR, pV, i10, ↓reduceIte, eM_share_107]
                      rw [i7, i6]
                      refine ⟨⟨by omega, by omega⟩, ⟨by omega, by omega⟩, ⟨by omega, by omega⟩, ?_⟩
                      simp only [pI, pL, pR, pV, i10, ↓reduceIte, eM_share_129]
                      have h61 : (x6 + 1).toInt = (((memK (ix s) (k + 1)).length : Nat) : Int) := by rw [tq1 x6 (by omega), h6, eK, List.length_append, List.length_singleton]; omega
                      have hF1s : Fr FSm σ σ1 := hF.tr (hF1.mo (fun e he => List.mem_append_left _ he))
                      refine hM_share_70 _ _ _ _ _ (ih (k + 1) _ _ _ (by omega) h71 h61 (hF1s.tr ((Fr.sI (inS_r (lo := 0) (hi := 6) (by simp) (by omega))).tr ((Fr.sI (inS_r (lo := 0) (hi := 6) (by simp) (by omega))).tr (Fr.sI (inS_r (lo := 0) (hi := 5) (by simp) (by omega)))))) ⟨fun i hi => ?_, fun u hu hbu => ?_⟩)
                      · have no2 : ∀ x j, 130 ≤ x → inS FML x j = false := fun x j hx => not_inS (fun e he z => by
                          have : ∀ e, e ∈ FML → e.1 < 130 := by decide
                          have := this e he
                          omega)
                        rw [eK] at hi ⊢
                        rw [List.length_append, List.length_singleton] at hi
                        by_cases e : i = (memK (ix s) k).length
                        · subst e
                          rw [gIne (by omega), gIeq, gIeq, List.getD_eq_getElem?_getD, List.getElem?_append_right (Nat.le_refl _), Nat.sub_self]
                          exact ⟨h7, h6⟩
                        · rw [gIne (by omega), gIne2 e, gIne (by omega), gIne2 e, gIne (by omega), gIne (by omega), hF1.1 _ _ (no2 131 i (by omega)), hF1.1 _ _ (no2 132 i (by omega)), List.getD_eq_getElem?_getD, List.getElem?_append_left (by omega), ← List.getD_eq_getElem?_getD]
                          exact hL.1 i (by omega)
                      · have no2 : ∀ x j, 130 ≤ x → inS FML x j = false := fun x j hx => not_inS (fun e he z => by
                          have : ∀ e, e ∈ FML → e.1 < 130 := by decide
                          have := this e he
                          omega)
                        rw [gIne (by omega), gIne (by omega)]
                        by_cases e : u = k
                        · subst e
                          rw [gIeq]
                          exact hr
                        · rw [gIne2 e, hF1.1 _ _ (no2 130 u (by omega))]
                          exact hL.2 u (by omega) hbu
                    · rw [if_neg (by rw [hbk]; decide)] at eK
                      simp only [pI, pL, pR, pV, i10, ↓reduceIte, eM_share_87, eM_share_129]
                      refine hM_share_70 _ _ _ _ _ (ih (k + 1) σ' x6 _ (by omega) h71 (by rw [eK]; exact h6) hF ⟨by rw [eK]; exact hL.1, fun u hu hbu => hL.2 u ?_ hbu⟩)
                      have : u ≠ k := fun e => by
                        subst e
                        rw [hbk] at hbu
                        cases hbu
                      omega
                simp only [pI, pL, pR, pV, i10, ↓reduceIte, eM_share_59, eM_share_64]
                exact lp (eV E) 0 σ 0 0 (by omega) rfl rfl Fr.rf ⟨fun i hi => absurd hi (Nat.not_lt_zero _), fun u hu => absurd hu (Nat.not_lt_zero _)⟩
              · simp only [pI, pL, pR, pV, i10, ↓reduceIte, eM_share_59]
                refine no (fun x => ?_)
                rw [hb] at x
                exact absurd x.2.2.2 (by decide)
            · rw [n2] at q2
              simp only [pI, pL, pR, pV, i10, ↓reduceIte, eM_share_50]
              exact no (fun x => q2 x.1.2.2)
        · rw [tl1, ep1] at y
          simp only [pI, pL, pR, pV, i10, ↓reduceIte, eM_share_33]
          exact no (fun x => by omega)
      · rw [tl1, k9] at q1
        simp only [pI, pL, pR, pV, i10, ↓reduceIte, eM_share_15]
        exact no (fun x => q1 x.1.2.1)
    · rw [n1] at q
      simp only [pI, pL, pR, pV, i10, ↓reduceIte, eM_share_5]
      exact no (fun x => q x.1.1)
