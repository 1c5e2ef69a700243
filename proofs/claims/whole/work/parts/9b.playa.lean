/-! PLAYED: what holds of the class alone while a text is played -/
def EC (lws : Lws) (s : Sg) : En := ((rd s 1 4).toNat, (rd s 1 6).toNat, (fun w => if w < 6 then rd s 34 w else 0), (fun v => if v < 6 then rd s 35 v else 0), fun l => if rd s 1 10 < 0 then none else lws (rd s 1 10).toNat l)
def CI (lws : Lws) (s : Sg) : Prop := CE s (EC lws s) ∧ Ok (EC lws s) (rc s 2) ∧ TkOk (EC lws s) (rc s 2) ∧ ((0 ≤ rd s 1 2 ∧ rd s 1 2 < 30) ∧ (0 ≤ rd s 1 3 ∧ rd s 1 3 ≤ 30)) ∧ rd s 2 44 = rc s 2 42 ∧ ((0 ≤ rd s 1 4 ∧ rd s 1 4 ≤ 6) ∧ (0 ≤ rd s 1 6 ∧ rd s 1 6 ≤ 6))
theorem EC_of {lws : Lws} {s s' : Sg} (e4 : rd s' 1 4 = rd s 1 4) (e6 : rd s' 1 6 = rd s 1 6) (e10 : rd s' 1 10 = rd s 1 10) (e34 : ∀ k, rd s' 34 k = rd s 34 k) (e35 : ∀ k, rd s' 35 k = rd s 35 k) : EC lws s' = EC lws s := by
  unfold EC
  simp only [e4, e6, e10, e34, e35]
theorem CI.fx {lws : Lws} {s s' : Sg} (g : CI lws s) (h : Fr FX s s') (hO : Ok (EC lws s) (rc s' 2)) (hT : TkOk (EC lws s) (rc s' 2)) (hk : (0 ≤ rd s' 1 2 ∧ rd s' 1 2 < 30) ∧ (0 ≤ rd s' 1 3 ∧ rd s' 1 3 ≤ 30)) (h44 : rd s' 2 44 = rc s' 2 42) : EC lws s' = EC lws s ∧ CI lws s' := by
  have no : ∀ a k, a = 34 ∨ a = 35 → inS FX a k = false := fun a k ha => not_inS (fun e he z => by have := FX_no e he; omega)
  have e14 : rd s' 1 4 = rd s 1 4 := h.rd rfl
  have e16 : rd s' 1 6 = rd s 1 6 := h.rd rfl
  have e110 : rd s' 1 10 = rd s 1 10 := h.rd rfl
  have e : EC lws s' = EC lws s := EC_of e14 e16 e110 (fun k => h.rd (no _ _ (Or.inl rfl))) (fun k => h.rd (no _ _ (Or.inr rfl)))
  refine ⟨e, ?_, ?_, ?_, hk, h44, ?_⟩
  · rw [e]; exact CEx h g.1
  · rw [e]; exact hO
  · rw [e]; exact hT
  · rw [e14, e16]; exact g.2.2.2.2.2
theorem CI.w44 {lws : Lws} {s : Sg} (g : CI lws s) : 0 ≤ rd s 2 44 ∧ rd s 2 44 ≤ 9999 := by
  have h := g.2.1.2.2.1
  rw [g.2.2.2.2.1]
  exact h
theorem tk36 {E : En} {c F : Co} (h36 : ∀ k, 36 ≤ k → F k = c k) (h : TkOk E c) : TkOk E F := fun v hv => by
  rw [h36 _ (by omega), h36 42 (by omega)]
  exact h v hv
theorem cD_pay {d : Nat} {Φ : Po} {lws : Lws} {v w p : Int32} {s : Sg} (g : CI lws s) (h1 : CanP (EC lws s) (rc s 2) v w p → ∀ (s' : Sg) (r : Int32), Fr FX s s' → CI lws s' → (∃ a, KCi s a ∧ Ei [(2, 0, 44)] a s') → rc s' 2 = payF (rc s 2) (ix v) (ix w) p.toInt → r.toInt ≠ -1000 → Φ (some (.int r)) s') (h0 : ¬ CanP (EC lws s) (rc s 2) v w p → Φ (some (.int (-1000))) s) : wp true (d + 4) nD_payByHand [.ref 110, .int v, .int w, .int p] s Φ := by
  obtain ⟨hE, hO, hT, hk, h44, hb⟩ := g
  have g : CI lws s := ⟨hE, hO, hT, hk, h44, hb⟩
  apply wD_payByHand
  simp only [pI, pL, pR, pV, i10, ↓reduceIte, eD_payByHand_0]
  refine sD_canPay hO hE rfl (fun q => ?_) (fun q => ?_)
  · simp only [pI, pL, pR, pV, i10, ↓reduceIte, eD_payByHand_7, eD_payByHand_14]
    refine sW_keepStep hk.1 hk.2 (fun σ1 hK => ?_)
    simp only [pI, pL, pR, pV, i10, ↓reduceIte, eD_payByHand_21]
    obtain ⟨r1, r2, r3⟩ := keepC_rc hK
    refine sD_payNow hO r1 q (fun σ2 hF2 hc2 => ?_)
    simp only [pI, pL, pR, pV, i10, ↓reduceIte, eD_payByHand_28]
    have qw := q.2.1.1
    have hn := hO.1
    have eo : ix (0 + w) = ix w := by rw [ixk (n := 0) rfl (by omega)]; omega
    rw [eo]
    refine ⟨inb_k (n := 0) rfl (by omega) (by omega), ?_⟩
    have hw6 : ix w < 6 := by unfold ix; omega
    have go : (gI σ2 2 (ix w)).toInt = payF (rc s 2) (ix v) (ix w) p.toInt (ix w) := by rw [← hc2]; exact (rc_at (by omega)).symm
    have gv : payF (rc s 2) (ix v) (ix w) p.toInt (ix w) = rc s 2 (ix w) - p.toInt := upc_eq
    have hFx : Fr FX s σ2 := (FXk hK.1).tr (hF2.mo (by decide))
    obtain ⟨p1, p2, p3, p4⟩ := payF_ok hO q
    have e1 : ∀ k, rd σ2 1 k = rd σ1 1 k := fun k => hF2.rd (not_inS (fun e he z => by
      rw [List.mem_singleton] at he
      subst he
      have : 2 = 1 := z.1
      omega))
    refine h1 q σ2 _ hFx (g.fx hFx (by rw [hc2]; exact p1) (by rw [hc2]; exact tk36 p2 hT) (by rw [e1, e1]; exact r3 hk.1 hk.2) ?_).2 ⟨σ1, hK.i, hF2.ei⟩ hc2 ?_
    · have e44 : rd σ2 2 44 = rd σ1 2 44 := hF2.rd rfl
      rw [e44, r2, h44, hc2, p2 42 (by omega)]
    · have := q.2.2.2.2
      rw [go, gv]
      omega
  · simp only [pI, pL, pR, pV, i10, ↓reduceIte, eD_payByHand_7]
    exact h0 q
theorem cD_merge {d : Nat} {Φ : Po} {lws : Lws} {w t : Int32} {s : Sg} (g : CI lws s) (h1 : CanM (EC lws s) (rc s 2) w t → ∀ (s' : Sg) (r : Int32), Fr FX s s' → CI lws s' → (∃ a, KCi s a ∧ Ei [(2, 0, 44)] a s') → rc s' 2 = mergF (rc s 2) (ix w) (ix t) → r.toInt ≠ -1000 → Φ (some (.int r)) s') (h0 : ¬ CanM (EC lws s) (rc s 2) w t → Φ (some (.int (-1000))) s) : wp true (d + 4) nD_mergeByHand [.ref 110, .int w, .int t] s Φ := by
  obtain ⟨hE, hO, hT, hk, h44, hb⟩ := g
  have g : CI lws s := ⟨hE, hO, hT, hk, h44, hb⟩
  apply wD_mergeByHand
  simp only [pI, pL, pR, pV, i10, ↓reduceIte, eD_mergeByHand_0]
  refine sD_canMerge hO hE rfl (fun q => ?_) (fun q => ?_)
  · simp only [pI, pL, pR, pV, i10, ↓reduceIte, eD_mergeByHand_6, eD_mergeByHand_13]
    refine sW_keepStep hk.1 hk.2 (fun σ1 hK => ?_)
    simp only [pI, pL, pR, pV, i10, ↓reduceIte, eD_mergeByHand_20]
    obtain ⟨r1, r2, r3⟩ := keepC_rc hK
    refine sD_mergeNow hO r1 q (fun σ2 hF2 hc2 => ?_)
    simp only [pI, pL, pR, pV, i10, ↓reduceIte, eD_mergeByHand_26]
    have qt := q.2.2.1
    have hn := hO.1
    have eo : ix (0 + t) = ix t := by rw [ixk (n := 0) rfl (by omega)]; omega
    rw [eo]
    refine ⟨inb_k (n := 0) rfl (by omega) (by omega), ?_⟩
    have ht6 : ix t < 6 := by unfold ix; omega
    obtain ⟨p1, p2, p3, p4, p5⟩ := mergF_ok hO q
    have go : (gI σ2 2 (ix t)).toInt = mergF (rc s 2) (ix w) (ix t) (ix t) := by rw [← hc2]; exact (rc_at (by omega)).symm
    have hFx : Fr FX s σ2 := (FXk hK.1).tr (hF2.mo (by decide))
    have e1 : ∀ k, rd σ2 1 k = rd σ1 1 k := fun k => hF2.rd (not_inS (fun e he z => by
      rw [List.mem_singleton] at he
      subst he
      have : 2 = 1 := z.1
      omega))
    refine h1 q σ2 _ hFx (g.fx hFx (by rw [hc2]; exact p1) (by rw [hc2]; exact tk36 (fun k hk => p2 k (by omega)) hT) (by rw [e1, e1]; exact r3 hk.1 hk.2) ?_).2 ⟨σ1, hK.i, hF2.ei⟩ hc2 ?_
    · have e44 : rd σ2 2 44 = rd σ1 2 44 := hF2.rd rfl
      rw [e44, r2, h44, hc2, p2 42 (by omega)]
    · rw [go, p5]
      omega
  · simp only [pI, pL, pR, pV, i10, ↓reduceIte, eD_mergeByHand_6]
    exact h0 q
/-- the days of a clause: those that can pass do -/
theorem lD_days {d : Nat} {Φ : Po} {lws : Lws} {E : En} {c : Co} {N : Nat} {x1 x2 x3 x4 : Int32} {σ0 : Sg} (g0 : CI lws σ0) (hE0 : EC lws σ0 = E) (hc0 : rc σ0 2 = c) (hN : x2.toInt = N) (hN60 : N ≤ 60)
    (h : ∀ (σ' : Sg) (m : Nat) (ok : Bool), Fr FX σ0 σ' → CI lws σ' → DaysC E m σ0 σ' → (m : Int) ≤ 9999 - c 42 → (ok = true ∧ m = N ∨ ok = false ∧ m < N ∧ pasN E c m 42 = 9999) → Φ (some (.int (cond ok 1 0))) σ') :
    ∀ (n i : Nat) (σ : Sg) (x : Int32), i + n = N → x.toInt = i → (i : Int) ≤ 9999 - c 42 → Fr FX σ0 σ → DaysC E i σ0 σ → CI lws σ → rc σ 2 = pasN E c i → bD_perform_133 true NOB (wp true (d + 6)) Φ (kD_perform (d + 6) Φ) [.ref 110, .int x1, .int x2, .int x3, .int x4, .int x] [] σ := by
  have hO : Ok E c := by rw [← hE0, ← hc0]; exact g0.2.1
  have hT : TkOk E c := by rw [← hE0, ← hc0]; exact g0.2.2.1
  intro n
  induction n with
  | zero =>
    intro i σ x hi hx hi9 hF hD hC hc
    simp only [pI, pL, pR, pV, i10, ↓reduceIte, eD_perform_133, eD_perform_168]
    simp only [ile, hN, hx]
    rw [if_pos (by omega)]
    obtain rfl : i = N := by omega
    exact h σ i true hF hC hD hi9 (Or.inl ⟨rfl, rfl⟩)
  | succ n ih =>
    intro i σ x hi hx hi9 hF hD hC hc
    simp only [pI, pL, pR, pV, i10, ↓reduceIte, eD_perform_133]
    simp only [ile, hN, hx]
    rw [if_neg (by omega)]
    obtain ⟨o1, o2, o3, o4⟩ := pasN_ok hO hT i hi9
    have hk := hC.2.2.2.1
    have h44 := hC.2.2.2.2.1
    refine sW_daysLeft hc o1.2.2.1 (fun l hl => ?_)
    simp only [pI, pL, pR, pV, i10, ↓reduceIte, eD_perform_146]
    simp only [ilt, hl, tl0]
    split
    next z =>
      simp only [pI, pL, pR, pV, i10, ↓reduceIte, eD_perform_151]
      refine sW_keepStep hk.1 hk.2 (fun σ1 hK => ?_)
      simp only [pI, pL, pR, pV, i10, ↓reduceIte, eD_perform_158]
      obtain ⟨r1, r2, r3⟩ := keepC_rc hK
      have r3 := r3 hk.1 hk.2
      have hF1 := hF.tr (FXk hK.1)
      have hE1 : CE σ0 E := by rw [← hE0]; exact g0.1
      have hw := hC.w44
      refine sD_pass o1 (CEx hF1 hE1) (r1.trans hc) o2 (by omega) (by rw [r2]; omega) (fun σ2 hF2 hc2 hw2 hf2 ht2 hP => ?_)
      simp only [pI, pL, pR, pV, i10, ↓reduceIte, eD_perform_162]
      obtain ⟨p1, p2, p3, -⟩ := passF_ok o1 o2 (by omega)
      have hp : PCi E σ1 σ2 := by
        refine ⟨hF2.ei, ?_, ?_⟩
        · rw [r1, hc]; exact hc2
        · rw [r1, hc]; exact hP
      have e1 : ∀ k, rd σ2 1 k = rd σ1 1 k := fun k => hF2.rd (inFD (by omega))
      have hFn := hF1.tr (FXd hF2)
      have hc2' : rc σ2 2 = pasN E c (i + 1) := hc2
      have hC2 := (g0.fx hFn (by rw [hE0, hc2]; exact p1) (by rw [hE0, hc2]; exact p2) (by rw [e1, e1]; exact r3) (by rw [hP.1, r2, h44, hc, hc2, p3])).2
      exact hD_perform_133 _ _ _ _ _ (ih (i + 1) σ2 (x + 1) (by omega) (by rw [t1 (by omega), hx]; omega) (by omega) hFn (hD.snoc hK.i hp) hC2 hc2')
    next z =>
      have o42 := o1.2.2.1
      exact h σ i false hF hC hD hi9 (Or.inr ⟨rfl, by omega, by omega⟩)
/-! telling -/
theorem CT_ei {σ σ' : Sg} {E E' : En} (hL : eL E' = eL E) (e9 : rd σ' 1 9 = rd σ 1 9) (e10 : rd σ' 1 10 = rd σ 1 10) (e2 : ∀ a k, 88 ≤ a → a < 108 → rd σ' a k = rd σ a k) (g : CT σ E) : CT σ' E' := by
  obtain ⟨g5, g6, g7, g8⟩ := g
  refine ⟨?_, ?_, ?_, ?_⟩
  · rw [e9]; exact g5
  · rw [e9, e10]; exact g6
  · rw [e10, hL]; exact g7
  · rw [e10, hL]
    intro t ht hr l hl
    have g := g8 t ht hr l hl
    cases hx : eL E l with
    | none =>
      rw [hx] at g
      show rd σ' (90 + 5 * t) l = -1
      rw [e2 _ _ (by omega) (by omega)]
      exact g
    | some ops =>
      rw [hx] at g
      show 0 ≤ rd σ' (90 + 5 * t) l ∧ rd σ' (91 + 5 * t) l = rd σ' (90 + 5 * t) l + ops.length ∧ rd σ' (91 + 5 * t) l ≤ 300 ∧ CodeAt σ' t (rd σ' (90 + 5 * t) l).toNat ops
      rw [e2 (90 + 5 * t) _ (by omega) (by omega), e2 (91 + 5 * t) _ (by omega) (by omega)]
      obtain ⟨b1, b2, b3, b4⟩ := g
      exact ⟨b1, b2, b3, CodeAt_r (fun k => e2 _ _ (by omega) (by omega)) _ _ b4⟩
theorem CI.ce {lws : Lws} {s s' : Sg} (g : CI lws s) (hb : (0 ≤ rd s' 1 4 ∧ rd s' 1 4 ≤ 6) ∧ (0 ≤ rd s' 1 6 ∧ rd s' 1 6 ≤ 6)) (e9 : rd s' 1 9 = rd s 1 9) (e10 : rd s' 1 10 = rd s 1 10) (e2 : ∀ a k, 88 ≤ a → a < 108 → rd s' a k = rd s a k) : CE s' (EC lws s') := by
  have hL : eL (EC lws s') = eL (EC lws s) := by
    show (fun l => if rd s' 1 10 < 0 then none else lws (rd s' 1 10).toNat l) = (fun l => if rd s 1 10 < 0 then none else lws (rd s 1 10).toNat l)
    rw [e10]
  refine ⟨?_, ?_, fun w hw => ?_, fun v hv => ?_, CT_ei hL e9 e10 e2 g.1.2.2.2.2.1, fun l ops hl ho => g.1.2.2.2.2.2 l ops hl (by rw [← hL]; exact ho)⟩
  · show rd s' 1 4 = ((rd s' 1 4).toNat : Int)
    omega
  · show rd s' 1 6 = ((rd s' 1 6).toNat : Int)
    omega
  · show rd s' 34 w = if w < 6 then rd s' 34 w else 0
    rw [if_pos hw]
  · show rd s' 35 v = if v < 6 then rd s' 35 v else 0
    rw [if_pos hv]
theorem CI.wind {lws : Lws} {s s' : Sg} {x1 x2 x3 : Int32} (g : CI lws s) (hq : CanW (rd s 1 4) x1 x2 x3) (hF : Fr FTc s s') (k : TelC s s' (rd s 1 4).toNat x1.toInt x2.toInt x3.toInt) : CI lws s' := by
  obtain ⟨k1, k2, k3, k4, k5, -⟩ := k
  obtain ⟨q1, q2, q3, q4⟩ := hq
  obtain ⟨hE, ⟨o1, o2, o3, o4, o5, o6⟩, hT, hk, h44, hb⟩ := id g
  have e : ∀ j, j < 4 ∨ 5 ≤ j → rd s' 1 j = rd s 1 j := fun j hj => hF.rd (not_inS (fun e he z => by
    have := (FTc_hi e he).2.2 z.1
    omega))
  have e44 : rd s' 2 44 = rd s 2 44 := hF.rd (not_inS (fun e he z => by
    have := (FTc_hi e he).2.1 (by omega)
    omega))
  have e88 : ∀ a j, 88 ≤ a → a < 108 → rd s' a j = rd s a j := fun a j h1 _ => hF.rd (not_inS (fun e he z => by
    have := (FTc_hi e he).1
    omega))
  have e35 : ∀ j, rd s' 35 j = rd s 35 j := fun j => hF.rd (not_inS (fun e he z => by
    have : ∀ e, e ∈ FTc → e.1 ≠ 35 := by decide +kernel
    exact this e he z.1))
  generalize hn : (rd s 1 4).toNat = n at *
  have hnn : rd s 1 4 = n := by omega
  have hb' : (0 ≤ rd s' 1 4 ∧ rd s' 1 4 ≤ 6) ∧ (0 ≤ rd s' 1 6 ∧ rd s' 1 6 ≤ 6) := by rw [k2, e 6 (by omega)]; omega
  have n1 : eN (EC lws s) = n := hn
  have n2 : eN (EC lws s') = n + 1 := by show (rd s' 1 4).toNat = n + 1; omega
  have v2 : eV (EC lws s') = eV (EC lws s) := by show (rd s' 1 6).toNat = (rd s 1 6).toNat; rw [e 6 (by omega)]
  rw [n1] at o1 o5
  refine ⟨g.ce hb' (e 9 (by omega)) (e 10 (by omega)) e88, ⟨by omega, by rw [v2]; exact o2, ?_, ?_, fun i hi => ?_, fun v hv' => ?_⟩, fun v hv' => ?_, by rw [e 2 (by omega), e 3 (by omega)]; exact hk, ?_, hb'⟩
  · rw [k5, setW_ne (by omega)]; exact o3
  · rw [k5, setW_ne (by omega)]; exact o4
  · rw [n2] at hi
    have q2' : eQ (EC lws s') i = rd s' 34 i := if_pos (by omega)
    have q1' : eQ (EC lws s) i = rd s 34 i := if_pos (by omega)
    rw [q2', k5]
    by_cases z : i = n
    · subst z
      rw [k3, setW_w, setW_d, setW_z (by omega) (Or.inl rfl), setW_z (by omega) (Or.inr (Or.inl rfl)), setW_z (by omega) (Or.inr (Or.inr rfl))]
      omega
    · rw [k4 i z, ← q1', setW_ne (by omega), setW_ne (by omega), setW_ne (by omega), setW_ne (by omega), setW_ne (by omega)]
      exact o5 i (by omega)
  · rw [v2] at hv'
    have q2' : eR (EC lws s') v = rd s' 35 v := if_pos (by omega)
    have q1' : eR (EC lws s) v = rd s 35 v := if_pos (by omega)
    rw [q2', e35, ← q1', k5, setW_ne (by omega)]
    exact o6 v hv'
  · rw [v2] at hv'
    rw [k5, setW_ne (by omega), setW_ne (by omega)]
    exact hT v hv'
  · rw [e44, h44, k5, setW_ne (by omega)]
theorem CI.vil {lws : Lws} {s s' : Sg} {x1 x2 : Int32} (g : CI lws s) (hq : CanV (rd s 1 6) x1 x2) (hF : Fr FVc s s') (k : TlvC s s' (rd s 1 6).toNat x1.toInt x2.toInt) : CI lws s' := by
  obtain ⟨k1, k2, k3, k4, k5, -⟩ := k
  obtain ⟨q1, q2, q3⟩ := hq
  obtain ⟨hE, ⟨o1, o2, o3, o4, o5, o6⟩, hT, hk, h44, hb⟩ := id g
  have e : ∀ j, j < 6 ∨ 7 ≤ j → rd s' 1 j = rd s 1 j := fun j hj => hF.rd (not_inS (fun e he z => by
    have := (FVc_hi e he).2.2 z.1
    omega))
  have e44 : rd s' 2 44 = rd s 2 44 := hF.rd (not_inS (fun e he z => by
    have := (FVc_hi e he).2.1 (by omega)
    omega))
  have e88 : ∀ a j, 88 ≤ a → a < 108 → rd s' a j = rd s a j := fun a j h1 _ => hF.rd (not_inS (fun e he z => by
    have := (FVc_hi e he).1
    omega))
  have e34 : ∀ j, rd s' 34 j = rd s 34 j := fun j => hF.rd (not_inS (fun e he z => by
    have : ∀ e, e ∈ FVc → e.1 ≠ 34 := by decide +kernel
    exact this e he z.1))
  generalize hn : (rd s 1 6).toNat = n at *
  have hnn : rd s 1 6 = n := by omega
  have hb' : (0 ≤ rd s' 1 4 ∧ rd s' 1 4 ≤ 6) ∧ (0 ≤ rd s' 1 6 ∧ rd s' 1 6 ≤ 6) := by rw [k2, e 4 (by omega)]; omega
  have n1 : eV (EC lws s) = n := hn
  have n2 : eV (EC lws s') = n + 1 := by show (rd s' 1 6).toNat = n + 1; omega
  have v2 : eN (EC lws s') = eN (EC lws s) := by show (rd s' 1 4).toNat = (rd s 1 4).toNat; rw [e 4 (by omega)]
  have sV : ∀ j, j ≠ 30 + n → j ≠ 36 + n → setV (rc s 2) n x2.toInt j = rc s 2 j := fun j j1 j2 => by
    unfold setV
    rw [if_neg j1, if_neg j2]
  have sP : setV (rc s 2) n x2.toInt (30 + n) = x2.toInt := if_pos rfl
  have sT : setV (rc s 2) n x2.toInt (36 + n) = 0 := by
    unfold setV
    rw [if_neg (by omega)]
    try rw [if_pos rfl]
  rw [n1] at o2 o6
  refine ⟨g.ce hb' (e 9 (by omega)) (e 10 (by omega)) e88, ⟨by rw [v2]; exact o1, by omega, ?_, ?_, fun i hi => ?_, fun v hv' => ?_⟩, fun v hv' => ?_, by rw [e 2 (by omega), e 3 (by omega)]; exact hk, ?_, hb'⟩
  · rw [k5, sV _ (by omega) (by omega)]; exact o3
  · rw [k5, sV _ (by omega) (by omega)]; exact o4
  · rw [v2] at hi
    have q2' : eQ (EC lws s') i = rd s' 34 i := if_pos (by omega)
    have q1' : eQ (EC lws s) i = rd s 34 i := if_pos (by omega)
    rw [q2', e34, ← q1', k5, sV _ (by omega) (by omega), sV _ (by omega) (by omega), sV _ (by omega) (by omega), sV _ (by omega) (by omega), sV _ (by omega) (by omega)]
    exact o5 i hi
  · rw [n2] at hv'
    have q2' : eR (EC lws s') v = rd s' 35 v := if_pos (by omega)
    have q1' : eR (EC lws s) v = rd s 35 v := if_pos (by omega)
    rw [q2', k5]
    by_cases z : v = n
    · subst z
      rw [k3, sP]
      omega
    · rw [k4 v z, ← q1', sV _ (by omega) (by omega)]
      exact o6 v (by omega)
  · rw [n2] at hv'
    rw [k5, sV 42 (by omega) (by omega)]
    by_cases z : v = n
    · subst z
      rw [sT]
      have := o3
      omega
    · rw [sV _ (by omega) (by omega)]
      have hT' := hT v (by rw [n1]; omega)
      exact hT'
  · rw [e44, h44, k5, sV _ (by omega) (by omega)]
