/-! A VOYAGE: the reference -/
theorem inS_ap {A B : Ls} {a k : Nat} (h1 : inS A a k = false) (h2 : inS B a k = false) : inS (A ++ B) a k = false := by
  unfold inS at *
  rw [List.any_append, h1, h2]
  rfl
abbrev FVy : Ls := FMg ++ [(120, 35, 36), (133, 0, 60)]
theorem FVyg {σ σ' : Sg} (h : Fr FMg σ σ') : Fr FVy σ σ' := h.mo (fun e he => List.mem_append_left _ he)
theorem FVy_no {a k : Nat} (h : a = 121 ∨ a = 123) : inS [(120, 35, 36), (133, 0, 60)] a k = false := not_inS (fun e he z => by
  have : ∀ e, e ∈ ([(120, 35, 36), (133, 0, 60)] : Ls) → e.1 = 120 ∨ e.1 = 133 := by decide
  have := this e he
  omega)
theorem MEv {σ σ' : Sg} {E : En} (h : Fr FVy σ σ') (g : ME σ E) : ME σ' E :=
  ME.of ⟨h.rd (inS_ap rfl (FVy_no (Or.inl rfl))), h.rd (inS_ap rfl (FVy_no (Or.inl rfl))), h.rd (inS_ap rfl (FVy_no (Or.inl rfl)))⟩ (fun w hw => h.rd (inS_ap (inFMgs w hw).1 (FVy_no (Or.inl rfl)))) (fun w hw => h.rd (inS_ap (inFMgs w hw).2 (FVy_no (Or.inl rfl)))) (fun _ => h.rd (inS_ap inFMg3 (FVy_no (Or.inr rfl)))) g
theorem FVysub : ∀ e, e ∈ FVy → e ∈ MS ∨ e.1 = 121 ∧ 8 ≤ e.2.1 ∧ e.2.2 ≤ 84 ∨ e.1 = 120 ∧ 25 ≤ e.2.1 ∧ e.2.2 ≤ 40 := by decide
theorem FVy129 : ∀ k, inS FVy 129 k = false := fun k => inS_ap (FMg129 k) (not_inS (fun e he z => by
  have : ∀ e, e ∈ ([(120, 35, 36), (133, 0, 60)] : Ls) → e.1 = 120 ∨ e.1 = 133 := by decide
  have := this e he
  omega))
theorem lM_speeds {d : Nat} {Φ : Po} {E : En} {c : Co} {σ0 : Sg} (hO : Ok E c) (hT : TkOk E c) (hE : ME σ0 E)
    (h : ∀ σ2 σ3 : Sg, Fr FVy σ0 σ2 → rd σ2 120 35 = canN c 60 → (∀ k, k < canN c 60 → rd σ2 133 k = spd E c k) → Fr [(121, 8, 84), (120, 24, 25)] σ2 σ3 → (∀ k, 8 ≤ k → k < 84 → gI σ3 121 k = gI σ2 129 k) → gI σ3 120 24 = 1 → Φ none σ3) :
    ∀ (n i : Nat) (σ : Sg) (x1 : Int32) (v2 : Value), i + n = 60 → x1.toInt = i → Fr FVy σ0 σ → mc σ 121 = pasN E c (canN c i) → rd σ 120 28 = tkN E c (canN c i) → rd σ 120 24 = 0 → rd σ 120 35 = canN c i → (∀ k, k < canN c i → rd σ 133 k = spd E c k) → bM_laySpeeds_11 true NOB (wp true (d + 11)) Φ (kM_laySpeeds (d + 11) Φ) [.ref 120, .int x1, v2] [] σ := by
  have k60 : (60 : Int32).toInt = 60 := rfl
  have k2 : (2 : Int32).toInt = 2 := rfl
  intro n
  induction n with
  | zero =>
    intro i σ x1 v2 hi h1 hF hc ht hz h35 hs
    simp only [pI, pL, pR, pV, i10, ↓reduceIte, eM_laySpeeds_11]
    simp only [ile, k60, h1]
    rw [if_pos (by omega)]
    simp only [pI, pL, pR, pV, i10, ↓reduceIte, eM_laySpeeds_96]
    obtain rfl : i = 60 := by omega
    refine sM_putBack (fun σ3 g4 g5 g6 => ?_)
    simp only [pI, pL, pR, pV, i10, ↓reduceIte, eM_laySpeeds_100]
    exact h σ σ3 hF h35 hs g4 g5 g6
  | succ n ih =>
    intro i σ x1 v2 hi h1 hF hc ht hz h35 hs
    have hl := canN_le (n := i) hO.2.2.1
    obtain ⟨o1, o2, o3, o4⟩ := pasN_ok hO hT (canN c i) (by omega)
    obtain ⟨s1, s2⟩ := canN_s hO hT i
    have h11 : (x1 + 1).toInt = ((i + 1 : Nat) : Int) := by rw [tq1 x1 (by omega), h1]; omega
    simp only [pI, pL, pR, pV, i10, ↓reduceIte, eM_laySpeeds_11]
    simp only [ile, k60, h1]
    rw [if_neg (by omega)]
    refine sM_goOn o1 (MEv hF hE) hc o2 hz (by rw [ht]; omega) (fun y => ?_) (fun y σ2 hF2 hc2 hw hf ht2 hsum hz2 => ?_)
    · simp only [pI, pL, pR, pV, i10, ↓reduceIte, eM_laySpeeds_21, eM_laySpeeds_90]
      have e := s1 y
      exact hM_laySpeeds_11 _ _ _ _ _ (ih (i + 1) σ (x1 + 1) _ (by omega) h11 hF (by rw [e]; exact hc) (by rw [e]; exact ht) hz (by rw [e]; exact h35) (by rw [e]; exact hs))
    · have e := (s2 (by omega)).1
      obtain ⟨p1, p2, p3, p4, p5, p6, p7⟩ := passF_ok o1 o2 (by omega)
      have hF2v := hF.tr (FVyg hF2)
      have e35 : inS FMg 120 35 = false := by decide
      have r35 : (gI σ2 120 35).toInt = canN c i := by rw [hF2.1 _ _ e35]; exact h35
      have hix : ix (gI σ2 120 35) = canN c i := ix_of r35
      have hfo : (gI σ2 120 26).toInt = (passF E (pasN E c (canN c i))).2.2.1 := hf
      have hwi : (gI σ2 120 25).toInt = (passF E (pasN E c (canN c i))).2.1 := hw
      have e1 : (1 + gI σ2 120 26).toInt = 1 + (passF E (pasN E c (canN c i))).2.2.1 := by rw [tP (by rw [hfo, tl1]; omega), hfo, tl1]
      have fin : ∀ x2 : Int32, x2.toInt = spd E c (canN c i) → bM_laySpeeds_70 true NOB (wp true (d + 11)) Φ (kM_laySpeeds (d + 11) Φ) [.ref 120, .int x1, .int x2] [] σ2 := by
        intro x2 hx2
        simp only [pI, pL, pR, pV, i10, ↓reduceIte, eM_laySpeeds_70]
        refine ⟨⟨by omega, by omega⟩, ?_⟩
        simp only [pI, pL, pR, pV, i10, ↓reduceIte, eM_laySpeeds_90]
        rw [hix]
        have r35b : (gI (sI σ2 133 (canN c i) x2) 120 35).toInt = canN c i := by rw [gIne (by omega)]; exact r35
        refine hM_laySpeeds_11 _ _ _ _ _ (ih (i + 1) _ (x1 + 1) _ (by omega) h11 (hF2v.tr ((Fr.sI (inS_r (lo := 0) (hi := 60) (List.mem_append_right _ (List.mem_cons_of_mem _ (List.mem_singleton.mpr rfl))) (by omega))).tr (Fr.sI (inS_r (lo := 35) (hi := 36) (List.mem_append_right _ List.mem_cons_self) (by omega))))) ?_ ?_ ?_ ?_ (fun k hk => ?_))
        · rw [e, mc_ne (by omega), mc_ne (by omega)]; exact hc2
        · rw [e, rdne2 (by omega), rdne (by omega), hsum, ht]; rfl
        · rw [rdne2 (by omega), rdne (by omega)]; exact hz2
        · rw [rdeq, tq1 _ (by rw [r35b]; omega), r35b, e]; omega
        · rw [e] at hk
          rw [rdne (by omega)]
          by_cases q : k = canN c i
          · subst q
            rw [rdeq, hx2]
          · rw [rdne2 q]
            have e133 : inS FMg 133 k = false := not_inS (fun e he z => by
              have : ∀ e, e ∈ FMg → e.1 ≠ 133 := by decide
              exact this e he z.1)
            rw [hF2.rd e133]
            exact hs k (by omega)
      unfold spd spV at fin
      generalize passF E (pasN E c (canN c i)) = P at *
      have cw : (gI σ2 120 25 = -1) = (P.2.1 = -1) := by rw [ieq, hwi]; rfl
      simp only [pI, pL, pR, pV, i10, ↓reduceIte, eM_laySpeeds_21, eM_laySpeeds_27]
      simp only [cw]
      split
      next z =>
        exact fin _ (by rw [if_neg (fun q => q.1 z), e1]; omega)
      next z =>
        have hN6 := hO.1
        have hw0 : 0 ≤ P.2.1 ∧ P.2.1 < eN E := by omega
        have hwx : ix (gI σ2 120 25) = P.2.1.toNat := ixv hwi
        refine sM_get (12 + 8 * ix (gI σ2 120 25) + 0) (j := 0) rfl rfl (by omega) (by omega) (fun v hv => ?_)
        have hq : v.toInt = eQ E P.2.1.toNat := by
          rw [hv, hwx]
          exact (MEv hF2v hE).2.2.1 _ (by omega)
        simp only [pI, pL, pR, pV, i10, ↓reduceIte, eM_laySpeeds_51]
        simp only [ile, hq, k2]
        have e2 : ((1 + gI σ2 120 26) / 2).toInt = (1 + P.2.2.1) / 2 := by rw [tDt (by rw [k2]; omega), e1, k2, Int.tdiv_eq_ediv_of_nonneg (by omega)]
        split
        next y2 => exact fin _ (by rw [if_neg (fun q => by omega), e1]; omega)
        next y2 =>
          refine ⟨by decide, ?_⟩
          simp only [e2, tl1]
          split
          next u =>
            simp only [pI, pL, pR, pV, i10, ↓reduceIte, eM_laySpeeds_66, eM_laySpeeds_69]
            exact ⟨by decide, fin _ (by rw [if_pos ⟨z, by omega⟩, e2]; omega)⟩
          next u =>
            simp only [pI, pL, pR, pV, i10, ↓reduceIte, eM_laySpeeds_69]
            exact fin _ (by rw [if_pos ⟨z, by omega⟩, tl1]; omega)
def bg (r : Nat) : Int := if r = 61 then 1000000000 else r
theorem bg_le {x y : Nat} (hx : x ≤ 61) (hy : y ≤ 61) : (bg x ≤ bg y) = (x ≤ y) := by
  unfold bg
  refine propext ?_
  split <;> split <;> omega
theorem bg_eq {x y : Nat} (hx : x ≤ 61) (hy : y ≤ 61) : (bg x = bg y) = (x = y) := by
  unfold bg
  refine propext ?_
  split <;> split <;> omega
theorem bg_61 {x : Nat} (hx : x ≤ 61) : (bg x = 1000000000) = (x = 61) := by
  unfold bg
  refine propext ?_
  split <;> omega
theorem bg_n {x : Nat} (hx : x ≠ 61) : bg x = x := if_neg hx
def VyM (t : Nat → Nat) (σ : Sg) : Prop := ∀ k, k < 6 → rd σ 134 k = bg (t k)
def SpM (E : En) (c : Co) (σ : Sg) : Prop := rd σ 120 35 = canN c 60 ∧ ∀ k, k < canN c 60 → rd σ 133 k = spd E c k
def VSm (lws : Lws) (E : En) (c : Co) (a : Nat → Int) (t : Nat → Nat) (σ0 σ : Sg) : Prop := Fi MS σ0 σ ∧ Wd lws E c a σ ∧ SpM E c σ ∧ VyM t σ
theorem VyM.put {t : Nat → Nat} {σ : Sg} {v : Nat} {r : Int32} {R : Nat} (h : VyM t σ) (hr : r.toInt = bg R) : VyM (upn t v R) (sI σ 134 v r) := fun k hk => by
  by_cases e : k = v
  · subst e
    rw [rdeq, hr, upn_eq]
  · rw [rdne2 e, upn_ne e]
    exact h k hk
theorem SpM.put {E : En} {c : Co} {σ : Sg} {v : Nat} {r : Int32} (h : SpM E c σ) : SpM E c (sI σ 134 v r) := ⟨by rw [rdne (by omega)]; exact h.1, fun k hk => by rw [rdne (by omega)]; exact h.2 k hk⟩
theorem VSm.put {lws : Lws} {E : En} {c : Co} {a : Nat → Int} {t : Nat → Nat} {σ0 σ : Sg} {v : Nat} {r : Int32} {R : Nat} (h : VSm lws E c a t σ0 σ) (hv : v < 6) (hr : r.toInt = bg R) : VSm lws E c a (upn t v R) σ0 (sI σ 134 v r) := by
  obtain ⟨h1, h2, h3, h4⟩ := h
  have hF : Fr MS σ (sI σ 134 v r) := Fr.sI (inS_r (lo := 0) (hi := 6) (by decide) ⟨Nat.zero_le _, hv⟩)
  exact ⟨h1.tr hF.fi, h2.m hF.fi, h3.put, h4.put hr⟩
theorem lM_reached {d : Nat} {Φ : Po} {E : En} {c : Co} {x1 x2 : Int32} {σ : Sg} {R : Nat} (hO : Ok E c) (hT : TkOk E c) (hS : SpM E c σ) (h : ∀ v : Int32, v.toInt = bg R → Φ (some (.int v)) σ) :
    ∀ (n i : Nat) (x3 x4 : Int32) (l : Int), n = canN c 60 - i → i ≤ 60 → x4.toInt = i → x3.toInt = l → -10 ≤ l ∧ l ≤ 99 → rch (spd E c) n i l = R → bM_reached_5 true NOB (wp true d) Φ (kM_reached d Φ) [.ref 120, .int x1, .int x2, .int x3, .int x4] [] σ := by
  have hl := canN_le (n := 60) hO.2.2.1
  have hS1 : (gI σ 120 35).toInt = canN c 60 := hS.1
  intro n
  induction n with
  | zero =>
    intro i x3 x4 l hn hi h4 h3 hl3 hR
    simp only [pI, pL, pR, pV, i10, ↓reduceIte, eM_reached_5]
    simp only [ile, hS1, h4]
    rw [if_pos (by omega)]
    simp only [pI, pL, pR, pV, i10, ↓reduceIte, eM_reached_39]
    refine h _ ?_
    have hR : 61 = R := hR
    rw [← hR]
    rfl
  | succ n ih =>
    intro i x3 x4 l hn hi h4 h3 hl3 hR
    have hix : ix x4 = i := ix_of h4
    have hsp : (gI σ 133 i).toInt = spd E c i := hS.2 i (by omega)
    have hb := spd_b hO hT (n := i) (by omega)
    have hR : (if l - spd E c i ≤ 0 then i + 1 else rch (spd E c) n (i + 1) (l - spd E c i)) = R := hR
    have em : (x3 - gI σ 133 i).toInt = l - spd E c i := by rw [tM (by rw [h3, hsp]; omega), h3, hsp]
    have h41 : (x4 + 1).toInt = ((i + 1 : Nat) : Int) := by rw [tq1 x4 (by omega), h4]; omega
    simp only [pI, pL, pR, pV, i10, ↓reduceIte, eM_reached_5]
    simp only [ile, hS1, h4]
    rw [if_neg (by omega), hix]
    refine ⟨⟨by omega, by omega⟩, ?_⟩
    simp only [ilt, em, tl0]
    split
    next z =>
      rw [if_neg (by omega)] at hR
      simp only [pI, pL, pR, pV, i10, ↓reduceIte, eM_reached_33]
      exact hM_reached_5 _ _ _ _ _ (ih (i + 1) _ _ (l - spd E c i) (by omega) (by omega) h41 em (by omega) hR)
    next z =>
      rw [if_pos (by omega)] at hR
      exact h _ (by rw [h41, ← hR, bg_n (by omega)])
theorem sM_arrival {d : Nat} {Φ : Po} {lws : Lws} {E : En} {c : Co} {a : Nat → Int} {t : Nat → Nat} {u v : Int32} {σ : Sg} (g : Wd lws E c a σ) (hS : SpM E c σ) (ht : VyM t σ) (ht61 : ∀ x, t x ≤ 61) (hu : 0 ≤ u.toInt ∧ u.toInt < eV E) (hv : 0 ≤ v.toInt ∧ v.toInt < eV E) (h : ∀ l : Int32, l.toInt = bg (fAr E c a (ix u) (ix v) (t (ix u))) → Φ (some (.int l)) σ) : wp true (d + 2) nM_arrival [.ref 120, .int u, .int v] σ Φ := by
  obtain ⟨hO, -, -, -, -, hT⟩ := g.all
  have n6 := g.nv.2.2.2.2.2.2.2
  have hux := ix_to hu.1
  have hvx := ix_to hv.1
  have hwb := ways_b g (u := ix u) (v := ix v) (by omega) (by omega)
  have e : (84 + 6 * u + v).toInt = 84 + 6 * ix u + ix v := by
    simp only [ta, tm, Int32.reduceToInt]
    omega
  have ex : ix (84 + 6 * u + v) = 84 + 6 * ix u + ix v := ix_of (by omega)
  have hw : (gI σ 121 (84 + 6 * ix u + ix v)).toInt = ways a (ix u) (ix v) := by
    obtain ⟨-, -, -, rfl⟩ := g
    rfl
  have htu : (gI σ 134 (ix u)).toInt = bg (t (ix u)) := ht _ (by omega)
  have hb61 := ht61 (ix u)
  have cl : (gI σ 121 (84 + 6 * ix u + ix v) = 0) = (ways a (ix u) (ix v) = 0) := by rw [ieq, hw]; rfl
  have ct : (gI σ 134 (ix u) = 1000000000) = (t (ix u) = 61) := by
    simp only [ieq, htu, show (1000000000 : Int32).toInt = 1000000000 from rfl]
    exact bg_61 hb61
  unfold fAr arr at h
  have far : bg (if ways a (ix u) (ix v) = 0 then 61 else rch (spd E c) (canN c 60 - t (ix u)) (t (ix u)) (ways a (ix u) (ix v))) = 1000000000 → ∀ x3 : Int32, bM_arrival_31 true NOB (wp true (d + 1)) Φ (kM_arrival (d + 1) Φ) [.ref 120, .int u, .int v, .int x3] [] σ := fun q x3 => by
    simp only [pI, pL, pR, pV, i10, ↓reduceIte, eM_arrival_31, eM_arrival_48]
    exact h _ (by rw [q]; rfl)
  apply wM_arrival
  simp only [pI, pL, pR, pV, i10, ↓reduceIte, eM_arrival_0]
  rw [ex]
  refine ⟨⟨by omega, by omega⟩, ?_⟩
  simp only [cl, ct]
  split
  next z => exact far (by rw [if_pos z]; rfl) _
  next z =>
    refine ⟨⟨by omega, by omega⟩, ?_⟩
    split
    next y =>
      refine far ?_ _
      have := canN60 (c := c)
      rw [if_neg z, y, show canN c 60 - 61 = 0 from by omega]
      rfl
    next y =>
      rw [if_neg z] at h
      simp only [pI, pL, pR, pV, i10, ↓reduceIte, eM_arrival_37]
      refine ⟨⟨by omega, by omega⟩, ?_⟩
      apply wM_reached
      simp only [pI, pL, pR, pV, i10, ↓reduceIte, eM_reached_0]
      rw [bg_n y] at htu
      refine lM_reached hO hT hS (fun r hr => ?_) _ (t (ix u)) _ _ _ rfl (by omega) htu hw (by omega) rfl
      simp only [pI, pL, pR, pV, i10, ↓reduceIte, eM_arrival_48]
      exact h r hr
theorem upn_id {t : Nat → Nat} {v : Nat} : upn t v (t v) = t := by
  funext x
  by_cases e : x = v
  · subst e; exact upn_eq
  · exact upn_ne e
