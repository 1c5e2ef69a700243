/-! NEXT VANE: the reference's answers; which villages were read -/
theorem sM_answers {d : Nat} {Φ : Po} {lws : Lws} {E : En} {c : Co} {a : Nat → Int} {v : Int32} {σ : Sg} (g : Wd lws E c a σ) (hv : 0 ≤ v.toInt ∧ v.toInt < eV E) (h : ∀ (σ' : Sg) (r : Int32), Fr FZm σ σ' → r.toInt = (ansS E c a (ix v) (9 * eN E)).2 → Φ (some (.int r)) σ') : wp true (d + 8) nM_answers [.ref 120, .int v] σ Φ := by
  have f135 : ∀ k, k < 100 → inS FML 135 k = false := fun k _ => not_inS (fun e he z => by
    have : ∀ e, e ∈ FML → e.1 ≠ 135 := by decide
    exact this e he z.1)
  have k9 : (10 : Int32).toInt = 10 := rfl
  have inner : ∀ (w : Nat) (xw : Int32), xw.toInt = w → w < eN E → (∀ (σ' : Sg) (s x4 : Int32), Fr FZm σ σ' → s.toInt = (ansS E c a (ix v) (9 * (w + 1))).2 → Sn 135 (ansS E c a (ix v) (9 * (w + 1))).1 σ' → bM_answers_97 true NOB (wp true (d + 7)) Φ (kM_answers (d + 7) Φ) [.ref 120, .int v, .int s, .int xw, .int x4] [] σ') →
      ∀ (n m : Nat) (σ' : Sg) (s x4 : Int32), m + n = 9 → x4.toInt = m + 1 → Fr FZm σ σ' → s.toInt = (ansS E c a (ix v) (9 * w + m)).2 → Sn 135 (ansS E c a (ix v) (9 * w + m)).1 σ' → bM_answers_38 true NOB (wp true (d + 7)) Φ (kM_answers (d + 7) Φ) [.ref 120, .int v, .int s, .int xw, .int x4] [] σ' := by
    intro w xw hxw hw K n
    have hn6 := g.nv.2.2.2.2.2.2.1
    have hix : ix xw = w := ix_of hxw
    induction n with
    | zero =>
      intro m σ' s x4 hm hx hF hs hS
      simp only [pI, pL, pR, pV, i10, ↓reduceIte, eM_answers_38]
      simp only [ile, k9, hx]
      rw [if_pos (by omega)]
      obtain rfl : m = 9 := by omega
      exact K σ' s x4 hF hs hS
    | succ n ih =>
      intro m σ' s x4 hm hx hF hs hS
      have g1 : Wd lws E c a σ' := g.m (FZmm hF).fi
      have hb := ansS_b (E := E) (c := c) (a := a) (v := ix v) (9 * w + m)
      have hx1 : (x4 + 1).toInt = ((m + 1 : Nat) : Int) + 1 := by rw [tq1 x4 (by omega), hx]; omega
      have hd : (9 * w + m) / 9 = w := by omega
      have hmm : (9 * w + m) % 9 = m := by omega
      have ef : x4.toInt = ((m + 1 : Nat) : Int) := by omega
      have eS : ansS E c a (ix v) (9 * w + (m + 1)) = if fitF E c a w ((m + 1 : Nat) : Int) = true ∧ (ansS E c a (ix v) (9 * w + m)).1 (takesF E c w (ix v) ((m + 1 : Nat) : Int)).toNat = false then ((fun k => if k = (takesF E c w (ix v) ((m + 1 : Nat) : Int)).toNat then true else (ansS E c a (ix v) (9 * w + m)).1 k), (ansS E c a (ix v) (9 * w + m)).2 + 1) else ansS E c a (ix v) (9 * w + m) := by
        rw [← Nat.add_assoc]
        show (if fitF E c a ((9 * w + m) / 9) (((9 * w + m) % 9 + 1 : Nat) : Int) = true ∧ _ then _ else _) = _
        rw [hd, hmm]
      simp only [pI, pL, pR, pV, i10, ↓reduceIte, eM_answers_38]
      simp only [ile, k9, hx]
      rw [if_neg (by omega)]
      have skip : ∀ σ2 : Sg, Fr FZm σ σ2 → Sn 135 (ansS E c a (ix v) (9 * w + m)).1 σ2 → ansS E c a (ix v) (9 * w + (m + 1)) = ansS E c a (ix v) (9 * w + m) → bM_answers_91 true NOB (wp true (d + 7)) Φ (kM_answers (d + 7) Φ) [.ref 120, .int v, .int s, .int xw, .int x4] [] σ2 := by
        intro σ2 hF2 hS2 e
        simp only [pI, pL, pR, pV, i10, ↓reduceIte, eM_answers_91]
        exact hM_answers_38 _ _ _ _ _ (ih (m + 1) _ s (x4 + 1) (by omega) hx1 hF2 (by rw [e]; exact hs) (by rw [e]; exact hS2))
      refine sM_fits g1 (by omega) (by omega) (fun σ1 b hF1 hb1 => ?_)
      rw [hix, ef] at hb1
      have hS1 := Sn.fr hF1 f135 hS
      have hF1z : Fr FZm σ σ1 := hF.tr (hF1.mo (fun e he => List.mem_append_left _ he))
      have g2 : Wd lws E c a σ1 := g.m (FZmm hF1z).fi
      obtain ⟨hO, -, -, hE, hc, -⟩ := g2.all
      have c0 : (b = 0) = (b.toInt = 0) := by rw [ieq]; rfl
      simp only [pI, pL, pR, pV, i10, ↓reduceIte, eM_answers_52]
      simp only [c0, hb1]
      cases hfit : fitF E c a w ((m + 1 : Nat) : Int) with
      | false =>
        try rw [if_pos rfl]
        exact skip σ1 hF1z hS1 (by rw [eS, if_neg (fun q => by rw [hfit] at q; cases q.1)])
      | true =>
        try rw [if_neg (by decide)]
        refine sM_takesOf hO hE hc (by omega) hv (by omega) (fun σ2 r hF2 hr => ?_)
        rw [hix, ef] at hr
        have hr99 := takes_r (E := E) (c := c) (w := w) (v := ix v) (f := ((m + 1 : Nat) : Int))
        have hir : ix r = (takesF E c w (ix v) ((m + 1 : Nat) : Int)).toNat := ixv hr
        have hS2 := Sn.fr hF2 f135 hS1
        have hF2z : Fr FZm σ σ2 := hF1z.tr (hF2.mo (fun e he => List.mem_append_left _ he))
        have g3 : Wd lws E c a σ2 := g.m (FZmm hF2z).fi
        obtain ⟨hO3, -, -, hE3, hc3, -⟩ := g3.all
        simp only [pI, pL, pR, pV, i10, ↓reduceIte, eM_answers_67]
        rw [hir]
        have hT99 : (takesF E c w (ix v) ((m + 1 : Nat) : Int)).toNat < 100 := by omega
        have cT : (gI σ2 135 (takesF E c w (ix v) ((m + 1 : Nat) : Int)).toNat = 0) = ((ansS E c a (ix v) (9 * w + m)).1 (takesF E c w (ix v) ((m + 1 : Nat) : Int)).toNat = false) := by
          simp only [ieq, hS2 _ hT99, tl0]
          cases (ansS E c a (ix v) (9 * w + m)).1 (takesF E c w (ix v) ((m + 1 : Nat) : Int)).toNat <;> simp [bi]
        simp only [cT]
        refine ⟨⟨by omega, by omega⟩, ?_⟩
        split
        next y =>
          rw [if_pos ⟨hfit, y⟩] at eS
          simp only [pI, pL, pR, pV, i10, ↓reduceIte, eM_answers_74]
          refine sM_takesOf hO3 hE3 hc3 (by omega) hv (by omega) (fun σ3 r3 hF3 hr3 => ?_)
          rw [hix, ef] at hr3
          have hir3 : ix r3 = (takesF E c w (ix v) ((m + 1 : Nat) : Int)).toNat := ixv hr3
          have hS3 := Sn.fr hF3 f135 hS2
          have hF3z : Fr FZm σ σ3 := hF2z.tr (hF3.mo (fun e he => List.mem_append_left _ he))
          simp only [pI, pL, pR, pV, i10, ↓reduceIte, eM_answers_86, eM_answers_91]
          rw [hir3]
          refine ⟨⟨by omega, by omega⟩, hM_answers_38 _ _ _ _ _ (ih (m + 1) _ (s + 1) (x4 + 1) (by omega) hx1 (hF3z.tr (Fr.sI (inS_r (lo := 0) (hi := 100) (by simp) (by omega)))) ?_ ?_)⟩
          · rw [eS, tq1 s (by omega), hs]
            show _ = (((ansS E c a (ix v) (9 * w + m)).2 + 1 : Nat) : Int)
            omega
          · rw [eS]
            exact hS3.put
        next y =>
          exact skip σ2 hF2z hS2 (by rw [eS, if_neg (fun q => y q.2)])
  have outer : ∀ (n w : Nat) (σ' : Sg) (s xw : Int32) (v4 : Value), w + n = eN E → xw.toInt = w → Fr FZm σ σ' → s.toInt = (ansS E c a (ix v) (9 * w)).2 → Sn 135 (ansS E c a (ix v) (9 * w)).1 σ' → bM_answers_25 true NOB (wp true (d + 7)) Φ (kM_answers (d + 7) Φ) [.ref 120, .int v, .int s, .int xw, v4] [] σ' := by
    have hn6 := g.nv.2.2.2.2.2.2.1
    intro n
    induction n with
    | zero =>
      intro w σ' s xw v4 hw hx hF hs hS
      have n1 : (gI σ' 121 (ix 0)).toInt = eN E := (g.m (FZmm hF).fi).nv.2.2.1
      simp only [pI, pL, pR, pV, i10, ↓reduceIte, eM_answers_25, eM_answers_103]
      simp only [ile, n1, hx]
      rw [if_pos (by omega)]
      obtain rfl : w = eN E := by omega
      exact ⟨⟨by decide, by decide⟩, h σ' s hF hs⟩
    | succ n ih =>
      intro w σ' s xw v4 hw hx hF hs hS
      have n1 : (gI σ' 121 (ix 0)).toInt = eN E := (g.m (FZmm hF).fi).nv.2.2.1
      simp only [pI, pL, pR, pV, i10, ↓reduceIte, eM_answers_25]
      simp only [ile, n1, hx]
      rw [if_neg (by omega)]
      refine ⟨⟨by decide, by decide⟩, ?_⟩
      refine inner w xw hx (by omega) (fun σ2 s2 x4 hF2 hs2 hS2 => ?_) 9 0 σ' s 1 rfl rfl hF hs hS
      simp only [pI, pL, pR, pV, i10, ↓reduceIte, eM_answers_97]
      exact hM_answers_25 _ _ _ _ _ (ih (w + 1) σ2 s2 (xw + 1) _ (by omega) (by rw [tq1 xw (by omega), hx]; omega) hF2 hs2 hS2)
  have clr : ∀ (n : Nat) (σ' : Sg) (x : Int32), x.toInt + n = 100 → 0 ≤ x.toInt → Fr FZm σ σ' → (∀ k : Nat, (k : Int) < x.toInt → gI σ' 135 k = 0) → bM_answers_2 true NOB (wp true (d + 7)) Φ (kM_answers (d + 7) Φ) [.ref 120, .int v, .int x, .retAddr 0, .retAddr 0] [] σ' := by
    intro n
    induction n with
    | zero =>
      intro σ' x hx h0 hF hk
      simp only [pI, pL, pR, pV, i10, ↓reduceIte, eM_answers_2]
      simp only [ile, show (100 : Int32).toInt = 100 from rfl]
      rw [if_pos (by omega)]
      simp only [pI, pL, pR, pV, i10, ↓reduceIte, eM_answers_21]
      exact outer (eN E) 0 σ' 0 0 _ (by omega) rfl hF rfl (fun k hk2 => by rw [hk k (by omega)]; rfl)
    | succ n ih =>
      intro σ' x hx h0 hF hk
      simp only [pI, pL, pR, pV, i10, ↓reduceIte, eM_answers_2]
      simp only [ile, show (100 : Int32).toInt = 100 from rfl]
      rw [if_neg (by omega)]
      have hxx := ix_to h0
      refine ⟨⟨by omega, by omega⟩, hM_answers_2 _ _ _ _ _ (ih _ (x + 1) (by rw [tq1 x (by omega)]; omega) (by rw [tq1 x (by omega)]; omega) (hF.tr (Fr.sI (inS_r (lo := 0) (hi := 100) (by simp) (by omega)))) (fun k hk2 => ?_))⟩
      rw [tq1 x (by omega)] at hk2
      by_cases e : k = ix x
      · rw [e, gIeq]
      · rw [gIne2 e]
        exact hk k (by omega)
  apply wM_answers
  simp only [pI, pL, pR, pV, i10, ↓reduceIte, eM_answers_0]
  exact clr 100 σ 0 rfl (by decide) Fr.rf (fun k hk => by rw [tl0] at hk; omega)
def tokB (a : Nat → Int) (v : Int) : Nat → Bool
  | 0 => false
  | n + 1 => tokB a v n || decide (a (120 + 2 * n) = v)
theorem tokB_up {a : Nat → Int} {v : Int} {m : Nat} (h : a (120 + 2 * m) = v) : ∀ n, m < n → tokB a v n = true
  | 0, hn => by omega
  | n + 1, hn => by
    show (tokB a v n || decide (a (120 + 2 * n) = v)) = true
    by_cases e : m = n
    · subst e; rw [decide_eq_true h, Bool.or_true]
    · rw [tokB_up h n (by omega), Bool.true_or]
theorem lZ_tok {d : Nat} {Φ : Po} {lws : Lws} {E : En} {c : Co} {a : Nat → Int} {v : Int32} {σ : Sg} (g : Wd lws E c a σ) (h : ∀ r : Int32, r.toInt = bi (tokB a v.toInt (a 5).toNat) → Φ (some (.int r)) σ) :
    ∀ (n m : Nat) (x : Int32), (m : Int) + n = a 5 → x.toInt = m → tokB a v.toInt m = false → bZ_isTookOf_2 true NOB (wp true d) Φ (kZ_isTookOf d Φ) [.ref 115, .int v, .int x] [] σ
  | 0, m, x, hm, hx, hb => by
    obtain ⟨u1, u2, u3, u4, u5⟩ := g.took
    simp only [pI, pL, pR, pV, i10, ↓reduceIte, eZ_isTookOf_2, eZ_isTookOf_34]
    simp only [ile, u1, hx]
    rw [if_pos (by omega)]
    refine h _ ?_
    rw [show (a 5).toNat = m from by omega, hb]
    rfl
  | n + 1, m, x, hm, hx, hb => by
    obtain ⟨u1, u2, u3, u4, u5⟩ := g.took
    simp only [pI, pL, pR, pV, i10, ↓reduceIte, eZ_isTookOf_2]
    have hix : ix x = m := ix_of hx
    simp only [ile, u1, hx]
    rw [if_neg (by omega), hix]
    have cv : (gI σ 37 m = v) = (a (120 + 2 * m) = v.toInt) := by rw [ieq, (u3 m (by omega)).1]
    simp only [cv]
    refine ⟨⟨by omega, by omega⟩, ?_⟩
    split
    next z => exact h _ (by rw [tokB_up z _ (by omega)]; rfl)
    next z =>
      simp only [pI, pL, pR, pV, i10, ↓reduceIte, eZ_isTookOf_28]
      refine hZ_isTookOf_2 _ _ _ _ _ (lZ_tok g h n (m + 1) (x + 1) (by omega) (by rw [tq1 x (by omega), hx]; omega) ?_)
      show (tokB a v.toInt m || decide _) = false
      rw [hb, decide_eq_false z]
      rfl
theorem sZ_tok {d : Nat} {Φ : Po} {lws : Lws} {E : En} {c : Co} {a : Nat → Int} {v : Int32} {σ : Sg} (g : Wd lws E c a σ) (h : ∀ r : Int32, r.toInt = bi (tokB a v.toInt (a 5).toNat) → Φ (some (.int r)) σ) : wp true (d + 1) nZ_isTookOf [.ref 115, .int v] σ Φ := by
  apply wZ_isTookOf
  simp only [pI, pL, pR, pV, i10, ↓reduceIte, eZ_isTookOf_0]
  have := g.took.2.1
  exact lZ_tok g h (a 5).toNat 0 0 (by omega) rfl rfl
theorem lM_tok {d : Nat} {Φ : Po} {lws : Lws} {E : En} {c : Co} {a : Nat → Int} {v : Int32} {σ : Sg} (g : Wd lws E c a σ) (h : ∀ r : Int32, r.toInt = bi (tokB a v.toInt (a 5).toNat) → Φ (some (.int r)) σ) :
    ∀ (n m : Nat) (x : Int32), (m : Int) + n = a 5 → x.toInt = m → tokB a v.toInt m = false → bM_isRead_2 true NOB (wp true d) Φ (kM_isRead d Φ) [.ref 120, .int v, .int x] [] σ
  | 0, m, x, hm, hx, hb => by
    obtain ⟨u1, u2, u3, u4, u5⟩ := g.took
    simp only [pI, pL, pR, pV, i10, ↓reduceIte, eM_isRead_2, eM_isRead_35]
    have e5 : (gI σ 121 (ix 5)).toInt = a 5 := u5 5
    simp only [ile, e5, hx]
    rw [if_pos (by omega)]
    refine ⟨⟨by decide, by decide⟩, h _ ?_⟩
    rw [show (a 5).toNat = m from by omega, hb]
    rfl
  | n + 1, m, x, hm, hx, hb => by
    obtain ⟨u1, u2, u3, u4, u5⟩ := g.took
    simp only [pI, pL, pR, pV, i10, ↓reduceIte, eM_isRead_2]
    have e5 : (gI σ 121 (ix 5)).toInt = a 5 := u5 5
    have ep : (120 + 2 * x).toInt = 120 + 2 * x.toInt := by
      simp only [ta, tm, Int32.reduceToInt]
      omega
    have epx : ix (120 + 2 * x) = 120 + 2 * m := ix_of (by omega)
    simp only [ile, e5, hx]
    rw [if_neg (by omega), epx]
    have cv : (gI σ 121 (120 + 2 * m) = v) = (a (120 + 2 * m) = v.toInt) := by rw [ieq, u5]
    simp only [cv]
    refine ⟨⟨by decide, by decide⟩, ⟨by omega, by omega⟩, ?_⟩
    split
    next z => exact h _ (by rw [tokB_up z _ (by omega)]; rfl)
    next z =>
      simp only [pI, pL, pR, pV, i10, ↓reduceIte, eM_isRead_29]
      refine hM_isRead_2 _ _ _ _ _ (lM_tok g h n (m + 1) (x + 1) (by omega) (by rw [tq1 x (by omega), hx]; omega) ?_)
      show (tokB a v.toInt m || decide _) = false
      rw [hb, decide_eq_false z]
      rfl
theorem sM_tok {d : Nat} {Φ : Po} {lws : Lws} {E : En} {c : Co} {a : Nat → Int} {v : Int32} {σ : Sg} (g : Wd lws E c a σ) (h : ∀ r : Int32, r.toInt = bi (tokB a v.toInt (a 5).toNat) → Φ (some (.int r)) σ) : wp true (d + 1) nM_isRead [.ref 120, .int v] σ Φ := by
  apply wM_isRead
  simp only [pI, pL, pR, pV, i10, ↓reduceIte, eM_isRead_0]
  have := g.took.2.1
  exact lM_tok g h (a 5).toNat 0 0 (by omega) rfl rfl
def vanS (E : En) (c : Co) (a : Nat → Int) : Nat → Int × Nat
  | 0 => (-1, 0)
  | v + 1 => if tokB a v (a 5).toNat = false ∧ (vanS E c a v).2 < (ansS E c a v (9 * eN E)).2 then ((v : Int), (ansS E c a v (9 * eN E)).2) else vanS E c a v
theorem p_vane : PairI Rel nX_vane nM_vane [] := by
  refine qryJ (fun E c a => (vanS E c a (eV E)).1) (fun lws σ Φ hR h => ?_) (fun lws σ Φ hR h => ?_)
  · apply wX_vane
    simp only [pI, pL, pR, pV, i10, ↓reduceIte, eX_vane_0]
    apply wZ_nextVane
    simp only [pI, pL, pR, pV, i10, ↓reduceIte, eZ_nextVane_0]
    have g0 := Wd.i hR
    generalize EE lws σ = E at h g0
    generalize mc σ 121 = c at h g0
    generalize rd σ 121 = a at h g0
    obtain ⟨-, -, -, -, -, -, n6, v6⟩ := g0.nv
    have f117 : ∀ w, inS FZ 117 w = false := fun w => not_inS (fun e he z => by
      have : ∀ e, e ∈ FZ → e.1 ≠ 117 := by decide
      exact this e he z.1)
    have g117 : ∀ w, inS F109 117 w = false := fun w => not_inS (fun e he z => by
      have : ∀ e, e ∈ F109 → e.1 ≠ 117 := by decide
      exact this e he z.1)
    have out : ∀ (n m : Nat) (σ' : Sg) (b s x : Int32) (v4 : Value), m + n = eV E → x.toInt = m → Fr XS σ σ' → Ft E c a (eN E) σ' → b.toInt = (vanS E c a m).1 → s.toInt = (vanS E c a m).2 → bZ_nextVane_36 true NOB (wp true 11) (pI (bX_vane_7 true NOB (wp true 12) Φ (kX_vane 12 Φ)) [.ref 0] []) (kZ_nextVane 11 (pI (bX_vane_7 true NOB (wp true 12) Φ (kX_vane 12 Φ)) [.ref 0] [])) [.ref 115, .int b, .int s, .int x, v4] [] σ' := by
      intro n
      induction n with
      | zero =>
        intro m σ' b s x v4 hm hx hF hft hb hs
        have g := g0.x hF.fi
        obtain ⟨-, n1, -⟩ := g.nv
        simp only [pI, pL, pR, pV, i10, ↓reduceIte, eZ_nextVane_36, eZ_nextVane_83]
        simp only [ile, n1, hx]
        rw [if_pos (by omega)]
        obtain rfl : m = eV E := by omega
        simp only [pI, pL, pR, pV, i10, ↓reduceIte, eX_vane_7]
        exact h _ _ hF.fi hb
      | succ n ih =>
        intro m σ' b s x v4 hm hx hF hft hb hs
        have g := g0.x hF.fi
        obtain ⟨-, n1, -⟩ := g.nv
        have hix : ix x = m := ix_of hx
        have hx1 : (x + 1).toInt = ((m + 1 : Nat) : Int) := by rw [tq1 x (by omega), hx]; omega
        have eS : vanS E c a (m + 1) = if tokB a m (a 5).toNat = false ∧ (vanS E c a m).2 < (ansS E c a m (9 * eN E)).2 then ((m : Int), (ansS E c a m (9 * eN E)).2) else vanS E c a m := rfl
        simp only [pI, pL, pR, pV, i10, ↓reduceIte, eZ_nextVane_36]
        simp only [ile, n1, hx]
        rw [if_neg (by omega)]
        refine sZ_tok g (fun r hr => ?_)
        rw [hx] at hr
        have c0 : (r = 0) = (r.toInt = 0) := by rw [ieq]; rfl
        simp only [pI, pL, pR, pV, i10, ↓reduceIte, eZ_nextVane_52]
        simp only [c0, hr]
        cases hq : tokB a (m : Int) (a 5).toNat with
        | true =>
          try rw [if_neg (by decide)]
          simp only [pI, pL, pR, pV, i10, ↓reduceIte, eZ_nextVane_64]
          rw [if_neg (fun q => by rw [hq] at q; cases q.1)] at eS
          simp only [ile, hs, show (0 : Int32).toInt = 0 from rfl]
          rw [if_pos (by omega)]
          simp only [pI, pL, pR, pV, i10, ↓reduceIte, eZ_nextVane_77]
          exact hZ_nextVane_36 _ _ _ _ _ (ih (m + 1) σ' b s (x + 1) _ (by omega) hx1 hF hft (by rw [eS]; exact hb) (by rw [eS]; exact hs))
        | false =>
          try rw [if_pos rfl]
          simp only [pI, pL, pR, pV, i10, ↓reduceIte, eZ_nextVane_59]
          refine sZ_unlike g hft (by omega) (fun σ1 r1 hF1 hr1 => ?_)
          rw [hix] at hr1
          have hft1 : Ft E c a (eN E) σ1 := fun w hw => by rw [hF1.1 _ _ (f117 w)]; exact hft w hw
          simp only [pI, pL, pR, pV, i10, ↓reduceIte, eZ_nextVane_64]
          simp only [ile, hs, hr1]
          split
          next z =>
            rw [if_neg (fun q => by omega)] at eS
            simp only [pI, pL, pR, pV, i10, ↓reduceIte, eZ_nextVane_77]
            exact hZ_nextVane_36 _ _ _ _ _ (ih (m + 1) σ1 b s (x + 1) _ (by omega) hx1 (hF.tr (FZx hF1)) hft1 (by rw [eS]; exact hb) (by rw [eS]; exact hs))
          next z =>
            rw [if_pos ⟨hq, by omega⟩] at eS
            simp only [pI, pL, pR, pV, i10, ↓reduceIte, eZ_nextVane_77]
            exact hZ_nextVane_36 _ _ _ _ _ (ih (m + 1) σ1 x r1 (x + 1) _ (by omega) hx1 (hF.tr (FZx hF1)) hft1 (by rw [eS]; exact hx) (by rw [eS]; exact hr1))
    have fit : ∀ (n m : Nat) (σ' : Sg) (x : Int32), m + n = eN E → x.toInt = m → Fr XS σ σ' → Ft E c a m σ' → bZ_nextVane_2 true NOB (wp true 11) (pI (bX_vane_7 true NOB (wp true 12) Φ (kX_vane 12 Φ)) [.ref 0] []) (kZ_nextVane 11 (pI (bX_vane_7 true NOB (wp true 12) Φ (kX_vane 12 Φ)) [.ref 0] [])) [.ref 115, .int x, .retAddr 0, .retAddr 0, .retAddr 0] [] σ' := by
      intro n
      induction n with
      | zero =>
        intro m σ' x hm hx hF hft
        have g := g0.x hF.fi
        obtain ⟨n1, -⟩ := g.nv
        simp only [pI, pL, pR, pV, i10, ↓reduceIte, eZ_nextVane_2]
        simp only [ile, n1, hx]
        rw [if_pos (by omega)]
        obtain rfl : m = eN E := by omega
        simp only [pI, pL, pR, pV, i10, ↓reduceIte, eZ_nextVane_30]
        exact out (eV E) 0 σ' (-1) 0 0 _ (by omega) rfl hF hft rfl rfl
      | succ n ih =>
        intro m σ' x hm hx hF hft
        have g := g0.x hF.fi
        obtain ⟨n1, -⟩ := g.nv
        have hix : ix x = m := ix_of hx
        simp only [pI, pL, pR, pV, i10, ↓reduceIte, eZ_nextVane_2]
        simp only [ile, n1, hx]
        rw [if_neg (by omega)]
        refine sZ_str g (by omega) (fun σ1 hF1 => ?_)
        simp only [pI, pL, pR, pV, i10, ↓reduceIte, eZ_nextVane_23]
        rw [hix]
        refine ⟨⟨by omega, by omega⟩, hZ_nextVane_2 _ _ _ _ _ (ih (m + 1) _ (x + 1) (by omega) (by rw [tq1 x (by omega), hx]; omega) ((hF.tr (F109x hF1)).tr (Fr.sI (inS_r (lo := 0) (hi := 6) (by simp) (by omega)))) (fun w hw => ?_))⟩
        by_cases e : w = m
        · subst e
          exact gIeq
        · rw [gIne2 e, hF1.1 _ _ (g117 w)]
          exact hft w (by omega)
    exact fit (eN E) 0 σ 0 (by omega) rfl Fr.rf (fun w hw => by omega)
  · apply wM_vane
    simp only [pI, pL, pR, pV, i10, ↓reduceIte, eM_vane_0]
    have g0 := Wd.i hR
    generalize EE lws σ = E at h g0
    generalize mc σ 121 = c at h g0
    generalize rd σ 121 = a at h g0
    obtain ⟨-, -, -, -, -, -, n6, v6⟩ := g0.nv
    have out : ∀ (n m : Nat) (σ' : Sg) (b s x : Int32), m + n = eV E → x.toInt = m → Fr MS σ σ' → b.toInt = (vanS E c a m).1 → s.toInt = (vanS E c a m).2 → bM_vane_6 true NOB (wp true 12) Φ (kM_vane 12 Φ) [.ref 120, .int b, .int s, .int x] [] σ' := by
      intro n
      induction n with
      | zero =>
        intro m σ' b s x hm hx hF hb hs
        have g := g0.m hF.fi
        have n1 : (gI σ' 121 (ix 1)).toInt = eV E := g.nv.2.2.2.1
        simp only [pI, pL, pR, pV, i10, ↓reduceIte, eM_vane_6, eM_vane_50]
        simp only [ile, n1, hx]
        rw [if_pos (by omega)]
        obtain rfl : m = eV E := by omega
        exact ⟨⟨by decide, by decide⟩, h _ _ hF.fi hb⟩
      | succ n ih =>
        intro m σ' b s x hm hx hF hb hs
        have g := g0.m hF.fi
        have n1 : (gI σ' 121 (ix 1)).toInt = eV E := g.nv.2.2.2.1
        have hix : ix x = m := ix_of hx
        have hx1 : (x + 1).toInt = ((m + 1 : Nat) : Int) := by rw [tq1 x (by omega), hx]; omega
        have eS : vanS E c a (m + 1) = if tokB a m (a 5).toNat = false ∧ (vanS E c a m).2 < (ansS E c a m (9 * eN E)).2 then ((m : Int), (ansS E c a m (9 * eN E)).2) else vanS E c a m := rfl
        simp only [pI, pL, pR, pV, i10, ↓reduceIte, eM_vane_6]
        simp only [ile, n1, hx]
        rw [if_neg (by omega)]
        refine ⟨⟨by decide, by decide⟩, ?_⟩
        refine sM_tok g (fun r hr => ?_)
        rw [hx] at hr
        have c0 : (r = 0) = (r.toInt = 0) := by rw [ieq]; rfl
        simp only [pI, pL, pR, pV, i10, ↓reduceIte, eM_vane_21]
        simp only [c0, hr]
        cases hq : tokB a (m : Int) (a 5).toNat with
        | true =>
          try rw [if_neg (by decide)]
          rw [if_neg (fun q => by rw [hq] at q; cases q.1)] at eS
          simp only [pI, pL, pR, pV, i10, ↓reduceIte, eM_vane_44]
          exact hM_vane_6 _ _ _ _ _ (ih (m + 1) σ' b s (x + 1) (by omega) hx1 hF (by rw [eS]; exact hb) (by rw [eS]; exact hs))
        | false =>
          try rw [if_pos rfl]
          refine sM_answers g (by omega) (fun σ1 r1 hF1 hr1 => ?_)
          rw [hix] at hr1
          simp only [pI, pL, pR, pV, i10, ↓reduceIte, eM_vane_29]
          simp only [ilt, hs, hr1]
          split
          next z =>
            rw [if_pos ⟨hq, by omega⟩] at eS
            simp only [pI, pL, pR, pV, i10, ↓reduceIte, eM_vane_36]
            refine sM_answers (g.m (FZmm hF1).fi) (by omega) (fun σ2 r2 hF2 hr2 => ?_)
            rw [hix] at hr2
            simp only [pI, pL, pR, pV, i10, ↓reduceIte, eM_vane_41, eM_vane_44]
            exact hM_vane_6 _ _ _ _ _ (ih (m + 1) σ2 x r2 (x + 1) (by omega) hx1 ((hF.tr (FZmm hF1)).tr (FZmm hF2)) (by rw [eS]; exact hx) (by rw [eS]; exact hr2))
          next z =>
            rw [if_neg (fun q => by omega)] at eS
            simp only [pI, pL, pR, pV, i10, ↓reduceIte, eM_vane_44]
            exact hM_vane_6 _ _ _ _ _ (ih (m + 1) σ1 b s (x + 1) (by omega) hx1 (hF.tr (FZmm hF1)) (by rw [eS]; exact hb) (by rw [eS]; exact hs))
    exact out (eV E) 0 σ (-1) 0 0 (by omega) rfl Fr.rf rfl rfl
