/-! RIDDLES: what a store says of the world, kept over scratch -/
theorem ixv {v : Int32} {z : Int} (h : v.toInt = z) : ix v = z.toNat := by
  unfold ix
  rw [h]
theorem tq1 (x : Int32) (h : -1000000 ≤ x.toInt ∧ x.toInt < 1000000) : (x + 1).toInt = x.toInt + 1 := t1 h
theorem ms121 {σ σ' : Sg} (hF : Fi MS σ σ') : rd σ' 121 = rd σ 121 := by
  funext k
  exact hF.rd (not_inS (fun e he z => by
    have : ∀ e, e ∈ MS → e.1 ≠ 121 := by decide
    exact this e he z.1))
def Wd (lws : Lws) (E : En) (c : Co) (a : Nat → Int) (σ : Sg) : Prop := R lws σ ∧ EE lws σ = E ∧ mc σ 121 = c ∧ rd σ 121 = a
theorem Wd.i {lws : Lws} {σ : Sg} (h : R lws σ) : Wd lws (EE lws σ) (mc σ 121) (rd σ 121) σ := ⟨h, rfl, rfl, rfl⟩
theorem Wd.cg {lws : Lws} {E : En} {c : Co} {a : Nat → Int} {σ σ' : Sg} (hR : R lws σ') (e : rd σ' 121 = rd σ 121) (g : Wd lws E c a σ) : Wd lws E c a σ' := by
  obtain ⟨g1, g2, g3, g4⟩ := g
  refine ⟨hR, ?_, ?_, by rw [e]; exact g4⟩
  · rw [← g2]; unfold EE; rw [e]
  · rw [← g3]; unfold mc; rw [e]
theorem Wd.x {lws : Lws} {E : En} {c : Co} {a : Nat → Int} {σ σ' : Sg} (h : Fi XS σ σ') (g : Wd lws E c a σ) : Wd lws E c a σ' := Wd.cg (R.xi h g.1) (xs121 h) g
theorem Wd.m {lws : Lws} {E : En} {c : Co} {a : Nat → Int} {σ σ' : Sg} (h : Fi MS σ σ') (g : Wd lws E c a σ) : Wd lws E c a σ' := Wd.cg (R.mi h g.1) (ms121 h) g
theorem Wd.all {lws : Lws} {E : En} {c : Co} {a : Nat → Int} {σ : Sg} (g : Wd lws E c a σ) : Ok E c ∧ CE σ E ∧ rc σ 2 = c ∧ ME σ E ∧ mc σ 121 = c ∧ TkOk E c := by
  obtain ⟨g1, rfl, rfl, rfl⟩ := g
  exact ⟨g1.ok, g1.ce, g1.rc, g1.me, rfl, g1.tk⟩
theorem Wd.nv {lws : Lws} {E : En} {c : Co} {a : Nat → Int} {σ : Sg} (g : Wd lws E c a σ) : (gI σ 1 4).toInt = eN E ∧ (gI σ 1 6).toInt = eV E ∧ (gI σ 121 0).toInt = eN E ∧ (gI σ 121 1).toInt = eV E ∧ a 0 = eN E ∧ a 1 = eV E ∧ eN E ≤ 6 ∧ eV E ≤ 6 := by
  obtain ⟨g1, rfl, rfl, rfl⟩ := g
  obtain ⟨e0, e1, e2, e3, -, -⟩ := g1.n
  exact ⟨e0, e1, e2, e3, e2, e3, g1.ok.1, g1.ok.2.1⟩
theorem Wd.took {lws : Lws} {E : En} {c : Co} {a : Nat → Int} {σ : Sg} (g : Wd lws E c a σ) : (gI σ 1 11).toInt = a 5 ∧ (0 ≤ a 5 ∧ a 5 ≤ 8) ∧ (∀ k, k < 8 → (gI σ 37 k).toInt = a (120 + 2 * k) ∧ (gI σ 38 k).toInt = a (121 + 2 * k)) ∧ (∀ k : Nat, (k : Int) < a 5 → (0 ≤ a (120 + 2 * k) ∧ a (120 + 2 * k) < eV E) ∧ (0 ≤ a (121 + 2 * k) ∧ a (121 + 2 * k) ≤ 99)) ∧ (∀ k, (gI σ 121 k).toInt = a k) := by
  obtain ⟨g1, rfl, rfl, rfl⟩ := g
  obtain ⟨e0, e1, e2, e3, -, -⟩ := g1.n
  obtain ⟨t1, t2, t3, t4⟩ := g1.1.2.2.2.1
  refine ⟨t1, t2, t3, fun k hk => ?_, fun _ => rfl⟩
  rw [← e3]
  exact t4 k hk
def fitB (E : En) (c : Co) (a : Nat → Int) (w : Nat) (f : Int) : Nat → Bool
  | 0 => true
  | n + 1 => fitB E c a w f n && decide (takesF E c w (a (120 + 2 * n)).toNat f = a (121 + 2 * n))
theorem fitB_no {E : En} {c : Co} {a : Nat → Int} {w : Nat} {f : Int} {m : Nat} (h : fitB E c a w f m = false) : ∀ n, m ≤ n → fitB E c a w f n = false
  | 0, hn => by
    obtain rfl : m = 0 := by omega
    exact h
  | n + 1, hn => by
    by_cases e : m = n + 1
    · subst e; exact h
    · show (fitB E c a w f n && _) = false
      rw [fitB_no h n (by omega), Bool.false_and]
def fitF (E : En) (c : Co) (a : Nat → Int) (w : Nat) (f : Int) : Bool := fitB E c a w f (a 5).toNat
theorem lZ_fits {d : Nat} {Φ : Po} {lws : Lws} {E : En} {c : Co} {a : Nat → Int} {w f : Int32} {σ0 : Sg} (hw : 0 ≤ w.toInt ∧ w.toInt < eN E) (hf : 1 ≤ f.toInt ∧ f.toInt ≤ 9) (h : ∀ (σ' : Sg) (v : Int32), Fr F109 σ0 σ' → v.toInt = bi (fitF E c a (ix w) f.toInt) → Φ (some (.int v)) σ') :
    ∀ (n : Nat) (σ : Sg) (x : Int32), x.toInt + n = a 5 → 0 ≤ x.toInt → Fr F109 σ0 σ → Wd lws E c a σ → fitB E c a (ix w) f.toInt (ix x) = true → bZ_fits_2 true NOB (wp true (d + 5)) Φ (kZ_fits (d + 5) Φ) [.ref 115, .int w, .int f, .int x] [] σ
  | 0, σ, x, hx, h0, hF, g, hb => by
    obtain ⟨t1, t2, t3, t4, t5⟩ := g.took
    simp only [pI, pL, pR, pV, i10, ↓reduceIte, eZ_fits_2, eZ_fits_51]
    simp only [ile, t1]
    rw [if_pos (by omega)]
    have e : ix x = (a 5).toNat := by unfold ix; omega
    refine h σ _ hF ?_
    unfold fitF
    rw [← e, hb]
    rfl
  | n + 1, σ, x, hx, h0, hF, g, hb => by
    obtain ⟨t1, t2, t3, t4, t5⟩ := g.took
    obtain ⟨hO, hE, hc, -⟩ := g.all
    simp only [pI, pL, pR, pV, i10, ↓reduceIte, eZ_fits_2]
    simp only [ile, t1]
    rw [if_neg (by omega)]
    have hxx := ix_to h0
    have hk := t3 (ix x) (by omega)
    have hv := (t4 (ix x) (by omega)).1
    refine ⟨⟨by omega, by omega⟩, ?_⟩
    refine sL_takesOf hO hE hc hw (by rw [hk.1]; exact hv) (by omega) (fun σ1 r hF1 hr => ?_)
    have g1 : Wd lws E c a σ1 := g.x (F109x hF1).fi
    have hk1 := (g1.took.2.2.1 (ix x) (by omega)).2
    simp only [pI, pL, pR, pV, i10, ↓reduceIte, eZ_fits_31]
    have ev : ix (gI σ 37 (ix x)) = (a (120 + 2 * ix x)).toNat := ixv hk.1
    rw [ev] at hr
    have cr : (r = gI σ1 38 (ix x)) = (takesF E c (ix w) (a (120 + 2 * ix x)).toNat f.toInt = a (121 + 2 * ix x)) := by rw [ieq, hr, hk1]
    simp only [cr]
    refine ⟨⟨by omega, by omega⟩, ?_⟩
    split
    next z =>
      simp only [pI, pL, pR, pV, i10, ↓reduceIte, eZ_fits_45]
      refine hZ_fits_2 _ _ _ _ _ (lZ_fits hw hf h n σ1 (x + 1) ?_ ?_ (hF.tr hF1) g1 ?_)
      · rw [tq1 x (by omega)]; omega
      · rw [tq1 x (by omega)]; omega
      · rw [ix1 (by omega)]
        show (fitB E c a (ix w) f.toInt (ix x) && _) = true
        rw [hb, decide_eq_true z]
        rfl
    next z =>
      refine h σ1 _ (hF.tr hF1) ?_
      have : fitB E c a (ix w) f.toInt (ix x + 1) = false := by
        show (fitB E c a (ix w) f.toInt (ix x) && _) = false
        rw [decide_eq_false z, Bool.and_false]
      unfold fitF
      rw [fitB_no this _ (by omega)]
      rfl
theorem sZ_fits {d : Nat} {Φ : Po} {lws : Lws} {E : En} {c : Co} {a : Nat → Int} {w f : Int32} {σ : Sg} (g : Wd lws E c a σ) (hw : 0 ≤ w.toInt ∧ w.toInt < eN E) (hf : 1 ≤ f.toInt ∧ f.toInt ≤ 9) (h : ∀ (σ' : Sg) (v : Int32), Fr F109 σ σ' → v.toInt = bi (fitF E c a (ix w) f.toInt) → Φ (some (.int v)) σ') : wp true (d + 6) nZ_fits [.ref 115, .int w, .int f] σ Φ := by
  apply wZ_fits
  simp only [pI, pL, pR, pV, i10, ↓reduceIte, eZ_fits_0]
  have := g.took.2.1
  exact lZ_fits hw hf h (a 5).toNat σ 0 (by rw [tl0]; omega) (by decide) Fr.rf g rfl
theorem lM_fits {d : Nat} {Φ : Po} {lws : Lws} {E : En} {c : Co} {a : Nat → Int} {w f : Int32} {σ0 : Sg} (hw : 0 ≤ w.toInt ∧ w.toInt < eN E) (hf : 1 ≤ f.toInt ∧ f.toInt ≤ 9) (h : ∀ (σ' : Sg) (v : Int32), Fr FML σ0 σ' → v.toInt = bi (fitF E c a (ix w) f.toInt) → Φ (some (.int v)) σ') :
    ∀ (n : Nat) (σ : Sg) (x : Int32), x.toInt + n = a 5 → 0 ≤ x.toInt → Fr FML σ0 σ → Wd lws E c a σ → fitB E c a (ix w) f.toInt (ix x) = true → bM_isFitting_2 true NOB (wp true (d + 6)) Φ (kM_isFitting (d + 6) Φ) [.ref 120, .int w, .int f, .int x] [] σ
  | 0, σ, x, hx, h0, hF, g, hb => by
    obtain ⟨t1, t2, t3, t4, t5⟩ := g.took
    simp only [pI, pL, pR, pV, i10, ↓reduceIte, eM_isFitting_2, eM_isFitting_53]
    have e5 : (gI σ 121 (ix 5)).toInt = a 5 := t5 5
    simp only [ile, e5]
    rw [if_pos (by omega)]
    have e : ix x = (a 5).toNat := by unfold ix; omega
    refine ⟨⟨by decide, by decide⟩, h σ _ hF ?_⟩
    unfold fitF
    rw [← e, hb]
    rfl
  | n + 1, σ, x, hx, h0, hF, g, hb => by
    obtain ⟨t1, t2, t3, t4, t5⟩ := g.took
    obtain ⟨hO, -, -, hE, hc, -⟩ := g.all
    simp only [pI, pL, pR, pV, i10, ↓reduceIte, eM_isFitting_2]
    have e5 : (gI σ 121 (ix 5)).toInt = a 5 := t5 5
    simp only [ile, e5]
    rw [if_neg (by omega)]
    have hxx := ix_to h0
    have hv := (t4 (ix x) (by omega)).1
    have ep : (120 + 2 * x).toInt = 120 + 2 * x.toInt := by
      simp only [ta, tm, Int32.reduceToInt]
      omega
    have epx : ix (120 + 2 * x) = 120 + 2 * ix x := ix_of (by omega)
    have eq : (120 + 2 * x + 1).toInt = 121 + 2 * x.toInt := by rw [tq1 _ (by omega)]; omega
    have eqx : ix (120 + 2 * x + 1) = 121 + 2 * ix x := ix_of (by omega)
    rw [epx]
    refine ⟨⟨by decide, by decide⟩, ⟨by omega, by omega⟩, ?_⟩
    refine sM_takesOf hO hE hc hw (by rw [t5]; exact hv) (by omega) (fun σ1 r hF1 hr => ?_)
    have g1 : Wd lws E c a σ1 := g.m (FMLm hF1).fi
    have hk1 := g1.took.2.2.2.2 (121 + 2 * ix x)
    simp only [pI, pL, pR, pV, i10, ↓reduceIte, eM_isFitting_29]
    have ev : ix (gI σ 121 (120 + 2 * ix x)) = (a (120 + 2 * ix x)).toNat := ixv (t5 _)
    rw [ev] at hr
    have cr : (r = gI σ1 121 (121 + 2 * ix x)) = (takesF E c (ix w) (a (120 + 2 * ix x)).toNat f.toInt = a (121 + 2 * ix x)) := by rw [ieq, hr, hk1]
    rw [eqx]
    simp only [cr]
    refine ⟨⟨by omega, by omega⟩, ?_⟩
    split
    next z =>
      simp only [pI, pL, pR, pV, i10, ↓reduceIte, eM_isFitting_47]
      refine hM_isFitting_2 _ _ _ _ _ (lM_fits hw hf h n σ1 (x + 1) ?_ ?_ (hF.tr hF1) g1 ?_)
      · rw [tq1 x (by omega)]; omega
      · rw [tq1 x (by omega)]; omega
      · rw [ix1 (by omega)]
        show (fitB E c a (ix w) f.toInt (ix x) && _) = true
        rw [hb, decide_eq_true z]
        rfl
    next z =>
      refine h σ1 _ (hF.tr hF1) ?_
      have : fitB E c a (ix w) f.toInt (ix x + 1) = false := by
        show (fitB E c a (ix w) f.toInt (ix x) && _) = false
        rw [decide_eq_false z, Bool.and_false]
      unfold fitF
      rw [fitB_no this _ (by omega)]
      rfl
theorem sM_fits {d : Nat} {Φ : Po} {lws : Lws} {E : En} {c : Co} {a : Nat → Int} {w f : Int32} {σ : Sg} (g : Wd lws E c a σ) (hw : 0 ≤ w.toInt ∧ w.toInt < eN E) (hf : 1 ≤ f.toInt ∧ f.toInt ≤ 9) (h : ∀ (σ' : Sg) (v : Int32), Fr FML σ σ' → v.toInt = bi (fitF E c a (ix w) f.toInt) → Φ (some (.int v)) σ') : wp true (d + 7) nM_isFitting [.ref 120, .int w, .int f] σ Φ := by
  apply wM_isFitting
  simp only [pI, pL, pR, pV, i10, ↓reduceIte, eM_isFitting_0]
  have := g.took.2.1
  exact lM_fits hw hf h (a 5).toNat σ 0 (by rw [tl0]; omega) (by decide) Fr.rf g rfl
/-! bits -/
def strB (b : Nat → Bool) : Nat → Int32
  | 0 => 0
  | n + 1 => cond (b n) (strB b n ||| (1 <<< (Int32.ofNat (n + 1) &&& 31))) (strB b n)
def strF (E : En) (c : Co) (a : Nat → Int) (w : Nat) : Int32 := strB (fun n => fitF E c a w ((n + 1 : Nat) : Int)) 9
theorem ofN {x : Int32} {n : Nat} (h : x.toInt = n) (hn : n < 1000000) : x = Int32.ofNat n := eqv (by rw [h]; exact (toInt_of rfl (by omega)).symm)
theorem or0 (x : Int32) : x ||| 0 = x := by first | exact Int32.or_zero | simp
theorem lZ_str {d : Nat} {Φ : Po} {lws : Lws} {E : En} {c : Co} {a : Nat → Int} {w : Int32} {σ0 : Sg} (hw : 0 ≤ w.toInt ∧ w.toInt < eN E) (h : ∀ σ' : Sg, Fr F109 σ0 σ' → Φ (some (.int (strF E c a (ix w)))) σ') :
    ∀ (n m : Nat) (σ : Sg) (s x : Int32), m + n = 9 → x.toInt = m + 1 → Fr F109 σ0 σ → Wd lws E c a σ → s = strB (fun n => fitF E c a (ix w) ((n + 1 : Nat) : Int)) m → bZ_fittingForces_4 true NOB (wp true (d + 6)) Φ (kZ_fittingForces (d + 6) Φ) [.ref 115, .int w, .int s, .int x] [] σ
  | 0, m, σ, s, x, hm, hx, hF, g, hs => by
    simp only [pI, pL, pR, pV, i10, ↓reduceIte, eZ_fittingForces_4, eZ_fittingForces_31]
    have k9 : (9 : Int32).toInt = 9 := rfl
    simp only [ilt, k9, hx]
    rw [if_pos (by omega), hs]
    obtain rfl : m = 9 := by omega
    exact h σ hF
  | n + 1, m, σ, s, x, hm, hx, hF, g, hs => by
    simp only [pI, pL, pR, pV, i10, ↓reduceIte, eZ_fittingForces_4]
    have k9 : (9 : Int32).toInt = 9 := rfl
    simp only [ilt, k9, hx]
    rw [if_neg (by omega)]
    refine sZ_fits g hw (by omega) (fun σ1 v hF1 hv => ?_)
    have g1 : Wd lws E c a σ1 := g.x (F109x hF1).fi
    have hx1 : (x + 1).toInt = ((m + 1 : Nat) : Int) + 1 := by rw [tq1 x (by omega), hx]; omega
    have ex : x = Int32.ofNat (m + 1) := ofN (by rw [hx]; omega) (by omega)
    have hv : v.toInt = bi (fitF E c a (ix w) ((m + 1 : Nat) : Int)) := by rw [hv, show x.toInt = ((m + 1 : Nat) : Int) from by omega]
    have c0 : (v = 0) = (v.toInt = 0) := by rw [ieq]; rfl
    simp only [pI, pL, pR, pV, i10, ↓reduceIte, eZ_fittingForces_16]
    simp only [c0, hv]
    have eS : strB (fun n => fitF E c a (ix w) ((n + 1 : Nat) : Int)) (m + 1) = cond (fitF E c a (ix w) ((m + 1 : Nat) : Int)) (strB (fun n => fitF E c a (ix w) ((n + 1 : Nat) : Int)) m ||| (1 <<< (Int32.ofNat (m + 1) &&& 31))) (strB (fun n => fitF E c a (ix w) ((n + 1 : Nat) : Int)) m) := rfl
    cases hb : fitF E c a (ix w) ((m + 1 : Nat) : Int) with
    | true =>
      try rw [if_neg (by decide)]
      simp only [pI, pL, pR, pV, i10, ↓reduceIte, eZ_fittingForces_25]
      exact hZ_fittingForces_4 _ _ _ _ _ (lZ_str hw h n (m + 1) σ1 _ (x + 1) (by omega) hx1 (hF.tr hF1) g1 (by rw [eS, hb, hs, ex]; rfl))
    | false =>
      try rw [if_pos rfl]
      simp only [pI, pL, pR, pV, i10, ↓reduceIte, eZ_fittingForces_25]
      exact hZ_fittingForces_4 _ _ _ _ _ (lZ_str hw h n (m + 1) σ1 _ (x + 1) (by omega) hx1 (hF.tr hF1) g1 (by rw [eS, hb, hs]; rfl))
theorem sZ_str {d : Nat} {Φ : Po} {lws : Lws} {E : En} {c : Co} {a : Nat → Int} {w : Int32} {σ : Sg} (g : Wd lws E c a σ) (hw : 0 ≤ w.toInt ∧ w.toInt < eN E) (h : ∀ σ' : Sg, Fr F109 σ σ' → Φ (some (.int (strF E c a (ix w)))) σ') : wp true (d + 7) nZ_fittingForces [.ref 115, .int w] σ Φ := by
  apply wZ_fittingForces
  simp only [pI, pL, pR, pV, i10, ↓reduceIte, eZ_fittingForces_0]
  exact lZ_str hw h 9 0 σ 0 1 rfl rfl Fr.rf g rfl
theorem lM_str {d : Nat} {Φ : Po} {lws : Lws} {E : En} {c : Co} {a : Nat → Int} {w : Int32} {σ0 : Sg} (hw : 0 ≤ w.toInt ∧ w.toInt < eN E) (h : ∀ σ' : Sg, Fr FML σ0 σ' → Φ (some (.int (strF E c a (ix w)))) σ') :
    ∀ (n m : Nat) (σ : Sg) (s x : Int32), m + n = 9 → x.toInt = m + 1 → Fr FML σ0 σ → Wd lws E c a σ → s = strB (fun n => fitF E c a (ix w) ((n + 1 : Nat) : Int)) m → bM_strengthsOf_4 true NOB (wp true (d + 7)) Φ (kM_strengthsOf (d + 7) Φ) [.ref 120, .int w, .int s, .int x] [] σ
  | 0, m, σ, s, x, hm, hx, hF, g, hs => by
    simp only [pI, pL, pR, pV, i10, ↓reduceIte, eM_strengthsOf_4, eM_strengthsOf_35]
    have k9 : (10 : Int32).toInt = 10 := rfl
    simp only [ile, k9, hx]
    rw [if_pos (by omega), hs]
    obtain rfl : m = 9 := by omega
    exact h σ hF
  | n + 1, m, σ, s, x, hm, hx, hF, g, hs => by
    simp only [pI, pL, pR, pV, i10, ↓reduceIte, eM_strengthsOf_4]
    have k9 : (10 : Int32).toInt = 10 := rfl
    simp only [ile, k9, hx]
    rw [if_neg (by omega)]
    refine sM_fits g hw (by omega) (fun σ1 v hF1 hv => ?_)
    have g1 : Wd lws E c a σ1 := g.m (FMLm hF1).fi
    have hx1 : (x + 1).toInt = ((m + 1 : Nat) : Int) + 1 := by rw [tq1 x (by omega), hx]; omega
    have ex : x = Int32.ofNat (m + 1) := ofN (by rw [hx]; omega) (by omega)
    have hv : v.toInt = bi (fitF E c a (ix w) ((m + 1 : Nat) : Int)) := by rw [hv, show x.toInt = ((m + 1 : Nat) : Int) from by omega]
    have c0 : (v = 0) = (v.toInt = 0) := by rw [ieq]; rfl
    simp only [pI, pL, pR, pV, i10, ↓reduceIte, eM_strengthsOf_17]
    simp only [c0, hv]
    have eS : strB (fun n => fitF E c a (ix w) ((n + 1 : Nat) : Int)) (m + 1) = cond (fitF E c a (ix w) ((m + 1 : Nat) : Int)) (strB (fun n => fitF E c a (ix w) ((n + 1 : Nat) : Int)) m ||| (1 <<< (Int32.ofNat (m + 1) &&& 31))) (strB (fun n => fitF E c a (ix w) ((n + 1 : Nat) : Int)) m) := rfl
    cases hb : fitF E c a (ix w) ((m + 1 : Nat) : Int) with
    | true =>
      try rw [if_neg (by decide)]
      simp only [pI, pL, pR, pV, i10, ↓reduceIte, eM_strengthsOf_27]
      exact hM_strengthsOf_4 _ _ _ _ _ (lM_str hw h n (m + 1) σ1 _ (x + 1) (by omega) hx1 (hF.tr hF1) g1 (by rw [eS, hb, hs, ex]; rfl))
    | false =>
      try rw [if_pos rfl]
      simp only [pI, pL, pR, pV, i10, ↓reduceIte, eM_strengthsOf_26, eM_strengthsOf_27]
      exact hM_strengthsOf_4 _ _ _ _ _ (lM_str hw h n (m + 1) σ1 _ (x + 1) (by omega) hx1 (hF.tr hF1) g1 (by rw [eS, hb, hs, or0]; rfl))
theorem sM_str {d : Nat} {Φ : Po} {lws : Lws} {E : En} {c : Co} {a : Nat → Int} {w : Int32} {σ : Sg} (g : Wd lws E c a σ) (hw : 0 ≤ w.toInt ∧ w.toInt < eN E) (h : ∀ σ' : Sg, Fr FML σ σ' → Φ (some (.int (strF E c a (ix w)))) σ') : wp true (d + 8) nM_strengthsOf [.ref 120, .int w] σ Φ := by
  apply wM_strengthsOf
  simp only [pI, pL, pR, pV, i10, ↓reduceIte, eM_strengthsOf_0]
  exact lM_str hw h 9 0 σ 0 1 rfl rfl Fr.rf g rfl
