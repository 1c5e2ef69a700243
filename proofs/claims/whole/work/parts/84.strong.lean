/-! STRONGEST, RICHEST -/
def frcF (E : En) (c : Co) (w : Nat) : Int := if comesF E c w then blowsF E c w else 0
theorem frcF_r {E : En} {c : Co} {w : Nat} : 0 ≤ frcF E c w ∧ frcF E c w ≤ 9 := by
  unfold frcF
  split
  · exact clamp_r (by omega)
  · omega
def stgS (E : En) (c : Co) : Nat → Int × Int
  | 0 => (-1, -1)
  | w + 1 => if c (24 + w) = 0 ∧ (stgS E c w).2 < frcF E c w then ((w : Int), frcF E c w) else stgS E c w
theorem stgS_b {E : En} {c : Co} : ∀ n, ((stgS E c n).1 = -1 ∧ (stgS E c n).2 = -1) ∨ (0 ≤ (stgS E c n).1 ∧ 0 ≤ (stgS E c n).2)
  | 0 => Or.inl ⟨rfl, rfl⟩
  | n + 1 => by
    have ih := stgS_b (E := E) (c := c) n
    have := frcF_r (E := E) (c := c) (w := n)
    have eS : stgS E c (n + 1) = if c (24 + n) = 0 ∧ (stgS E c n).2 < frcF E c n then ((n : Int), frcF E c n) else stgS E c n := rfl
    rw [eS]
    split
    · refine Or.inr ⟨?_, ?_⟩ <;> dsimp only <;> omega
    · exact ih
theorem p_strongest : PairI Rel nX_strongest nM_strongest [] := by
  refine qryJ (fun E c _ => (stgS E c (eN E)).1) (fun lws σ Φ hR h => ?_) (fun lws σ Φ hR h => ?_)
  · apply wX_strongest
    simp only [pI, pL, pR, pV, i10, ↓reduceIte, eX_strongest_0]
    have g0 := Wd.i hR
    generalize EE lws σ = E at h g0
    generalize mc σ 121 = c at h g0
    generalize rd σ 121 = a at h g0
    have lp : ∀ (n m : Nat) (σ' : Sg) (x1 x2 x3 : Int32) (v4 : Value), m + n = eN E → x3.toInt = m → Fr F109 σ σ' → x1.toInt = (stgS E c m).1 → x2.toInt = (stgS E c m).2 → bX_strongest_6 true NOB (wp true 12) Φ (kX_strongest 12 Φ) [.ref 0, .int x1, .int x2, .int x3, v4] [] σ' := by
      intro n
      induction n with
      | zero =>
        intro m σ' x1 x2 x3 v4 hm h3 hF h1 h2
        have g := g0.x (F109x hF).fi
        obtain ⟨n1, -⟩ := g.nv
        simp only [pI, pL, pR, pV, i10, ↓reduceIte, eX_strongest_6]
        simp only [ile, n1, h3]
        rw [if_pos (by omega)]
        obtain rfl : m = eN E := by omega
        simp only [pI, pL, pR, pV, i10, ↓reduceIte, eX_strongest_81]
        exact h _ _ (F109x hF).fi h1
      | succ n ih =>
        intro m σ' x1 x2 x3 v4 hm h3 hF h1 h2
        have g := g0.x (F109x hF).fi
        obtain ⟨hO, hE, hc, -⟩ := g.all
        obtain ⟨n1, -, -, -, -, -, n6, -⟩ := g.nv
        have hix : ix x3 = m := ix_of h3
        have h31 : (x3 + 1).toInt = ((m + 1 : Nat) : Int) := by rw [tq1 x3 (by omega), h3]; omega
        have eS : stgS E c (m + 1) = if c (24 + m) = 0 ∧ (stgS E c m).2 < frcF E c m then ((m : Int), frcF E c m) else stgS E c m := rfl
        simp only [pI, pL, pR, pV, i10, ↓reduceIte, eX_strongest_6]
        simp only [ile, n1, h3]
        rw [if_neg (by omega)]
        have fin : ∀ (σ2 : Sg) (r : Int32), Fr F109 σ σ2 → (c (24 + m) = 0 → r.toInt = frcF E c m) → bX_strongest_51 true NOB (wp true 12) Φ (kX_strongest 12 Φ) [.ref 0, .int x1, .int x2, .int x3, v4] [.int r] σ2 := by
          intro σ2 r hF2 hr
          have g2 := g0.x (F109x hF2).fi
          obtain ⟨-, hE2, hc2, -⟩ := g2.all
          simp only [pI, pL, pR, pV, i10, ↓reduceIte, eX_strongest_51]
          refine sW_isHere ⟨hE2.1, n6⟩ hc2 (fun y y2 => ?_) (fun y => ?_)
          · rw [hix] at y2
            have hr := hr y2
            simp only [pI, pL, pR, pV, i10, ↓reduceIte, eX_strongest_61]
            simp only [ile, hr, h2]
            split
            next z =>
              rw [if_neg (fun q => by omega)] at eS
              simp only [pI, pL, pR, pV, i10, ↓reduceIte, eX_strongest_75]
              exact hX_strongest_6 _ _ _ _ _ (ih (m + 1) σ2 x1 x2 (x3 + 1) _ (by omega) h31 hF2 (by rw [eS]; exact h1) (by rw [eS]; exact h2))
            next z =>
              rw [if_pos ⟨y2, by omega⟩] at eS
              simp only [pI, pL, pR, pV, i10, ↓reduceIte, eX_strongest_75]
              exact hX_strongest_6 _ _ _ _ _ (ih (m + 1) σ2 x3 r (x3 + 1) _ (by omega) h31 hF2 (by rw [eS]; exact h3) (by rw [eS]; exact hr))
          · rw [hix] at y
            rw [if_neg (fun q => y ⟨by omega, q.1⟩)] at eS
            simp only [pI, pL, pR, pV, i10, ↓reduceIte, eX_strongest_61, eX_strongest_75]
            exact hX_strongest_6 _ _ _ _ _ (ih (m + 1) σ2 x1 x2 (x3 + 1) _ (by omega) h31 hF2 (by rw [eS]; exact h1) (by rw [eS]; exact h2))
        refine sW_isHere ⟨hE.1, n6⟩ hc (fun y y2 => ?_) (fun y => ?_)
        · simp only [pI, pL, pR, pV, i10, ↓reduceIte, eX_strongest_25]
          refine sL_comesOf hO hE hc (by omega) (fun σ1 r hF1 hr => ?_)
          rw [hix] at hr
          have c0 : (r = 0) = (r.toInt = 0) := by rw [ieq]; rfl
          simp only [pI, pL, pR, pV, i10, ↓reduceIte, eX_strongest_36]
          simp only [c0, hr]
          cases hq : comesF E c m with
          | false =>
            try rw [if_pos rfl]
            simp only [pI, pL, pR, pV, i10, ↓reduceIte, eX_strongest_50]
            refine fin σ1 0 (hF.tr hF1) (fun _ => ?_)
            unfold frcF
            rw [hq]
            rfl
          | true =>
            try rw [if_neg (by decide)]
            have g1 := g0.x (F109x (hF.tr hF1)).fi
            obtain ⟨-, hE1, hc1, -⟩ := g1.all
            refine sL_blowsOf hO hE1 hc1 (by omega) (fun σ2 r2 hF2 hr2 => ?_)
            rw [hix] at hr2
            simp only [pI, pL, pR, pV, i10, ↓reduceIte, eX_strongest_47]
            refine fin σ2 r2 ((hF.tr hF1).tr hF2) (fun _ => ?_)
            unfold frcF
            rw [hq]
            exact hr2
        · simp only [pI, pL, pR, pV, i10, ↓reduceIte, eX_strongest_25, eX_strongest_50]
          rw [hix] at y
          exact fin σ' 0 hF (fun q => absurd ⟨by omega, q⟩ y)
    exact lp (eN E) 0 σ (-1) (-1) 0 _ (by omega) rfl Fr.rf rfl rfl
  · apply wM_strongest
    simp only [pI, pL, pR, pV, i10, ↓reduceIte, eM_strongest_0]
    have g0 := Wd.i hR
    generalize EE lws σ = E at h g0
    generalize mc σ 121 = c at h g0
    generalize rd σ 121 = a at h g0
    have lp : ∀ (n m : Nat) (σ' : Sg) (x1 x2 x3 : Int32) (v4 : Value), m + n = eN E → x3.toInt = m → Fr FML σ σ' → x1.toInt = (stgS E c m).1 → (x1.toInt ≠ -1 → x2.toInt = (stgS E c m).2) → bM_strongest_6 true NOB (wp true 12) Φ (kM_strongest 12 Φ) [.ref 120, .int x1, .int x2, .int x3, v4] [] σ' := by
      intro n
      induction n with
      | zero =>
        intro m σ' x1 x2 x3 v4 hm h3 hF h1 h2
        have g := g0.m (FMLm hF).fi
        have n1 : (gI σ' 121 (ix 0)).toInt = eN E := g.nv.2.2.1
        simp only [pI, pL, pR, pV, i10, ↓reduceIte, eM_strongest_6, eM_strongest_73]
        simp only [ile, n1, h3]
        rw [if_pos (by omega)]
        obtain rfl : m = eN E := by omega
        exact ⟨⟨by decide, by decide⟩, h _ _ (FMLm hF).fi h1⟩
      | succ n ih =>
        intro m σ' x1 x2 x3 v4 hm h3 hF h1 h2
        have g := g0.m (FMLm hF).fi
        obtain ⟨hO, -, -, hE, hc, -⟩ := g.all
        have n1 : (gI σ' 121 (ix 0)).toInt = eN E := g.nv.2.2.1
        have n6 := g.nv.2.2.2.2.2.2.1
        have hix : ix x3 = m := ix_of h3
        have h31 : (x3 + 1).toInt = ((m + 1 : Nat) : Int) := by rw [tq1 x3 (by omega), h3]; omega
        have eS : stgS E c (m + 1) = if c (24 + m) = 0 ∧ (stgS E c m).2 < frcF E c m then ((m : Int), frcF E c m) else stgS E c m := rfl
        have hb := stgS_b (E := E) (c := c) m
        have hfr := frcF_r (E := E) (c := c) (w := m)
        simp only [pI, pL, pR, pV, i10, ↓reduceIte, eM_strongest_6]
        simp only [ile, n1, h3]
        rw [if_neg (by omega)]
        refine ⟨⟨by decide, by decide⟩, ?_⟩
        have skip : ∀ (σ2 : Sg) (v : Value), Fr FML σ σ2 → stgS E c (m + 1) = stgS E c m → bM_strongest_67 true NOB (wp true 12) Φ (kM_strongest 12 Φ) [.ref 120, .int x1, .int x2, .int x3, v] [] σ2 := by
          intro σ2 v hF2 e
          simp only [pI, pL, pR, pV, i10, ↓reduceIte, eM_strongest_67]
          exact hM_strongest_6 _ _ _ _ _ (ih (m + 1) σ2 x1 x2 (x3 + 1) _ (by omega) h31 hF2 (by rw [e]; exact h1) (by rw [e]; exact h2))
        have fin : c (24 + m) = 0 → ∀ (σ2 : Sg) (r : Int32), Fr FML σ σ2 → r.toInt = frcF E c m → bM_strongest_46 true NOB (wp true 12) Φ (kM_strongest 12 Φ) [.ref 120, .int x1, .int x2, .int x3, v4] [.int r] σ2 := by
          intro hg σ2 r hF2 hr
          have cN : (x1 = -1) = (x1.toInt = -1) := by rw [ieq]; rfl
          have put : (stgS E c m).2 < frcF E c m → bM_strongest_62 true NOB (wp true 12) Φ (kM_strongest 12 Φ) [.ref 120, .int x1, .int x2, .int x3, .int r] [] σ2 := by
            intro q
            rw [if_pos ⟨hg, q⟩] at eS
            simp only [pI, pL, pR, pV, i10, ↓reduceIte, eM_strongest_62, eM_strongest_67]
            exact hM_strongest_6 _ _ _ _ _ (ih (m + 1) σ2 x3 r (x3 + 1) _ (by omega) h31 hF2 (by rw [eS]; exact h3) (fun _ => by rw [eS]; exact hr))
          simp only [pI, pL, pR, pV, i10, ↓reduceIte, eM_strongest_46]
          simp only [cN]
          split
          next z => exact put (by omega)
          next z =>
            have h2 := h2 z
            simp only [ilt, h2, hr]
            split
            next y => exact put y
            next y => exact skip σ2 _ hF2 (by rw [eS, if_neg (fun q => y q.2)])
        refine sM_getG (by omega) (fun gn hgn => ?_)
        rw [hc, hix] at hgn
        have hg01 := (hO.w (w := m) (by omega)).2.2.2.2
        have c1 : (gn = 1) = (c (24 + m) = 1) := by rw [ieq, hgn]; rfl
        simp only [pI, pL, pR, pV, i10, ↓reduceIte, eM_strongest_22]
        simp only [c1]
        split
        next z => exact skip σ' v4 hF (by rw [eS, if_neg (fun q => by omega)])
        next z =>
          have hg : c (24 + m) = 0 := by omega
          simp only [pI, pL, pR, pV, i10, ↓reduceIte, eM_strongest_29]
          refine sM_isComing hO hE hc (by omega) (fun σ1 r hF1 hr => ?_)
          rw [hix] at hr
          have c0 : (r = 0) = (r.toInt = 0) := by rw [ieq]; rfl
          simp only [pI, pL, pR, pV, i10, ↓reduceIte, eM_strongest_34]
          simp only [c0, hr]
          cases hq : comesF E c m with
          | false =>
            try rw [if_pos rfl]
            simp only [pI, pL, pR, pV, i10, ↓reduceIte, eM_strongest_45]
            refine fin hg σ1 0 (hF.tr hF1) ?_
            unfold frcF
            rw [hq]
            rfl
          | true =>
            try rw [if_neg (by decide)]
            have g1 := g0.m (FMLm (hF.tr hF1)).fi
            obtain ⟨-, -, -, hE1, hc1, -⟩ := g1.all
            refine sM_blowsNow hO hE1 hc1 (by omega) (fun σ2 r2 hF2 hr2 => ?_)
            rw [hix] at hr2
            simp only [pI, pL, pR, pV, i10, ↓reduceIte, eM_strongest_42]
            refine fin hg σ2 r2 ((hF.tr hF1).tr hF2) ?_
            unfold frcF
            rw [hq]
            exact hr2
    exact lp (eN E) 0 σ (-1) 0 0 _ (by omega) rfl Fr.rf rfl (fun q => absurd rfl q)
def rchS (c : Co) : Nat → Int × Int
  | 0 => (-1, -1)
  | v + 1 => if (rchS c v).2 < c (30 + v) then ((v : Int), c (30 + v)) else rchS c v
theorem rchS_b {E : En} {c : Co} (hO : Ok E c) : ∀ n, n ≤ eV E → ((rchS c n).1 = -1 ∧ (rchS c n).2 = -1) ∨ ((0 ≤ (rchS c n).1 ∧ (rchS c n).1 < n) ∧ (rchS c n).2 = c (30 + (rchS c n).1.toNat))
  | 0, _ => Or.inl ⟨rfl, rfl⟩
  | n + 1, hn => by
    have ih := rchS_b hO n (by omega)
    have eS : rchS c (n + 1) = if (rchS c n).2 < c (30 + n) then ((n : Int), c (30 + n)) else rchS c n := rfl
    rw [eS]
    split
    · refine Or.inr ⟨?_, ?_⟩
      · dsimp only
        omega
      · rfl
    · rcases ih with h | ⟨h1, h2⟩
      · exact Or.inl h
      · exact Or.inr ⟨by omega, h2⟩
theorem p_richest : PairI Rel nX_richest nM_richest [] := by
  refine qryJ (fun E c _ => (rchS c (eV E)).1) (fun lws σ Φ hR h => ?_) (fun lws σ Φ hR h => ?_)
  · apply wX_richest
    simp only [pI, pL, pR, pV, i10, ↓reduceIte, eX_richest_0]
    have g := Wd.i hR
    generalize EE lws σ = E at h g
    generalize mc σ 121 = c at h g
    generalize rd σ 121 = a at h g
    obtain ⟨hO, hE, hc, -⟩ := g.all
    obtain ⟨-, n1, -, -, -, -, -, n6⟩ := g.nv
    have lp : ∀ (n m : Nat) (x1 x2 x3 : Int32), m + n = eV E → x3.toInt = m → x1.toInt = (rchS c m).1 → x2.toInt = (rchS c m).2 → bX_richest_6 true NOB (wp true 12) Φ (kX_richest 12 Φ) [.ref 0, .int x1, .int x2, .int x3] [] σ := by
      intro n
      induction n with
      | zero =>
        intro m x1 x2 x3 hm h3 h1 h2
        simp only [pI, pL, pR, pV, i10, ↓reduceIte, eX_richest_6]
        simp only [ile, n1, h3]
        rw [if_pos (by omega)]
        obtain rfl : m = eV E := by omega
        simp only [pI, pL, pR, pV, i10, ↓reduceIte, eX_richest_54]
        exact h _ _ Fr.rf.fi h1
      | succ n ih =>
        intro m x1 x2 x3 hm h3 h1 h2
        have hix : ix (30 + x3) = 30 + m := by rw [ixk (n := 30) rfl (by omega), ix_of h3]
        have hin : inb (30 + x3) 75 := inb_k (n := 30) rfl (by omega) (by omega)
        have h31 : (x3 + 1).toInt = ((m + 1 : Nat) : Int) := by rw [tq1 x3 (by omega), h3]; omega
        have gp : (gI σ 2 (30 + m)).toInt = c (30 + m) := by rw [← hc]; exact (rc_at (by omega)).symm
        have eS : rchS c (m + 1) = if (rchS c m).2 < c (30 + m) then ((m : Int), c (30 + m)) else rchS c m := rfl
        simp only [pI, pL, pR, pV, i10, ↓reduceIte, eX_richest_6]
        simp only [ile, n1, h3, hix, gp, h2]
        rw [if_neg (by omega)]
        refine ⟨hin, ?_⟩
        split
        next z =>
          rw [if_neg (by omega)] at eS
          simp only [pI, pL, pR, pV, i10, ↓reduceIte, eX_richest_48]
          exact hX_richest_6 _ _ _ _ _ (ih (m + 1) x1 x2 (x3 + 1) (by omega) h31 (by rw [eS]; exact h1) (by rw [eS]; exact h2))
        next z =>
          rw [if_pos (by omega)] at eS
          simp only [pI, pL, pR, pV, i10, ↓reduceIte, eX_richest_48]
          exact ⟨hin, hX_richest_6 _ _ _ _ _ (ih (m + 1) x3 _ (x3 + 1) (by omega) h31 (by rw [eS]; exact h3) (by rw [eS]; exact gp))⟩
    exact lp (eV E) 0 (-1) (-1) 0 (by omega) rfl rfl rfl
  · apply wM_richest
    simp only [pI, pL, pR, pV, i10, ↓reduceIte, eM_richest_0]
    have g := Wd.i hR
    generalize EE lws σ = E at h g
    generalize mc σ 121 = c at h g
    generalize rd σ 121 = a at h g
    obtain ⟨hO, -, -, hE, hc, -⟩ := g.all
    obtain ⟨-, -, -, n1, -, -, -, n6⟩ := g.nv
    have n1' : (gI σ 121 (ix 1)).toInt = eV E := n1
    have lp : ∀ (n m : Nat) (x1 x2 : Int32), m + n = eV E → x2.toInt = m → x1.toInt = (rchS c m).1 → bM_richest_4 true NOB (wp true 12) Φ (kM_richest 12 Φ) [.ref 120, .int x1, .int x2] [] σ := by
      intro n
      induction n with
      | zero =>
        intro m x1 x2 hm h2 h1
        simp only [pI, pL, pR, pV, i10, ↓reduceIte, eM_richest_4, eM_richest_42]
        simp only [ile, n1', h2]
        rw [if_pos (by omega)]
        obtain rfl : m = eV E := by omega
        exact ⟨⟨by decide, by decide⟩, h _ _ Fr.rf.fi h1⟩
      | succ n ih =>
        intro m x1 x2 hm h2 h1
        have h21 : (x2 + 1).toInt = ((m + 1 : Nat) : Int) := by rw [tq1 x2 (by omega), h2]; omega
        have eS : rchS c (m + 1) = if (rchS c m).2 < c (30 + m) then ((m : Int), c (30 + m)) else rchS c m := rfl
        have hb := rchS_b hO m (by omega)
        have hpm := hO.v (v := m) (by omega)
        have cN : (x1 = -1) = (x1.toInt = -1) := by rw [ieq]; rfl
        have hix : ix x2 = m := ix_of h2
        have put : (rchS c m).2 < c (30 + m) → bM_richest_34 true NOB (wp true 12) Φ (kM_richest 12 Φ) [.ref 120, .int x1, .int x2] [] σ := by
          intro q
          rw [if_pos q] at eS
          simp only [pI, pL, pR, pV, i10, ↓reduceIte, eM_richest_34, eM_richest_36]
          exact hM_richest_4 _ _ _ _ _ (ih (m + 1) x2 (x2 + 1) (by omega) h21 (by rw [eS]; exact h2))
        simp only [pI, pL, pR, pV, i10, ↓reduceIte, eM_richest_4]
        simp only [ile, n1', h2]
        rw [if_neg (by omega)]
        refine ⟨⟨by decide, by decide⟩, ?_⟩
        simp only [cN]
        split
        next z => exact put (by omega)
        next z =>
          rcases hb with hb | ⟨hb1, hb2⟩
          · omega
          · refine sM_ofP (by omega) (fun p hp => ?_)
            rw [hc, hix] at hp
            simp only [pI, pL, pR, pV, i10, ↓reduceIte, eM_richest_25]
            refine sM_ofP (by omega) (fun p2 hp2 => ?_)
            have hi1 : ix x1 = (rchS c m).1.toNat := ixv h1
            rw [hc, hi1, ← hb2] at hp2
            simp only [pI, pL, pR, pV, i10, ↓reduceIte, eM_richest_31]
            simp only [ile, hp, hp2]
            split
            next y =>
              rw [if_neg (by omega)] at eS
              simp only [pI, pL, pR, pV, i10, ↓reduceIte, eM_richest_36]
              exact hM_richest_4 _ _ _ _ _ (ih (m + 1) x1 (x2 + 1) (by omega) h21 (by rw [eS]; exact h1))
            next y => exact put (by omega)
    exact lp (eV E) 0 (-1) 0 (by omega) rfl rfl
