/-! A VOYAGE: the class -/
theorem sD_speed {d : Nat} {Φ : Po} {E : En} {w f : Int} {σ : Sg} (hE : CE σ E) (hn : eN E ≤ 6) (hw : rd σ 110 2 = w) (hf : rd σ 110 3 = f) (hw0 : w = -1 ∨ (0 ≤ w ∧ w < eN E)) (hf0 : 0 ≤ f ∧ f ≤ 9) (h : ∀ v : Int32, v.toInt = spV E w f → Φ (some (.int v)) σ) : wp true (d + 2) nD_speed [.ref 110] σ Φ := by
  have k2 : (2 : Int32).toInt = 2 := rfl
  have e3 : (gI σ 110 3).toInt = f := hf
  have e1 : (1 + gI σ 110 3).toInt = 1 + f := by rw [tP (by rw [e3, tl1]; omega), e3, tl1]
  have cw : (gI σ 110 2 = -1) = (w = -1) := by rw [ieq, show (gI σ 110 2).toInt = w from hw]; rfl
  have no : (w = -1 ∨ ¬ eQ E w.toNat < 2) → bD_speed_29 true NOB (wp true (d + 1)) Φ (kD_speed (d + 1) Φ) [.ref 110, .retAddr 0] [.int 0] σ := fun q => by
    simp only [pI, pL, pR, pV, i10, ↓reduceIte, eD_speed_29, eD_speed_49, eD_speed_55]
    refine h _ ?_
    unfold spV
    rw [if_neg (by omega), e1]
    omega
  apply wD_speed
  simp only [pI, pL, pR, pV, i10, ↓reduceIte, eD_speed_0]
  simp only [cw]
  split
  next z =>
    simp only [pI, pL, pR, pV, i10, ↓reduceIte, eD_speed_28]
    exact no (Or.inl z)
  next z =>
    have hix : ix (gI σ 110 2) = w.toNat := ixv hw
    have hw' : (gI σ 110 2).toInt = w := hw
    have hq : (gI σ 34 w.toNat).toInt = eQ E w.toNat := hE.2.2.1 _ (by omega)
    refine ⟨⟨by omega, by omega⟩, ?_⟩
    rw [hix]
    simp only [ile, k2, hq]
    split
    next y =>
      simp only [pI, pL, pR, pV, i10, ↓reduceIte, eD_speed_28]
      exact no (Or.inr (by omega))
    next y =>
      simp only [pI, pL, pR, pV, i10, ↓reduceIte, eD_speed_29]
      refine ⟨by decide, ?_⟩
      refine sJ_max (fun m hm => ?_)
      simp only [pI, pL, pR, pV, i10, ↓reduceIte, eD_speed_46, eD_speed_55]
      refine h _ ?_
      rw [hm, tDt (by rw [k2]; omega), e1, k2, tl1]
      unfold spV
      rw [if_pos ⟨z, by omega⟩, Int.tdiv_eq_ediv_of_nonneg (by omega)]
abbrev FVs : Ls := FD ++ [(113, 0, 60)]
theorem FVsd {σ σ' : Sg} (h : Fr FD σ σ') : Fr FVs σ σ' := h.mo (fun e he => List.mem_append_left _ he)
theorem FVssub : ∀ e, e ∈ FVs → e ∈ XS ∨ e = (110, 2, 5) ∨ (e.1 = 2 ∧ e.2.2 ≤ 75) := by decide
theorem FVsx : ∀ a k, inS FVs a k = true → inS XS a k = true ∨ (a = 2 ∧ k < 75) := fun a k q => by
  obtain ⟨e, he, e1, e2, e3⟩ := inS_ex q
  rcases FVssub e he with m | m | m
  · obtain ⟨x, lo, hi⟩ := e
    have e1 : x = a := e1
    subst e1
    exact Or.inl (inS_r m ⟨e2, e3⟩)
  · subst m
    have e1 : 110 = a := e1
    subst e1
    exact Or.inl (inS_r (lo := 2) (hi := 5) (by decide) ⟨e2, e3⟩)
  · exact Or.inr ⟨by omega, by omega⟩
theorem CEvs {σ σ' : Sg} {E : En} (h : Fr FVs σ σ') (g : CE σ E) : CE σ' E := CE.fr h ⟨rfl, rfl, rfl, rfl⟩ (fun a k q => not_inS (fun e he z => by
  have : ∀ e, e ∈ FVs → e.1 = 109 ∨ e.1 = 2 ∨ e.1 = 110 ∨ e.1 = 113 := by decide
  have := this e he
  omega)) g
theorem lF_speeds {d : Nat} {Φ : Po} {E : En} {c : Co} {σ0 : Sg} {can : Nat} (hO : Ok E c) (hT : TkOk E c) (hE : CE σ0 E) (h44 : 0 ≤ rd σ0 2 44 ∧ rd σ0 2 44 ≤ 9999) (hcan : rd σ0 111 8 = can) (hcn : (can : Int) ≤ 9999 - c 42) (hc60 : can ≤ 60)
    (h : ∀ σ2 σ3 : Sg, Fr FVs σ0 σ2 → (∀ k, k < can → rd σ2 113 k = spd E c k) → Fr [(2, 0, 75)] σ2 σ3 → (∀ k, k < 75 → gI σ3 2 k = gI σ2 112 k) → Φ none σ3) :
    ∀ (n i : Nat) (σ : Sg) (x1 : Int32), i + n = can → x1.toInt = i → Fr FVs σ0 σ → rc σ 2 = pasN E c i → rd σ 2 44 = rd σ0 2 44 + i → (∀ k, k < i → rd σ 113 k = spd E c k) → bF_foreseeSpeeds_16 true NOB (wp true (d + 6)) Φ (kF_foreseeSpeeds (d + 6) Φ) [.ref 111, .int x1] [] σ := by
  have f111 : ∀ σ : Sg, Fr FVs σ0 σ → (gI σ 111 8).toInt = can := fun σ hF => by
    have e : inS FVs 111 8 = false := by decide
    rw [hF.1 _ _ e]
    exact hcan
  intro n
  induction n with
  | zero =>
    intro i σ x1 hi h1 hF hc hw hs
    simp only [pI, pL, pR, pV, i10, ↓reduceIte, eF_foreseeSpeeds_16]
    simp only [ile, f111 σ hF, h1]
    rw [if_pos (by omega)]
    simp only [pI, pL, pR, pV, i10, ↓reduceIte, eF_foreseeSpeeds_50]
    refine sF_giveBack (fun σ3 g4 g5 => ?_)
    simp only [pI, pL, pR, pV, i10, ↓reduceIte, eF_foreseeSpeeds_54]
    obtain rfl : i = can := by omega
    exact h σ σ3 hF hs g4 g5
  | succ n ih =>
    intro i σ x1 hi h1 hF hc hw hs
    obtain ⟨o1, o2, o3, o4⟩ := pasN_ok hO hT i (by omega)
    obtain ⟨p1, p2, p3, p4, p5, p6, p7⟩ := passF_ok o1 o2 (by omega)
    simp only [pI, pL, pR, pV, i10, ↓reduceIte, eF_foreseeSpeeds_16]
    simp only [ile, f111 σ hF, h1]
    rw [if_neg (by omega)]
    refine sD_pass o1 (CEvs hF hE) hc o2 (by omega) (by rw [hw]; omega) (fun σ2 hF2 hc2 hw2 hf2 ht2 hP => ?_)
    have h11 : (x1 + 1).toInt = ((i + 1 : Nat) : Int) := by rw [tq1 x1 (by omega), h1]; omega
    have hix : ix x1 = i := ix_of h1
    have hF2c : Fr FVs σ0 σ2 := hF.tr (FVsd hF2)
    simp only [pI, pL, pR, pV, i10, ↓reduceIte, eF_foreseeSpeeds_31]
    refine sD_speed (CEvs hF2c hE) hO.1 hw2 hf2 (p4.imp (fun q => q.1) (fun q => q)) p5 (fun v hv => ?_)
    simp only [pI, pL, pR, pV, i10, ↓reduceIte, eF_foreseeSpeeds_43]
    rw [hix]
    refine ⟨⟨by omega, by omega⟩, hF_foreseeSpeeds_16 _ _ _ _ _ (ih (i + 1) _ (x1 + 1) (by omega) h11 (hF2c.tr (Fr.sI (inS_r (lo := 0) (hi := 60) (List.mem_append_right _ (List.mem_singleton.mpr rfl)) (by omega)))) ?_ ?_ (fun k hk => ?_))⟩
    · rw [rc_ne (by omega)]; exact hc2
    · rw [rdne (by omega), hP.1, hw]; omega
    · by_cases e : k = i
      · subst e
        rw [rdeq, hv]
        rfl
      · rw [rdne2 e]
        have e113 : inS FD 113 k = false := inFD (by omega)
        rw [hF2.rd e113]
        exact hs k (by omega)
abbrev FVf : Ls := [(111, 8, 9), (113, 0, 60)]
theorem sF_speeds {d : Nat} {Φ : Po} {lws : Lws} {E : En} {c : Co} {a : Nat → Int} {σ : Sg} (g : Wd lws E c a σ) (h : ∀ σ' : Sg, Fi XS σ σ' → rd σ' 111 8 = canN c 60 → (∀ k, k < canN c 60 → rd σ' 113 k = spd E c k) → Φ none σ') : wp true (d + 7) nF_foreseeSpeeds [.ref 111] σ Φ := by
  obtain ⟨hO, hE, hc, -, -, hT⟩ := g.all
  have hl := canN_le (n := 60) hO.2.2.1
  apply wF_foreseeSpeeds
  simp only [pI, pL, pR, pV, i10, ↓reduceIte, eF_foreseeSpeeds_0]
  refine sF_canPass hc hO.2.2.1 (by decide) (fun v hv => ?_)
  simp only [pI, pL, pR, pV, i10, ↓reduceIte, eF_foreseeSpeeds_7]
  have hFa : Fr XS σ (sI σ 111 8 v) := Fr.sI (by decide)
  have e60 : ix 60 = 60 := rfl
  rw [e60] at hv
  have g1 := g.x hFa.fi
  have z8 : rd (sI σ 111 8 v) 111 8 = canN c 60 := by rw [rdeq]; exact hv
  generalize sI σ 111 8 v = σa at *
  obtain ⟨-, hE1, hc1, -⟩ := g1.all
  refine sF_keepNow (fun σ1 h1 h2 => ?_)
  simp only [pI, pL, pR, pV, i10, ↓reduceIte, eF_foreseeSpeeds_14]
  refine lF_speeds hO hT (keep_ce h1 hE1) (by rw [h1.rd rfl]; exact g1.1.w44) (by rw [h1.rd rfl]; exact z8) hl.1 hl.2 (fun σ2 σ3 h3 hs h4 h5 => ?_) (canN c 60) 0 σ1 0 (by omega) rfl Fr.rf ((keep_rc h1).trans hc1) (by omega) (fun k hk => by omega)
  have fi := back_fj h1 h2 h3 h4 h5 FVsx (fun k hk => not_inS (fun e he z => by
    have : ∀ e, e ∈ FVs → e.1 ≠ 112 := by decide
    exact this e he z.1))
  refine h σ3 (hFa.fi.tr fi) ?_ (fun k hk => ?_)
  · have e1 : inS [(2, 0, 75)] 111 8 = false := rfl
    have e2 : inS FVs 111 8 = false := by decide
    rw [h4.rd e1, h3.rd e2, h1.rd rfl]
    exact z8
  · have e1 : inS [(2, 0, 75)] 113 k = false := not_inS (fun e he z => by
      rw [List.mem_singleton] at he
      subst he
      have : 2 = 113 := z.1
      omega)
    rw [h4.rd e1]
    exact hs k hk
theorem sW_length {d : Nat} {Φ : Po} {lws : Lws} {E : En} {c : Co} {a : Nat → Int} {u v : Int32} {σ : Sg} (g : Wd lws E c a σ) (hu : 0 ≤ u.toInt ∧ u.toInt < eV E) (hv : 0 ≤ v.toInt ∧ v.toInt < eV E) (h : ∀ l : Int32, l.toInt = ways a (ix u) (ix v) → Φ (some (.int l)) σ) : wp true (d + 2) nW_lengthOf [.ref 1, .int u, .int v] σ Φ := by
  have n1 : rd σ 1 6 = eV E := g.nv.2.1
  have n6 := g.nv.2.2.2.2.2.2.2
  apply wW_lengthOf
  simp only [pI, pL, pR, pV, i10, ↓reduceIte, eW_lengthOf_0]
  refine sW_isVillage (fun _ => ?_) (fun q => absurd (by rw [n1]; exact hu) q)
  simp only [pI, pL, pR, pV, i10, ↓reduceIte, eW_lengthOf_5]
  refine sW_isVillage (fun _ => ?_) (fun q => absurd (by rw [n1]; exact hv) q)
  have hux := ix_to hu.1
  have hvx := ix_to hv.1
  have e : (u * 6 + v).toInt = 6 * ix u + ix v := by
    simp only [ta, tm, Int32.reduceToInt]
    omega
  have ex : ix (u * 6 + v) = 6 * ix u + ix v := ix_of (by omega)
  simp only [pI, pL, pR, pV, i10, ↓reduceIte, eW_lengthOf_13]
  rw [ex]
  refine ⟨⟨by omega, by omega⟩, ?_⟩
  simp only [pI, pL, pR, pV, i10, ↓reduceIte, eW_lengthOf_31]
  refine h _ ?_
  obtain ⟨hR, -, -, rfl⟩ := g
  have hG : G2 0 121 σ := hR.1.2.1
  unfold ways
  have := (hG (6 * ix u + ix v) (by omega)).1
  rw [show 84 + (6 * ix u + ix v) = 84 + 6 * ix u + ix v from by omega] at this
  exact this
/-- the class's table -/
def VyX (d : Nat → Nat) (σ : Sg) : Prop := ∀ k, k < 6 → rd σ 114 k = d k
def SpX (E : En) (c : Co) (σ : Sg) : Prop := rd σ 111 8 = canN c 60 ∧ ∀ k, k < canN c 60 → rd σ 113 k = spd E c k
theorem ways_b {lws : Lws} {E : En} {c : Co} {a : Nat → Int} {u v : Nat} {σ : Sg} (g : Wd lws E c a σ) (hu : u < eV E) (hv : v < eV E) : 0 ≤ ways a u v ∧ ways a u v ≤ 99 := by
  have n6 := g.nv.2.2.2.2.2.2.2
  obtain ⟨hR, -, -, rfl⟩ := g
  have hG : G2 0 121 σ := hR.1.2.1
  have := (hG (6 * u + v) (by omega)).2
  unfold ways
  rw [show 84 + 6 * u + v = 84 + (6 * u + v) from by omega]
  exact this
theorem spd_b {E : En} {c : Co} (hO : Ok E c) (hT : TkOk E c) {n : Nat} (h : (n : Int) + 1 ≤ 9999 - c 42) : 1 ≤ spd E c n ∧ spd E c n ≤ 10 := by
  obtain ⟨o1, o2, o3, o4⟩ := pasN_ok hO hT n (by omega)
  obtain ⟨p1, p2, p3, p4, p5, p6, p7⟩ := passF_ok o1 o2 (by omega)
  refine ⟨spd_1 n, ?_⟩
  unfold spd spV
  split <;> omega
theorem lF_arrival {d : Nat} {Φ : Po} {E : En} {c : Co} {x1 x2 : Int32} {σ : Sg} {R : Nat} (hO : Ok E c) (hT : TkOk E c) (hS : SpX E c σ) (h : ∀ v : Int32, v.toInt = R → Φ (some (.int v)) σ) :
    ∀ (n i : Nat) (x3 x4 : Int32) (l : Int), n = canN c 60 - i → i ≤ 61 → x4.toInt = i → x3.toInt = l → -10 ≤ l ∧ l ≤ 99 → rch (spd E c) n i l = R → bF_arrival_25 true NOB (wp true d) Φ (kF_arrival d Φ) [.ref 111, .int x1, .int x2, .int x3, .int x4] [] σ := by
  have hl := canN_le (n := 60) hO.2.2.1
  have hS1 : (gI σ 111 8).toInt = canN c 60 := hS.1
  intro n
  induction n with
  | zero =>
    intro i x3 x4 l hn hi h4 h3 hl3 hR
    simp only [pI, pL, pR, pV, i10, ↓reduceIte, eF_arrival_25]
    simp only [ile, hS1, h4]
    rw [if_pos (by omega)]
    simp only [pI, pL, pR, pV, i10, ↓reduceIte, eF_arrival_59]
    have hR : 61 = R := hR
    exact h _ (by rw [← hR]; rfl)
  | succ n ih =>
    intro i x3 x4 l hn hi h4 h3 hl3 hR
    have hix : ix x4 = i := ix_of h4
    have hsp : (gI σ 113 i).toInt = spd E c i := hS.2 i (by omega)
    have hb := spd_b hO hT (n := i) (by omega)
    have hR : (if l - spd E c i ≤ 0 then i + 1 else rch (spd E c) n (i + 1) (l - spd E c i)) = R := hR
    have em : (x3 - gI σ 113 i).toInt = l - spd E c i := by rw [tM (by rw [h3, hsp]; omega), h3, hsp]
    have h41 : (x4 + 1).toInt = ((i + 1 : Nat) : Int) := by rw [tq1 x4 (by omega), h4]; omega
    simp only [pI, pL, pR, pV, i10, ↓reduceIte, eF_arrival_25]
    simp only [ile, hS1, h4]
    rw [if_neg (by omega), hix]
    refine ⟨⟨by omega, by omega⟩, ?_⟩
    simp only [ilt, em, tl0]
    split
    next z =>
      rw [if_neg (by omega)] at hR
      simp only [pI, pL, pR, pV, i10, ↓reduceIte, eF_arrival_53]
      exact hF_arrival_25 _ _ _ _ _ (ih (i + 1) _ _ (l - spd E c i) (by omega) (by omega) h41 em (by omega) hR)
    next z =>
      rw [if_pos (by omega)] at hR
      exact h _ (by rw [h41, hR])
theorem sF_arrival {d : Nat} {Φ : Po} {lws : Lws} {E : En} {c : Co} {a : Nat → Int} {t : Nat → Nat} {u v : Int32} {σ : Sg} (g : Wd lws E c a σ) (hS : SpX E c σ) (ht : VyX t σ) (ht61 : ∀ x, t x ≤ 61) (hu : 0 ≤ u.toInt ∧ u.toInt < eV E) (hv : 0 ≤ v.toInt ∧ v.toInt < eV E) (h : ∀ l : Int32, l.toInt = fAr E c a (ix u) (ix v) (t (ix u)) → Φ (some (.int l)) σ) : wp true (d + 3) nF_arrival [.ref 111, .int u, .int v] σ Φ := by
  obtain ⟨hO, -, -, -, -, hT⟩ := g.all
  have n6 := g.nv.2.2.2.2.2.2.2
  have hux := ix_to hu.1
  have hvx := ix_to hv.1
  have hwb := ways_b g (u := ix u) (v := ix v) (by omega) (by omega)
  apply wF_arrival
  simp only [pI, pL, pR, pV, i10, ↓reduceIte, eF_arrival_0]
  refine sW_length g hu hv (fun l hl => ?_)
  have cl : (l = 0) = (ways a (ix u) (ix v) = 0) := by rw [ieq, hl]; rfl
  unfold fAr arr at h
  simp only [pI, pL, pR, pV, i10, ↓reduceIte, eF_arrival_9]
  simp only [cl]
  split
  next z =>
    rw [if_pos z] at h
    exact h _ rfl
  next z =>
    rw [if_neg z] at h
    simp only [pI, pL, pR, pV, i10, ↓reduceIte, eF_arrival_17]
    have htu : (gI σ 114 (ix u)).toInt = t (ix u) := ht _ (by omega)
    have := ht61 (ix u)
    exact ⟨⟨by omega, by omega⟩, lF_arrival hO hT hS h _ (t (ix u)) _ _ _ rfl (by omega) htu hl (by omega) rfl⟩
theorem VyX.put {t : Nat → Nat} {σ : Sg} {v : Nat} {r : Int32} {R : Nat} (h : VyX t σ) (hr : r.toInt = R) : VyX (upn t v R) (sI σ 114 v r) := fun k hk => by
  by_cases e : k = v
  · subst e
    rw [rdeq, hr, upn_eq]
  · rw [rdne2 e, upn_ne e]
    exact h k hk
theorem SpX.put {E : En} {c : Co} {σ : Sg} {v : Nat} {r : Int32} (h : SpX E c σ) : SpX E c (sI σ 114 v r) := ⟨by rw [rdne (by omega)]; exact h.1, fun k hk => by rw [rdne (by omega)]; exact h.2 k hk⟩
/-- the state of the three loops -/
def VS (lws : Lws) (E : En) (c : Co) (a : Nat → Int) (t : Nat → Nat) (σ0 σ : Sg) : Prop := Fi XS σ0 σ ∧ Wd lws E c a σ ∧ SpX E c σ ∧ VyX t σ
theorem VS.put {lws : Lws} {E : En} {c : Co} {a : Nat → Int} {t : Nat → Nat} {σ0 σ : Sg} {v : Nat} {r : Int32} {R : Nat} (h : VS lws E c a t σ0 σ) (hv : v < 6) (hr : r.toInt = R) : VS lws E c a (upn t v R) σ0 (sI σ 114 v r) := by
  obtain ⟨h1, h2, h3, h4⟩ := h
  have hF : Fr XS σ (sI σ 114 v r) := Fr.sI (inS_r (lo := 0) (hi := 6) (by decide) ⟨Nat.zero_le _, hv⟩)
  exact ⟨h1.tr hF.fi, h2.x hF.fi, h3.put, h4.put hr⟩
theorem sF_setOut {d : Nat} {Φ : Po} {lws : Lws} {E : En} {c : Co} {a : Nat → Int} {f : Int32} {σ : Sg} (g : Wd lws E c a σ) (hf : 0 ≤ f.toInt ∧ f.toInt < eV E) (h : ∀ σ' : Sg, VS lws E c a (vyF E c a (ix f)) σ σ' → Φ none σ') : wp true (d + 8) nF_setOut [.ref 111, .int f] σ Φ := by
  have n6 := g.nv.2.2.2.2.2.2.2
  have hfx := ix_to hf.1
  have k6 : (6 : Int32).toInt = 6 := rfl
  have n1 : ∀ (t : Nat → Nat) (σ' : Sg), VS lws E c a t σ σ' → (gI σ' 1 6).toInt = eV E := fun t σ' q => q.2.1.nv.2.1
  -- v
  have L1 : ∀ (x2 u : Int32) (t : Nat → Nat), 0 ≤ u.toInt ∧ u.toInt < eV E → (∀ x, t x ≤ 61) → (∀ (σ' : Sg) (x4 : Int32), VS lws E c a (vy1 (fAr E c a) (ix u) t (eV E)) σ σ' → bF_setOut_106 true NOB (wp true (d + 7)) Φ (kF_setOut (d + 7) Φ) [.ref 111, .int f, .int x2, .int u, .int x4] [] σ') →
      ∀ (n v : Nat) (σ' : Sg) (x4 : Int32), v + n = eV E → x4.toInt = v → VS lws E c a (vy1 (fAr E c a) (ix u) t v) σ σ' → bF_setOut_64 true NOB (wp true (d + 7)) Φ (kF_setOut (d + 7) Φ) [.ref 111, .int f, .int x2, .int u, .int x4] [] σ' := by
    intro x2 u t hu ht K n
    induction n with
    | zero =>
      intro v σ' x4 hv h4 hs
      simp only [pI, pL, pR, pV, i10, ↓reduceIte, eF_setOut_64]
      simp only [ile, n1 _ _ hs, h4]
      rw [if_pos (by omega)]
      obtain rfl : v = eV E := by omega
      exact K σ' x4 hs
    | succ n ih =>
      intro v σ' x4 hv h4 hs
      have hx4 : ix x4 = v := ix_of h4
      have h41 : (x4 + 1).toInt = ((v + 1 : Nat) : Int) := by rw [tq1 x4 (by omega), h4]; omega
      have hb := vy1_b (f := fAr E c a) (u := ix u) ht v
      simp only [pI, pL, pR, pV, i10, ↓reduceIte, eF_setOut_64]
      simp only [ile, n1 _ _ hs, h4]
      rw [if_neg (by omega)]
      refine ⟨⟨by omega, by omega⟩, ?_⟩
      refine sF_arrival hs.2.1 hs.2.2.1 hs.2.2.2 hb hu (by omega) (fun l hl => ?_)
      rw [hx4] at hl
      simp only [pI, pL, pR, pV, i10, ↓reduceIte, eF_setOut_96]
      rw [hx4]
      refine sJ_min (fun m hm => ?_)
      have hv4 : (gI σ' 114 v).toInt = vy1 (fAr E c a) (ix u) t v v := hs.2.2.2 v (by omega)
      rw [hl, hv4] at hm
      simp only [pI, pL, pR, pV, i10, ↓reduceIte, eF_setOut_99]
      rw [hx4]
      refine ⟨⟨by omega, by omega⟩, hF_setOut_64 _ _ _ _ _ (ih (v + 1) _ (x4 + 1) (by omega) h41 (hs.put (by omega) ?_))⟩
      rw [hm]
      omega
  -- u
  have L2 : ∀ (x2 : Int32) (t : Nat → Nat), (∀ x, t x ≤ 61) → (∀ (σ' : Sg) (x3 : Int32) (v4 : Value), VS lws E c a (vy2 (fAr E c a) (eV E) t (eV E)) σ σ' → bF_setOut_112 true NOB (wp true (d + 7)) Φ (kF_setOut (d + 7) Φ) [.ref 111, .int f, .int x2, .int x3, v4] [] σ') →
      ∀ (n u : Nat) (σ' : Sg) (x3 : Int32) (v4 : Value), u + n = eV E → x3.toInt = u → VS lws E c a (vy2 (fAr E c a) (eV E) t u) σ σ' → bF_setOut_50 true NOB (wp true (d + 7)) Φ (kF_setOut (d + 7) Φ) [.ref 111, .int f, .int x2, .int x3, v4] [] σ' := by
    intro x2 t ht K n
    induction n with
    | zero =>
      intro u σ' x3 v4 hu h3 hs
      simp only [pI, pL, pR, pV, i10, ↓reduceIte, eF_setOut_50]
      simp only [ile, n1 _ _ hs, h3]
      rw [if_pos (by omega)]
      obtain rfl : u = eV E := by omega
      exact K σ' x3 v4 hs
    | succ n ih =>
      intro u σ' x3 v4 hu h3 hs
      have hx3 : ix x3 = u := ix_of h3
      have h31 : (x3 + 1).toInt = ((u + 1 : Nat) : Int) := by rw [tq1 x3 (by omega), h3]; omega
      simp only [pI, pL, pR, pV, i10, ↓reduceIte, eF_setOut_50]
      simp only [ile, n1 _ _ hs, h3]
      rw [if_neg (by omega)]
      refine L1 x2 x3 (vy2 (fAr E c a) (eV E) t u) (by omega) (vy2_b ht u) (fun σ2 x4 hs2 => ?_) (eV E) 0 σ' 0 (by omega) rfl hs
      rw [hx3] at hs2
      simp only [pI, pL, pR, pV, i10, ↓reduceIte, eF_setOut_106]
      exact hF_setOut_50 _ _ _ _ _ (ih (u + 1) σ2 (x3 + 1) _ (by omega) h31 hs2)
  -- rounds
  have L3 : ∀ (n r : Nat) (σ' : Sg) (x2 : Int32) (v3 v4 : Value), r + n = eV E → x2.toInt = r → VS lws E c a (vy3 (fAr E c a) (eV E) (vy0 (ix f)) r) σ σ' → bF_setOut_37 true NOB (wp true (d + 7)) Φ (kF_setOut (d + 7) Φ) [.ref 111, .int f, .int x2, v3, v4] [] σ' := by
    intro n
    induction n with
    | zero =>
      intro r σ' x2 v3 v4 hr h2 hs
      simp only [pI, pL, pR, pV, i10, ↓reduceIte, eF_setOut_37]
      simp only [ile, n1 _ _ hs, h2]
      rw [if_pos (by omega)]
      simp only [pI, pL, pR, pV, i10, ↓reduceIte, eF_setOut_118]
      obtain rfl : r = eV E := by omega
      exact h σ' hs
    | succ n ih =>
      intro r σ' x2 v3 v4 hr h2 hs
      have h21 : (x2 + 1).toInt = ((r + 1 : Nat) : Int) := by rw [tq1 x2 (by omega), h2]; omega
      simp only [pI, pL, pR, pV, i10, ↓reduceIte, eF_setOut_37]
      simp only [ile, n1 _ _ hs, h2]
      rw [if_neg (by omega)]
      refine L2 x2 (vy3 (fAr E c a) (eV E) (vy0 (ix f)) r) (vy3_b (fun _ => vy0_b) r) (fun σ2 x3 v4 hs2 => ?_) (eV E) 0 σ' 0 v4 (by omega) rfl hs
      simp only [pI, pL, pR, pV, i10, ↓reduceIte, eF_setOut_112]
      exact hF_setOut_37 _ _ _ _ _ (ih (r + 1) σ2 (x2 + 1) _ _ (by omega) h21 hs2)
  -- the first row
  have L0 : ∀ (n k : Nat) (σ' : Sg) (x2 : Int32), k + n = 6 → x2.toInt = k → Fi XS σ σ' → Wd lws E c a σ' → SpX E c σ' → (∀ j, j < k → rd σ' 114 j = vy0 (ix f) j) → bF_setOut_6 true NOB (wp true (d + 7)) Φ (kF_setOut (d + 7) Φ) [.ref 111, .int f, .int x2, .retAddr 0, .retAddr 0] [] σ' := by
    intro n
    induction n with
    | zero =>
      intro k σ' x2 hk h2 hF hW hS hj
      simp only [pI, pL, pR, pV, i10, ↓reduceIte, eF_setOut_6]
      simp only [ile, h2, k6]
      rw [if_pos (by omega)]
      simp only [pI, pL, pR, pV, i10, ↓reduceIte, eF_setOut_35]
      exact L3 (eV E) 0 σ' 0 _ _ (by omega) rfl ⟨hF, hW, hS, fun j hj6 => hj j (by omega)⟩
    | succ n ih =>
      intro k σ' x2 hk h2 hF hW hS hj
      have hx2 : ix x2 = k := ix_of h2
      have h21 : (x2 + 1).toInt = ((k + 1 : Nat) : Int) := by rw [tq1 x2 (by omega), h2]; omega
      have fin : ∀ v : Int32, v.toInt = vy0 (ix f) k → bF_setOut_28 true NOB (wp true (d + 7)) Φ (kF_setOut (d + 7) Φ) [.ref 111, .int f, .int x2, .retAddr 0, .retAddr 0] [.int v, .int x2, .ref 114] σ' := by
        intro v hv
        have hF1 : Fr XS σ' (sI σ' 114 k v) := Fr.sI (inS_r (lo := 0) (hi := 6) (by decide) ⟨Nat.zero_le _, by omega⟩)
        simp only [pI, pL, pR, pV, i10, ↓reduceIte, eF_setOut_28]
        rw [hx2]
        refine ⟨⟨by omega, by omega⟩, hF_setOut_6 _ _ _ _ _ (ih (k + 1) _ (x2 + 1) (by omega) h21 (hF.tr hF1.fi) (hW.x hF1.fi) hS.put (fun j hjk => ?_))⟩
        by_cases e : j = k
        · subst e
          rw [rdeq, hv]
        · rw [rdne2 e]
          exact hj j (by omega)
      have cf : (x2 = f) = (k = ix f) := by
        simp only [ieq, h2]
        exact propext (by omega)
      simp only [pI, pL, pR, pV, i10, ↓reduceIte, eF_setOut_6]
      simp only [ile, h2, k6, cf]
      rw [if_neg (by omega)]
      unfold vy0 at fin
      split
      next z =>
        rw [if_pos z] at fin
        exact fin 0 rfl
      next z =>
        rw [if_neg z] at fin
        simp only [pI, pL, pR, pV, i10, ↓reduceIte, eF_setOut_26]
        exact fin 61 rfl
  apply wF_setOut
  simp only [pI, pL, pR, pV, i10, ↓reduceIte, eF_setOut_0]
  refine sF_speeds g (fun σ1 hF hs1 hs2 => ?_)
  simp only [pI, pL, pR, pV, i10, ↓reduceIte, eF_setOut_4]
  exact L0 6 0 σ1 0 rfl rfl hF (g.x hF) ⟨hs1, hs2⟩ (fun j hj => by omega)
theorem lF_lastAhead {d : Nat} {Φ : Po} {lws : Lws} {E : En} {c : Co} {a : Nat → Int} {t : Nat → Nat} {to : Int32} {R : Int} {σ0 σ : Sg} (hs : VS lws E c a t σ0 σ) (ht61 : ∀ x, t x ≤ 61) (hto : 0 ≤ to.toInt ∧ to.toInt < eV E) (h : ∀ v : Int32, v.toInt = R → Φ (some (.int v)) σ) :
    ∀ (n u : Nat) (x2 : Int32), u + n = eV E → x2.toInt = u → vfst E c a t (ix to) n u = R → bF_lastAhead_2 true NOB (wp true (d + 3)) Φ (kF_lastAhead (d + 3) Φ) [.ref 111, .int to, .int x2] [] σ := by
  have n6 := hs.2.1.nv.2.2.2.2.2.2.2
  have n1 : (gI σ 1 6).toInt = eV E := hs.2.1.nv.2.1
  have htx := ix_to hto.1
  intro n
  induction n with
  | zero =>
    intro u x2 hu h2 hR
    simp only [pI, pL, pR, pV, i10, ↓reduceIte, eF_lastAhead_2]
    simp only [ile, n1, h2]
    rw [if_pos (by omega)]
    simp only [pI, pL, pR, pV, i10, ↓reduceIte, eF_lastAhead_36]
    exact h _ hR
  | succ n ih =>
    intro u x2 hu h2 hR
    have hx2 : ix x2 = u := ix_of h2
    have h21 : (x2 + 1).toInt = ((u + 1 : Nat) : Int) := by rw [tq1 x2 (by omega), h2]; omega
    have hR : (if fAr E c a u (ix to) (t u) = t (ix to) then (u : Int) else vfst E c a t (ix to) n (u + 1)) = R := hR
    simp only [pI, pL, pR, pV, i10, ↓reduceIte, eF_lastAhead_2]
    simp only [ile, n1, h2]
    rw [if_neg (by omega)]
    refine sF_arrival hs.2.1 hs.2.2.1 hs.2.2.2 ht61 (by omega) hto (fun l hl => ?_)
    rw [hx2] at hl
    have ct : (l = gI σ 114 (ix to)) = (fAr E c a u (ix to) (t u) = t (ix to)) := by
      have : (gI σ 114 (ix to)).toInt = t (ix to) := hs.2.2.2 _ (by omega)
      simp only [ieq, hl, this]
      exact propext (by omega)
    simp only [pI, pL, pR, pV, i10, ↓reduceIte, eF_lastAhead_19]
    simp only [ct]
    refine ⟨⟨by omega, by omega⟩, ?_⟩
    split
    next z =>
      rw [if_pos z] at hR
      exact h _ (by rw [h2]; exact hR)
    next z =>
      rw [if_neg z] at hR
      simp only [pI, pL, pR, pV, i10, ↓reduceIte, eF_lastAhead_30]
      exact hF_lastAhead_2 _ _ _ _ _ (ih (u + 1) (x2 + 1) (by omega) h21 hR)
