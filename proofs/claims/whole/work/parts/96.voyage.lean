/-! A VOYAGE: the pair -/
theorem sM_laySpeeds {d : Nat} {Φ : Po} {lws : Lws} {E : En} {c : Co} {a : Nat → Int} {σ : Sg} (g : Wd lws E c a σ) (h : ∀ σ' : Sg, Fi MS σ σ' → SpM E c σ' → Φ none σ') : wp true (d + 12) nM_laySpeeds [.ref 120] σ Φ := by
  obtain ⟨hO, -, -, hE, hc, hT⟩ := g.all
  have c0 : canN c 0 = 0 := by unfold canN; omega
  apply wM_laySpeeds
  simp only [pI, pL, pR, pV, i10, ↓reduceIte, eM_laySpeeds_0]
  refine sM_setAside (fun σ1 h1 h2 hz h28 => ?_)
  simp only [pI, pL, pR, pV, i10, ↓reduceIte, eM_laySpeeds_4]
  refine lM_speeds hO hT (aside_me h1 hE) (fun σ2 σ3 h3 h35 hs h4 h5 h6 => ?_) 60 0 _ 0 _ rfl rfl (Fr.sI (inS_r (lo := 35) (hi := 36) (List.mem_append_right _ List.mem_cons_self) (by omega))) ?_ ?_ ?_ ?_ (fun k hk => by omega)
  · refine h σ3 (put_fi g.1.fl h1 h2 h3 h4 h5 h6 FVysub FVy129) ⟨?_, fun k hk => ?_⟩
    · have e : inS [(121, 8, 84), (120, 24, 25)] 120 35 = false := rfl
      rw [h4.rd e]
      exact h35
    · have e : inS [(121, 8, 84), (120, 24, 25)] 133 k = false := not_inS (fun e he z => by
        have : ∀ e, e ∈ ([(121, 8, 84), (120, 24, 25)] : Ls) → e.1 ≠ 133 := by decide
        exact this e he z.1)
      rw [h4.rd e]
      exact hs k hk
  · rw [mc_ne (by omega), aside_mc h1]
    simp only [c0]
    exact hc
  · rw [rdne2 (by omega), h28]
    simp only [c0]
    rfl
  · rw [rdne2 (by omega)]
    exact hz
  · rw [rdeq]
    simp only [c0]
    rfl
theorem lM_ahead {d : Nat} {Φ : Po} {lws : Lws} {E : En} {c : Co} {a : Nat → Int} {t : Nat → Nat} {x1 to x3 : Int32} {v5 v6 : Value} {R : Int} {σ0 σ : Sg} (hs : VSm lws E c a t σ0 σ) (ht61 : ∀ x, t x ≤ 61) (hto : 0 ≤ to.toInt ∧ to.toInt < eV E) (h : ∀ v : Int32, v.toInt = R → Φ (some (.int v)) σ) :
    ∀ (n u : Nat) (x4 : Int32), u + n = eV E → x4.toInt = u → (∃ x, u ≤ x ∧ x < eV E ∧ fAr E c a x (ix to) (t x) = t (ix to)) → vfst E c a t (ix to) n u = R → bM_voyage_188 true NOB (wp true (d + 3)) Φ (kM_voyage (d + 3) Φ) [.ref 120, .int x1, .int to, .int x3, .int x4, v5, v6] [] σ := by
  have n6 := hs.2.1.nv.2.2.2.2.2.2.2
  have htx := ix_to hto.1
  have fb := (fAr_far (E := E) (c := c) (a := a)).1
  intro n
  induction n with
  | zero =>
    intro u x4 hu h4 hx hR
    obtain ⟨x, hx1, hx2, hx3⟩ := hx
    omega
  | succ n ih =>
    intro u x4 hu h4 hx hR
    have hx4 : ix x4 = u := ix_of h4
    have h41 : (x4 + 1).toInt = ((u + 1 : Nat) : Int) := by rw [tq1 x4 (by omega), h4]; omega
    have hR : (if fAr E c a u (ix to) (t u) = t (ix to) then (u : Int) else vfst E c a t (ix to) n (u + 1)) = R := hR
    simp only [pI, pL, pR, pV, i10, ↓reduceIte, eM_voyage_188]
    refine sM_arrival hs.2.1 hs.2.2.1 hs.2.2.2 ht61 (by omega) hto (fun l hl => ?_)
    rw [hx4] at hl
    have ct : (l = gI σ 134 (ix to)) = (fAr E c a u (ix to) (t u) = t (ix to)) := by
      have : (gI σ 134 (ix to)).toInt = bg (t (ix to)) := hs.2.2.2 _ (by omega)
      simp only [ieq, hl, this]
      exact bg_eq (fb _ _ _).1 (ht61 _)
    simp only [pI, pL, pR, pV, i10, ↓reduceIte, eM_voyage_195]
    simp only [ct]
    refine ⟨⟨by omega, by omega⟩, ?_⟩
    split
    next z =>
      rw [if_pos z] at hR
      simp only [pI, pL, pR, pV, i10, ↓reduceIte, eM_voyage_210]
      exact h _ (by rw [h4]; exact hR)
    next z =>
      rw [if_neg z] at hR
      obtain ⟨x, hx1, hx2, hx3⟩ := hx
      have hne : x ≠ u := fun e => by subst e; exact z hx3
      exact hM_voyage_188 _ _ _ _ _ (ih (u + 1) (x4 + 1) (by omega) h41 ⟨x, by omega, hx2, hx3⟩ hR)
/-- the reference's table of all villages -/
theorem lM_table {d : Nat} {Φ : Po} {lws : Lws} {E : En} {c : Co} {a : Nat → Int} {f to x3 : Int32} {σ σ0 : Sg} (g : Wd lws E c a σ0) (hF0 : Fi MS σ σ0) (hS0 : SpM E c σ0) (hf : 0 ≤ f.toInt ∧ f.toInt < eV E) (h : ∀ (σ' : Sg) (x4 : Int32) (v5 v6 : Value), VSm lws E c a (vyF E c a (ix f)) σ σ' → bM_voyage_152 true NOB (wp true (d + 3)) Φ (kM_voyage (d + 3) Φ) [.ref 120, .int f, .int to, .int x3, .int x4, v5, v6] [] σ') : bM_voyage_23 true NOB (wp true (d + 3)) Φ (kM_voyage (d + 3) Φ) [.ref 120, .int f, .int to, .int x3, .retAddr 0, .retAddr 0, .retAddr 0] [] σ0 := by
  have n6 := g.nv.2.2.2.2.2.2.2
  have hfx := ix_to hf.1
  have k6 : (6 : Int32).toInt = 6 := rfl
  have fb := (fAr_far (E := E) (c := c) (a := a)).1
  have n1 : ∀ (t : Nat → Nat) (σ' : Sg), VSm lws E c a t σ σ' → (gI σ' 121 (ix 1)).toInt = eV E := fun t σ' q => q.2.1.nv.2.2.2.1
  have i1 : inb 1 4016 := ⟨by decide, by decide⟩
  -- v
  have L1 : ∀ (x4 u : Int32) (t : Nat → Nat), 0 ≤ u.toInt ∧ u.toInt < eV E → (∀ x, t x ≤ 61) → (∀ (σ' : Sg) (x6 : Int32), VSm lws E c a (vy1 (fAr E c a) (ix u) t (eV E)) σ σ' → bM_voyage_140 true NOB (wp true (d + 3)) Φ (kM_voyage (d + 3) Φ) [.ref 120, .int f, .int to, .int x3, .int x4, .int u, .int x6] [] σ') →
      ∀ (n v : Nat) (σ' : Sg) (x6 : Int32), v + n = eV E → x6.toInt = v → VSm lws E c a (vy1 (fAr E c a) (ix u) t v) σ σ' → bM_voyage_90 true NOB (wp true (d + 3)) Φ (kM_voyage (d + 3) Φ) [.ref 120, .int f, .int to, .int x3, .int x4, .int u, .int x6] [] σ' := by
    intro x4 u t hu ht K n
    induction n with
    | zero =>
      intro v σ' x6 hv h6 hs
      simp only [pI, pL, pR, pV, i10, ↓reduceIte, eM_voyage_90]
      simp only [ile, n1 _ _ hs, h6]
      rw [if_pos (by omega)]
      obtain rfl : v = eV E := by omega
      exact ⟨i1, K σ' x6 hs⟩
    | succ n ih =>
      intro v σ' x6 hv h6 hs
      have hx6 : ix x6 = v := ix_of h6
      have h61 : (x6 + 1).toInt = ((v + 1 : Nat) : Int) := by rw [tq1 x6 (by omega), h6]; omega
      have hb := vy1_b (f := fAr E c a) (u := ix u) ht v
      have hv4 : (gI σ' 134 v).toInt = bg (vy1 (fAr E c a) (ix u) t v v) := hs.2.2.2 v (by omega)
      simp only [pI, pL, pR, pV, i10, ↓reduceIte, eM_voyage_90]
      simp only [ile, n1 _ _ hs, h6]
      rw [if_neg (by omega)]
      refine ⟨i1, ?_⟩
      refine sM_arrival hs.2.1 hs.2.2.1 hs.2.2.2 hb hu (by omega) (fun l hl => ?_)
      rw [hx6] at hl
      simp only [pI, pL, pR, pV, i10, ↓reduceIte, eM_voyage_109]
      rw [hx6]
      have cl : (gI σ' 134 v ≤ l) = (vy1 (fAr E c a) (ix u) t v v ≤ fAr E c a (ix u) v (vy1 (fAr E c a) (ix u) t v (ix u))) := by
        simp only [ile, hl, hv4]
        exact bg_le (hb _) (fb _ _ _).1
      simp only [cl]
      refine ⟨⟨by omega, by omega⟩, ?_⟩
      have eS : vy1 (fAr E c a) (ix u) t (v + 1) = upn (vy1 (fAr E c a) (ix u) t v) v (min (vy1 (fAr E c a) (ix u) t v v) (fAr E c a (ix u) v (vy1 (fAr E c a) (ix u) t v (ix u)))) := rfl
      split
      next z =>
        rw [Nat.min_eq_left z, upn_id] at eS
        simp only [pI, pL, pR, pV, i10, ↓reduceIte, eM_voyage_134]
        exact hM_voyage_90 _ _ _ _ _ (ih (v + 1) σ' (x6 + 1) (by omega) h61 (by rw [eS]; exact hs))
      next z =>
        rw [Nat.min_eq_right (by omega)] at eS
        refine sM_arrival hs.2.1 hs.2.2.1 hs.2.2.2 hb hu (by omega) (fun l2 hl2 => ?_)
        rw [hx6] at hl2
        simp only [pI, pL, pR, pV, i10, ↓reduceIte, eM_voyage_133]
        rw [hx6]
        simp only [pI, pL, pR, pV, i10, ↓reduceIte, eM_voyage_134]
        exact ⟨⟨by omega, by omega⟩, hM_voyage_90 _ _ _ _ _ (ih (v + 1) _ (x6 + 1) (by omega) h61 (by rw [eS]; exact hs.put (by omega) hl2))⟩
  -- u
  have L2 : ∀ (x4 : Int32) (t : Nat → Nat), (∀ x, t x ≤ 61) → (∀ (σ' : Sg) (x5 : Int32) (v6 : Value), VSm lws E c a (vy2 (fAr E c a) (eV E) t (eV E)) σ σ' → bM_voyage_146 true NOB (wp true (d + 3)) Φ (kM_voyage (d + 3) Φ) [.ref 120, .int f, .int to, .int x3, .int x4, .int x5, v6] [] σ') →
      ∀ (n u : Nat) (σ' : Sg) (x5 : Int32) (v6 : Value), u + n = eV E → x5.toInt = u → VSm lws E c a (vy2 (fAr E c a) (eV E) t u) σ σ' → bM_voyage_76 true NOB (wp true (d + 3)) Φ (kM_voyage (d + 3) Φ) [.ref 120, .int f, .int to, .int x3, .int x4, .int x5, v6] [] σ' := by
    intro x4 t ht K n
    induction n with
    | zero =>
      intro u σ' x5 v6 hu h5 hs
      simp only [pI, pL, pR, pV, i10, ↓reduceIte, eM_voyage_76]
      simp only [ile, n1 _ _ hs, h5]
      rw [if_pos (by omega)]
      obtain rfl : u = eV E := by omega
      exact ⟨i1, K σ' x5 v6 hs⟩
    | succ n ih =>
      intro u σ' x5 v6 hu h5 hs
      have hx5 : ix x5 = u := ix_of h5
      have h51 : (x5 + 1).toInt = ((u + 1 : Nat) : Int) := by rw [tq1 x5 (by omega), h5]; omega
      simp only [pI, pL, pR, pV, i10, ↓reduceIte, eM_voyage_76]
      simp only [ile, n1 _ _ hs, h5]
      rw [if_neg (by omega)]
      refine ⟨i1, ?_⟩
      refine L1 x4 x5 (vy2 (fAr E c a) (eV E) t u) (by omega) (vy2_b ht u) (fun σ2 x6 hs2 => ?_) (eV E) 0 σ' 0 (by omega) rfl hs
      rw [hx5] at hs2
      simp only [pI, pL, pR, pV, i10, ↓reduceIte, eM_voyage_140]
      exact hM_voyage_76 _ _ _ _ _ (ih (u + 1) σ2 (x5 + 1) _ (by omega) h51 hs2)
  -- rounds
  have L3 : ∀ (n r : Nat) (σ' : Sg) (x4 : Int32) (v5 v6 : Value), r + n = eV E → x4.toInt = r → VSm lws E c a (vy3 (fAr E c a) (eV E) (vy0 (ix f)) r) σ σ' → bM_voyage_62 true NOB (wp true (d + 3)) Φ (kM_voyage (d + 3) Φ) [.ref 120, .int f, .int to, .int x3, .int x4, v5, v6] [] σ' := by
    intro n
    induction n with
    | zero =>
      intro r σ' x4 v5 v6 hr h4 hs
      simp only [pI, pL, pR, pV, i10, ↓reduceIte, eM_voyage_62]
      simp only [ile, n1 _ _ hs, h4]
      rw [if_pos (by omega)]
      obtain rfl : r = eV E := by omega
      exact ⟨i1, h σ' x4 v5 v6 hs⟩
    | succ n ih =>
      intro r σ' x4 v5 v6 hr h4 hs
      have h41 : (x4 + 1).toInt = ((r + 1 : Nat) : Int) := by rw [tq1 x4 (by omega), h4]; omega
      simp only [pI, pL, pR, pV, i10, ↓reduceIte, eM_voyage_62]
      simp only [ile, n1 _ _ hs, h4]
      rw [if_neg (by omega)]
      refine ⟨i1, ?_⟩
      refine L2 x4 (vy3 (fAr E c a) (eV E) (vy0 (ix f)) r) (vy3_b (fun _ => vy0_b) r) (fun σ2 x5 v6 hs2 => ?_) (eV E) 0 σ' 0 v6 (by omega) rfl hs
      simp only [pI, pL, pR, pV, i10, ↓reduceIte, eM_voyage_146]
      exact hM_voyage_62 _ _ _ _ _ (ih (r + 1) σ2 (x4 + 1) _ _ (by omega) h41 hs2)
  -- the first row
  have L0 : ∀ (n k : Nat) (σ' : Sg) (x4 : Int32), k + n = 6 → x4.toInt = k → Fi MS σ σ' → Wd lws E c a σ' → SpM E c σ' → (∀ j, j < k → rd σ' 134 j = bg (vy0 (ix f) j)) → bM_voyage_26 true NOB (wp true (d + 3)) Φ (kM_voyage (d + 3) Φ) [.ref 120, .int f, .int to, .int x3, .int x4, .retAddr 0, .retAddr 0] [] σ' := by
    intro n
    induction n with
    | zero =>
      intro k σ' x4 hk h4 hF hW hS hj
      simp only [pI, pL, pR, pV, i10, ↓reduceIte, eM_voyage_26]
      simp only [ile, h4, k6]
      rw [if_pos (by omega)]
      simp only [pI, pL, pR, pV, i10, ↓reduceIte, eM_voyage_59]
      exact L3 (eV E) 0 σ' 0 _ _ (by omega) rfl ⟨hF, hW, hS, fun j hj6 => hj j (by omega)⟩
    | succ n ih =>
      intro k σ' x4 hk h4 hF hW hS hj
      have hx4 : ix x4 = k := ix_of h4
      have h41 : (x4 + 1).toInt = ((k + 1 : Nat) : Int) := by rw [tq1 x4 (by omega), h4]; omega
      have fin : ∀ v : Int32, v.toInt = bg (vy0 (ix f) k) → bM_voyage_52 true NOB (wp true (d + 3)) Φ (kM_voyage (d + 3) Φ) [.ref 120, .int f, .int to, .int x3, .int x4, .retAddr 0, .retAddr 0] [.int v, .int x4, .ref 134] σ' := by
        intro v hv
        have hF1 : Fr MS σ' (sI σ' 134 k v) := Fr.sI (inS_r (lo := 0) (hi := 6) (by decide) ⟨Nat.zero_le _, by omega⟩)
        simp only [pI, pL, pR, pV, i10, ↓reduceIte, eM_voyage_52]
        rw [hx4]
        refine ⟨⟨by omega, by omega⟩, hM_voyage_26 _ _ _ _ _ (ih (k + 1) _ (x4 + 1) (by omega) h41 (hF.tr hF1.fi) (hW.m hF1.fi) hS.put (fun j hjk => ?_))⟩
        by_cases e : j = k
        · subst e
          rw [rdeq, hv]
        · rw [rdne2 e]
          exact hj j (by omega)
      have cf : (x4 = f) = (k = ix f) := by
        simp only [ieq, h4]
        exact propext (by omega)
      simp only [pI, pL, pR, pV, i10, ↓reduceIte, eM_voyage_26]
      simp only [ile, h4, k6, cf]
      rw [if_neg (by omega)]
      unfold vy0 at fin
      split
      next z =>
        rw [if_pos z] at fin
        exact fin 0 rfl
      next z =>
        rw [if_neg z] at fin
        simp only [pI, pL, pR, pV, i10, ↓reduceIte, eM_voyage_49]
        exact fin 1000000000 rfl
  simp only [pI, pL, pR, pV, i10, ↓reduceIte, eM_voyage_23]
  exact L0 6 0 σ0 0 rfl rfl hF0 g hS0 (fun j hj => by omega)
theorem p_voyage (f t l : Int32) : PairI Rel nX_voyage nM_voyage [.int f, .int t, .int l] := by
  refine qryJ (qVoyage f t l) (fun lws σ Φ hR h => ?_) (fun lws σ Φ hR h => ?_)
  · apply wX_voyage
    simp only [pI, pL, pR, pV, i10, ↓reduceIte, eX_voyage_0]
    have g0 := Wd.i hR
    unfold qVoyage at h
    generalize EE lws σ = E at h g0
    generalize mc σ 121 = c at h g0
    generalize rd σ 121 = a at h g0
    have n1 : rd σ 1 6 = eV E := g0.nv.2.1
    have n6 := g0.nv.2.2.2.2.2.2.2
    have no : ¬ ((0 ≤ f.toInt ∧ f.toInt < eV E) ∧ (0 ≤ t.toInt ∧ t.toInt < eV E)) → bX_voyage_22 true NOB (wp true 12) Φ (kX_voyage 12 Φ) [.ref 0, .int f, .int t, .int l] [] σ := fun q => by
      rw [if_neg q] at h
      simp only [pI, pL, pR, pV, i10, ↓reduceIte, eX_voyage_22]
      exact h _ _ Fr.rf.fi rfl
    refine sW_isVillage (fun q => ?_) (fun q => ?_)
    · rw [n1] at q
      simp only [pI, pL, pR, pV, i10, ↓reduceIte, eX_voyage_8]
      refine sW_isVillage (fun q2 => ?_) (fun q2 => ?_)
      · rw [n1] at q2
        rw [if_pos ⟨q, q2⟩] at h
        have hfx := ix_to q.1
        have htx := ix_to q2.1
        simp only [pI, pL, pR, pV, i10, ↓reduceIte, eX_voyage_19, eX_voyage_25]
        simp only [ieq]
        split
        next z =>
          rw [if_pos z] at h
          simp only [ieq] at h
          split
          next y =>
            rw [if_pos y] at h
            simp only [pI, pL, pR, pV, i10, ↓reduceIte, eX_voyage_38, eX_voyage_39]
            exact h _ _ Fr.rf.fi rfl
          next y =>
            rw [if_neg y] at h
            simp only [pI, pL, pR, pV, i10, ↓reduceIte, eX_voyage_39]
            exact h _ _ Fr.rf.fi rfl
        next z =>
          rw [if_neg z] at h
          simp only [pI, pL, pR, pV, i10, ↓reduceIte, eX_voyage_40]
          refine sF_setOut g0 q (fun σ1 hs => ?_)
          have b61 := (vy_ok (fAr_far (E := E) (c := c) (a := a)) (V := eV E) (from' := ix f) (by omega)).1
          have b61 : ∀ x, vyF E c a (ix f) x ≤ 61 := b61
          have h4 : (gI σ1 114 (ix t)).toInt = vyF E c a (ix f) (ix t) := hs.2.2.2 _ (by omega)
          have c61 : (gI σ1 114 (ix t) = 61) = (vyF E c a (ix f) (ix t) = 61) := by
            simp only [ieq, h4, show (61 : Int32).toInt = 61 from rfl]
            exact propext (by omega)
          simp only [pI, pL, pR, pV, i10, ↓reduceIte, eX_voyage_48]
          apply wF_isReached
          simp only [pI, pL, pR, pV, i10, ↓reduceIte, eF_isReached_0]
          simp only [c61]
          refine ⟨⟨by omega, by omega⟩, ?_⟩
          split
          next y =>
            rw [if_pos y] at h
            simp only [pI, pL, pR, pV, i10, ↓reduceIte, eF_isReached_15, eF_isReached_16]
            simp only [zB_0, cond]
            simp only [pI, pL, pR, pV, i10, ↓reduceIte, eX_voyage_56]
            exact h _ _ hs.1 rfl
          next y =>
            rw [if_neg y] at h
            simp only [pI, pL, pR, pV, i10, ↓reduceIte, eF_isReached_16]
            simp only [zB_1, cond]
            simp only [pI, pL, pR, pV, i10, ↓reduceIte, eX_voyage_56, eX_voyage_62]
            split
            next u =>
              rw [if_pos u] at h
              simp only [pI, pL, pR, pV, i10, ↓reduceIte, eX_voyage_77, eX_voyage_86]
              exact ⟨⟨by omega, by omega⟩, h _ _ hs.1 h4⟩
            next u =>
              rw [if_neg u] at h
              apply wF_lastAhead
              simp only [pI, pL, pR, pV, i10, ↓reduceIte, eF_lastAhead_0]
              refine lF_lastAhead hs b61 q2 (fun v hv => ?_) (eV E) 0 0 (by omega) rfl rfl
              simp only [pI, pL, pR, pV, i10, ↓reduceIte, eX_voyage_74, eX_voyage_86]
              exact h _ _ hs.1 hv
      · rw [n1] at q2
        simp only [pI, pL, pR, pV, i10, ↓reduceIte, eX_voyage_19]
        exact no (fun x => q2 x.2)
    · rw [n1] at q
      simp only [pI, pL, pR, pV, i10, ↓reduceIte, eX_voyage_8]
      exact no (fun x => q x.1)
  · apply wM_voyage
    simp only [pI, pL, pR, pV, i10, ↓reduceIte, eM_voyage_0]
    have g0 := Wd.i hR
    unfold qVoyage at h
    generalize EE lws σ = E at h g0
    generalize mc σ 121 = c at h g0
    generalize rd σ 121 = a at h g0
    have n1 : rd σ 121 1 = eV E := g0.nv.2.2.2.1
    have n6 := g0.nv.2.2.2.2.2.2.2
    have b1 : 0 ≤ rd σ 121 1 ∧ rd σ 121 1 ≤ 6 := by omega
    have no : ¬ ((0 ≤ f.toInt ∧ f.toInt < eV E) ∧ (0 ≤ t.toInt ∧ t.toInt < eV E)) → bM_voyage_16 true NOB (wp true 12) Φ (kM_voyage 12 Φ) [.ref 120, .int f, .int t, .int l, .retAddr 0, .retAddr 0, .retAddr 0] [] σ := fun q => by
      rw [if_neg q] at h
      simp only [pI, pL, pR, pV, i10, ↓reduceIte, eM_voyage_16]
      exact h _ _ Fr.rf.fi rfl
    refine sM_isVillage b1 (fun q => ?_) (fun q => ?_)
    · rw [n1] at q
      simp only [pI, pL, pR, pV, i10, ↓reduceIte, eM_voyage_5]
      refine sM_isVillage b1 (fun q2 => ?_) (fun q2 => ?_)
      · rw [n1] at q2
        rw [if_pos ⟨q, q2⟩] at h
        have hfx := ix_to q.1
        have htx := ix_to q2.1
        simp only [pI, pL, pR, pV, i10, ↓reduceIte, eM_voyage_13, eM_voyage_19]
        refine sM_laySpeeds (d := 0) g0 (fun σ1 hF1 hS1 => ?_)
        refine lM_table (d := 9) (g0.m hF1) hF1 hS1 q (fun σ2 x4 v5 v6 hs => ?_)
        obtain ⟨b61, bf0, bex⟩ := vy_ok (fAr_far (E := E) (c := c) (a := a)) (V := eV E) (from' := ix f) (by omega)
        have b61 : ∀ x, vyF E c a (ix f) x ≤ 61 := b61
        have bf0 : vyF E c a (ix f) (ix f) = 0 := bf0
        have h4 : (gI σ2 134 (ix t)).toInt = bg (vyF E c a (ix f) (ix t)) := hs.2.2.2 _ (by omega)
        have c61 : (gI σ2 134 (ix t) = 1000000000) = (vyF E c a (ix f) (ix t) = 61) := by
          simp only [ieq, h4, show (1000000000 : Int32).toInt = 1000000000 from rfl]
          exact bg_61 (b61 _)
        simp only [pI, pL, pR, pV, i10, ↓reduceIte, eM_voyage_152]
        simp only [c61]
        refine ⟨⟨by omega, by omega⟩, ?_⟩
        by_cases z : f.toInt = t.toInt
        · rw [if_pos z] at h
          have e : ix t = ix f := by omega
          have h0 : (gI σ2 134 (ix t)).toInt = 0 := by rw [h4, e, bf0]; rfl
          rw [if_neg (by rw [e, bf0]; omega)]
          simp only [pI, pL, pR, pV, i10, ↓reduceIte, eM_voyage_167]
          split
          next y =>
            rw [if_pos y] at h
            exact ⟨⟨by omega, by omega⟩, h _ _ hs.1 h0⟩
          next y =>
            rw [if_neg y] at h
            simp only [pI, pL, pR, pV, i10, ↓reduceIte, eM_voyage_178]
            simp only [ieq]
            rw [if_pos z]
            exact h _ _ hs.1 rfl
        · rw [if_neg z] at h
          split
          next y =>
            rw [if_pos y] at h
            exact h _ _ hs.1 rfl
          next y =>
            rw [if_neg y] at h
            rw [bg_n y] at h4
            simp only [pI, pL, pR, pV, i10, ↓reduceIte, eM_voyage_167]
            split
            next u =>
              rw [if_pos u] at h
              exact ⟨⟨by omega, by omega⟩, h _ _ hs.1 h4⟩
            next u =>
              rw [if_neg u] at h
              simp only [pI, pL, pR, pV, i10, ↓reduceIte, eM_voyage_178]
              simp only [ieq]
              rw [if_neg z]
              simp only [pI, pL, pR, pV, i10, ↓reduceIte, eM_voyage_185]
              have b61t := b61 (ix t)
              obtain ⟨x, hx1, hx2⟩ := bex (ix t) (by omega) (by omega) (by show vyF E c a (ix f) (ix t) < 61; omega)
              exact lM_ahead hs b61 q2 (fun v hv => h _ _ hs.1 hv) (eV E) 0 0 (by omega) rfl ⟨x, by omega, hx1, hx2⟩ rfl
      · rw [n1] at q2
        simp only [pI, pL, pR, pV, i10, ↓reduceIte, eM_voyage_13]
        exact no (fun x => q2 x.2)
    · rw [n1] at q
      simp only [pI, pL, pR, pV, i10, ↓reduceIte, eM_voyage_5]
      exact no (fun x => q x.1)
