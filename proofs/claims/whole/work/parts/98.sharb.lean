/-! SHARES: the class -/
theorem bitK0 : ∀ s, s < 64 → ∀ w, w < 6 → decide (((Int32.ofNat s >>> (Int32.ofNat w &&& 31)) &&& 1) = 0) = !s.testBit w := by decide +kernel
theorem bitI0 {x y : Int32} {s w : Nat} (hx : x.toInt = s) (hs : s < 64) (hy : y.toInt = w) (hw : w < 6) : (((x >>> (y &&& 31)) &&& 1) = 0) = (s.testBit w = false) := by
  have ex : x = Int32.ofNat s := ofN hx (by omega)
  have ey : y = Int32.ofNat w := ofN hy (by omega)
  have h := bitK0 s hs w hw
  rw [ex, ey]
  refine propext ⟨fun q => ?_, fun q => ?_⟩
  · rw [decide_eq_true q] at h
    cases z : s.testBit w
    · rfl
    · rw [z] at h
      cases h
  · rw [q] at h
    exact of_decide_eq_true h
theorem andK : ∀ a, a < 64 → ∀ s, s < 64 → decide ((Int32.ofNat a &&& (Int32.ofNat s ^^^ (-1))) = 0) = (a &&& s == a) := by decide +kernel
theorem andI {x y : Int32} {a s : Nat} (hx : x.toInt = a) (ha : a < 64) (hy : y.toInt = s) (hs : s < 64) : ((x &&& (y ^^^ (-1))) = 0) = ((a &&& s == a) = true) := by
  have ex : x = Int32.ofNat a := ofN hx (by omega)
  have ey : y = Int32.ofNat s := ofN hy (by omega)
  have h := andK a ha s hs
  rw [ex, ey, ← h]
  exact propext decide_eq_true_iff.symm
theorem bcK : ∀ a, a < 64 → decide (bcV (Int32.ofNat a) = Int32.ofNat (pc a)) = true := by decide +kernel
theorem pc_b {a : Nat} : pc a ≤ 6 := by
  have b : ∀ x : Bool, x.toNat ≤ 1 := fun x => by cases x <;> decide
  have h0 := b (a.testBit 0)
  have h1 := b (a.testBit 1)
  have h2 := b (a.testBit 2)
  have h3 := b (a.testBit 3)
  have h4 := b (a.testBit 4)
  have h5 := b (a.testBit 5)
  unfold pc
  omega
theorem bcI {x : Int32} {a : Nat} (hx : x.toInt = a) (ha : a < 64) : (bcV x).toInt = pc a := by
  have ex : x = Int32.ofNat a := ofN hx (by omega)
  have := pc_b (a := a)
  rw [ex, of_decide_eq_true (bcK a ha)]
  exact toInt_of rfl (by omega)
theorem pcK : ∀ s, s < 64 → ∀ v, v < 6 → ∀ a, a < 64 → (!(s.testBit v) || (!(okA s v a) || decide (pc a + 1 ≤ pc s))) = true := by decide +kernel
theorem pcI {s v a : Nat} (hs : s < 64) (hv : v < 6) (ha : a < 64) (hb : s.testBit v = true) (ho : okA s v a = true) : pc a + 1 ≤ pc s := by
  have h := pcK s hs v hv a ha
  rw [hb, ho, Bool.not_true, Bool.false_or, Bool.false_or] at h
  exact of_decide_eq_true h
theorem ordK : ∀ n, n < 7 → (ordL.getD n 0).toInt = ordN n := by decide
theorem shB {T : Nat → Int} {s v : Nat} (hT : ∀ k, 0 ≤ T k ∧ T k ≤ 99) : ∀ n, shA T s v n ≤ 51321600 * n
  | 0 => Nat.le_refl _
  | n + 1 => by
    have ih := shB (s := s) (v := v) hT n
    have e : shA T s v (n + 1) = shA T s v n + (if okA s v n = true then wgt s n * gA T v n else 0) := rfl
    have h1 := hT v
    have h2 := mst_r (a := n) hT 6
    have hg : gA T v n ≤ 99 := by
      unfold gA
      omega
    have hw : wgt s n * gA T v n ≤ 720 * 720 * 99 := Nat.mul_le_mul (Nat.mul_le_mul (ordB _) (ordB _)) hg
    rw [e]
    split <;> omega
abbrev FSh : Ls := [(109, 0, 64), (116, 0, 6)]
theorem FShx {σ σ' : Sg} (h : Fr FSh σ σ') : Fr XS σ σ' := h.mo (by decide)
theorem sZ_findTakes {d : Nat} {Φ : Po} {lws : Lws} {E : En} {c : Co} {a : Nat → Int} {w f : Int32} {σ : Sg} (g : Wd lws E c a σ) (hw : 0 ≤ w.toInt ∧ w.toInt < eN E) (hf : 1 ≤ f.toInt ∧ f.toInt ≤ 9) (h : ∀ σ' : Sg, Fr FSh σ σ' → (∀ k, k < eV E → (gI σ' 116 k).toInt = takesF E c (ix w) k f.toInt) → Φ none σ') : wp true (d + 6) nZ_findTakes [.ref 115, .int w, .int f] σ Φ := by
  have n6 := g.nv.2.2.2.2.2.2.2
  have lp : ∀ (n v : Nat) (σ' : Sg) (x3 : Int32), v + n = eV E → x3.toInt = v → Fr FSh σ σ' → (∀ k, k < v → (gI σ' 116 k).toInt = takesF E c (ix w) k f.toInt) → bZ_findTakes_2 true NOB (wp true (d + 5)) Φ (kZ_findTakes (d + 5) Φ) [.ref 115, .int w, .int f, .int x3] [] σ' := by
    intro n
    induction n with
    | zero =>
      intro v σ' x3 hv h3 hF hk
      have n1 := (g.x (FShx hF).fi).nv.2.1
      simp only [pI, pL, pR, pV, i10, ↓reduceIte, eZ_findTakes_2]
      simp only [ile, n1, h3]
      rw [if_pos (by omega)]
      simp only [pI, pL, pR, pV, i10, ↓reduceIte, eZ_findTakes_35]
      exact h σ' hF (fun k q => hk k (by omega))
    | succ n ih =>
      intro v σ' x3 hv h3 hF hk
      have g1 := g.x (FShx hF).fi
      have n1 := g1.nv.2.1
      obtain ⟨hO, hE, hc, -⟩ := g1.all
      have hx3 : ix x3 = v := ix_of h3
      have h31 : (x3 + 1).toInt = ((v + 1 : Nat) : Int) := by rw [tq1 x3 (by omega), h3]; omega
      simp only [pI, pL, pR, pV, i10, ↓reduceIte, eZ_findTakes_2]
      simp only [ile, n1, h3]
      rw [if_neg (by omega)]
      refine sL_takesOf hO hE hc hw (by omega) (by omega) (fun σ1 r hF1 hr => ?_)
      rw [hx3] at hr
      simp only [pI, pL, pR, pV, i10, ↓reduceIte, eZ_findTakes_28]
      rw [hx3]
      refine ⟨⟨by omega, by omega⟩, hZ_findTakes_2 _ _ _ _ _ (ih (v + 1) _ (x3 + 1) (by omega) h31 (hF.tr ((hF1.mo (by decide)).tr (Fr.sI (inS_r (lo := 0) (hi := 6) (by simp) (by omega))))) (fun k hkv => ?_))⟩
      by_cases e : k = v
      · subst e
        rw [gIeq]
        exact hr
      · have e116 : inS F109 116 k = false := not_inS (fun e he z => by
          have : ∀ e, e ∈ F109 → e.1 ≠ 116 := by decide
          exact this e he z.1)
        rw [gIne2 e, hF1.1 _ _ e116]
        exact hk k (by omega)
  apply wZ_findTakes
  simp only [pI, pL, pR, pV, i10, ↓reduceIte, eZ_findTakes_0]
  exact lp (eV E) 0 σ 0 (by omega) rfl Fr.rf (fun k q => by omega)
theorem sQ_mostOf {d : Nat} {Φ : Po} {T : Nat → Int} {a : Nat} {x1 : Int32} {σ : Sg} (hx : x1.toInt = a) (ha : a < 64) (hM : ∀ k, k < 6 → a.testBit k = true → (gI σ 116 k).toInt = T k) (h : ∀ v : Int32, v.toInt = mst T a 6 → Φ (some (.int v)) σ) : wp true (d + 2) nQ_mostOf [.ref 116, .int x1] σ Φ := by
  have k6 : (6 : Int32).toInt = 6 := rfl
  have lp : ∀ (n i : Nat) (x2 x3 : Int32), i + n = 6 → x3.toInt = i → x2.toInt = mst T a i → bQ_mostOf_4 true NOB (wp true (d + 1)) Φ (kQ_mostOf (d + 1) Φ) [.ref 116, .int x1, .int x2, .int x3] [] σ := by
    intro n
    induction n with
    | zero =>
      intro i x2 x3 hi h3 h2
      simp only [pI, pL, pR, pV, i10, ↓reduceIte, eQ_mostOf_4]
      simp only [ile, h3, k6]
      rw [if_pos (by omega)]
      simp only [pI, pL, pR, pV, i10, ↓reduceIte, eQ_mostOf_33]
      obtain rfl : i = 6 := by omega
      exact h _ h2
    | succ n ih =>
      intro i x2 x3 hi h3 h2
      have hx3 : ix x3 = i := ix_of h3
      have h31 : (x3 + 1).toInt = ((i + 1 : Nat) : Int) := by rw [tq1 x3 (by omega), h3]; omega
      have cb := bitI hx ha h3 (by omega)
      have e2 : mst T a (i + 1) = if a.testBit i = true then max (mst T a i) (T i) else mst T a i := rfl
      simp only [pI, pL, pR, pV, i10, ↓reduceIte, eQ_mostOf_4]
      simp only [ile, h3, k6, cb]
      rw [if_neg (by omega)]
      split
      next z =>
        rw [if_pos z] at e2
        refine ⟨⟨by omega, by omega⟩, ?_⟩
        rw [hx3]
        refine sJ_max (fun m hm => ?_)
        rw [h2, hM i (by omega) z] at hm
        simp only [pI, pL, pR, pV, i10, ↓reduceIte, eQ_mostOf_26, eQ_mostOf_27]
        exact hQ_mostOf_4 _ _ _ _ _ (ih (i + 1) _ _ (by omega) h31 (by rw [hm, e2]))
      next z =>
        rw [if_neg z] at e2
        simp only [pI, pL, pR, pV, i10, ↓reduceIte, eQ_mostOf_27]
        exact hQ_mostOf_4 _ _ _ _ _ (ih (i + 1) _ _ (by omega) h31 (by rw [h2, e2]))
  apply wQ_mostOf
  simp only [pI, pL, pR, pV, i10, ↓reduceIte, eQ_mostOf_0]
  exact lp 6 0 0 0 rfl rfl rfl
theorem sQ_setShare {d : Nat} {Φ : Po} {T : Nat → Int} {s v : Nat} {x2 x3 : Int32} {σ : Sg} (hT : ∀ k, 0 ≤ T k ∧ T k ≤ 99) (hx : x2.toInt = s) (hs : s < 64) (hy : x3.toInt = v) (hv : v < 6) (hb : s.testBit v = true) (h5 : pc s ≤ 5) (hM : ∀ k, k < 6 → s.testBit k = true → (gI σ 116 k).toInt = T k) (h : ∀ σ' : Sg, Fr [(85, 0, 3)] σ σ' → (gL σ' 85 0).toInt = (shA T s v 64 / Nat.gcd (ordN (pc s)) (shA T s v 64) : Nat) → (gL σ' 85 1).toInt = (ordN (pc s) / Nat.gcd (ordN (pc s)) (shA T s v 64) : Nat) → Φ none σ') : wp true (d + 3) nQ_setShare [.ref 85, .ref 116, .int x2, .int x3] σ Φ := by
  have k64 : (64 : Int32).toInt = 64 := rfl
  have hc1 := (chS_ok hs hv hb h5).1
  have hx3 : ix x3 = v := ix_of hy
  have lp : ∀ (x4 : Int32), x4.toInt = pc s → ∀ (n a : Nat) (y5 : Int64) (x7 : Int32) (v8 v9 : Value), a + n = 64 → x7.toInt = a → y5.toInt = shA T s v a → bQ_setShare_12 true NOB (wp true (d + 2)) Φ (kQ_setShare (d + 2) Φ) [.ref 85, .ref 116, .int x2, .int x3, .int x4, .long y5, .retAddr 0, .int x7, v8, v9, .retAddr 0] [] σ := by
    intro x4 h4 n
    induction n with
    | zero =>
      intro a y5 x7 v8 v9 ha h7 hy5
      simp only [pI, pL, pR, pV, i10, ↓reduceIte, eQ_setShare_12]
      simp only [ile, h7, k64]
      rw [if_pos (by omega)]
      obtain rfl : a = 64 := by omega
      have hix : ix x4 = pc s := ix_of h4
      simp only [pI, pL, pR, pV, i10, ↓reduceIte, eQ_setShare_95]
      rw [hix]
      have hB : (Int32.toInt64 (ordL.getD (pc s) 0)).toInt = ordN (pc s) := by rw [Int32.toInt_toInt64]; exact ordK _ (by omega)
      have hB0 : 0 < ordN (pc s) := by
        have : pc s = 1 ∨ pc s = 2 ∨ pc s = 3 ∨ pc s = 4 ∨ pc s = 5 := by omega
        rcases this with e | e | e | e | e <;> rw [e] <;> decide
      have hB7 := ordB (pc s)
      refine ⟨⟨by omega, by omega⟩, ?_⟩
      refine sQ_set hy5 hB hB0 (by omega) (fun σ' hF g0 g1 => ?_)
      simp only [pI, pL, pR, pV, i10, ↓reduceIte, eQ_setShare_108]
      exact h σ' hF g0 g1
    | succ n ih =>
      intro a y5 x7 v8 v9 ha h7 hy5
      have h71 : (x7 + 1).toInt = ((a + 1 : Nat) : Int) := by rw [tq1 x7 (by omega), h7]; omega
      have eS : shA T s v (a + 1) = shA T s v a + (if okA s v a = true then wgt s a * gA T v a else 0) := rfl
      have c1 := andI h7 (by omega) hx hs
      have c2 := bitI0 h7 (by omega) hy hv
      have next : ∀ (y5' : Int64) (v8' v9' : Value), y5'.toInt = shA T s v (a + 1) → bQ_setShare_89 true NOB (wp true (d + 2)) Φ (kQ_setShare (d + 2) Φ) [.ref 85, .ref 116, .int x2, .int x3, .int x4, .long y5', .retAddr 0, .int x7, v8', v9', .retAddr 0] [] σ := by
        intro y5' v8' v9' q
        simp only [pI, pL, pR, pV, i10, ↓reduceIte, eQ_setShare_89]
        exact hQ_setShare_12 _ _ _ _ _ (ih (a + 1) _ _ _ _ (by omega) h71 q)
      simp only [pI, pL, pR, pV, i10, ↓reduceIte, eQ_setShare_12]
      simp only [ile, h7, k64, c1, c2]
      rw [if_neg (by omega)]
      have skip : okA s v a = false → bQ_setShare_89 true NOB (wp true (d + 2)) Φ (kQ_setShare (d + 2) Φ) [.ref 85, .ref 116, .int x2, .int x3, .int x4, .long y5, .retAddr 0, .int x7, v8, v9, .retAddr 0] [] σ := fun q => next y5 v8 v9 (by rw [eS, q, if_neg (by decide), hy5, Nat.add_zero])
      split
      next z1 =>
        split
        next z2 =>
          have ho : okA s v a = true := by
            unfold okA
            rw [z1, z2]
            rfl
          rw [if_pos ho] at eS
          have hpc := pcI hs hv (by omega : a < 64) hb ho
          have hba := bcI h7 (by omega : a < 64)
          have hp6 := pc_b (a := a)
          have hsub : ∀ k, k < 6 → a.testBit k = true → (gI σ 116 k).toInt = T k := fun k hk q => hM k hk (by
            have e : a &&& s = a := eq_of_beq z1
            rw [← e, Nat.testBit_and, Bool.and_eq_true] at q
            exact q.2)
          refine sJ_bits ?_
          have i1 : ix (bcV x7) = pc a := ix_of hba
          have e4 : (x4 - 1 - bcV x7).toInt = ((pc s - 1 - pc a : Nat) : Int) := by
            have e41 : (x4 - 1).toInt = (pc s : Int) - 1 := by rw [tM (by rw [h4, tl1]; omega), h4, tl1]
            rw [tM (by rw [e41, hba]; omega), e41, hba]
            omega
          have i2 : ix (x4 - 1 - bcV x7) = pc s - 1 - pc a := ix_of e4
          simp only [pI, pL, pR, pV, i10, ↓reduceIte, eQ_setShare_42]
          rw [i1, i2, hx3]
          refine ⟨⟨by omega, by omega⟩, ⟨by omega, by omega⟩, ⟨by omega, by omega⟩, ?_⟩
          refine sQ_mostOf h7 (by omega) hsub (fun m hm => ?_)
          have hTv := hM v hv hb
          have h1 := hT v
          have h2 := mst_r (a := a) hT 6
          have ed : (gI σ 116 v - m).toInt = T v - mst T a 6 := by rw [tM (by rw [hTv, hm]; omega), hTv, hm]
          simp only [pI, pL, pR, pV, i10, ↓reduceIte, eQ_setShare_80]
          refine sJ_max (fun r hr => ?_)
          rw [ed, tl0] at hr
          have hg : r.toInt = gA T v a := by
            rw [hr]
            unfold gA
            omega
          have hg99 : gA T v a ≤ 99 := by
            unfold gA
            omega
          have o1 : (Int32.toInt64 (ordL.getD (pc a) 0)).toInt = ordN (pc a) := by rw [Int32.toInt_toInt64]; exact ordK _ (by omega)
          have o2 : (Int32.toInt64 (ordL.getD (pc s - 1 - pc a) 0)).toInt = ordN (pc s - 1 - pc a) := by rw [Int32.toInt_toInt64]; exact ordK _ (by omega)
          have hw7 : wgt s a ≤ 720 * 720 := Nat.mul_le_mul (ordB _) (ordB _)
          have hwt : (Int32.toInt64 (ordL.getD (pc a) 0)).toInt * (Int32.toInt64 (ordL.getD (pc s - 1 - pc a) 0)).toInt = (wgt s a : Nat) := by
            rw [o1, o2]
            exact (Int.natCast_mul _ _).symm
          have hw : (Int32.toInt64 (ordL.getD (pc a) 0) * Int32.toInt64 (ordL.getD (pc s - 1 - pc a) 0)).toInt = (wgt s a : Nat) := by rw [jX (by rw [hwt]; omega), hwt]
          have hpt : (Int32.toInt64 (ordL.getD (pc a) 0) * Int32.toInt64 (ordL.getD (pc s - 1 - pc a) 0)).toInt * (Int32.toInt64 r).toInt = (wgt s a * gA T v a : Nat) := by
            rw [hw, Int32.toInt_toInt64, hg]
            exact (Int.natCast_mul _ _).symm
          have hp99 : wgt s a * gA T v a ≤ 720 * 720 * 99 := Nat.mul_le_mul hw7 hg99
          have hB := shB (s := s) (v := v) hT a
          generalize wgt s a * gA T v a = P at *
          generalize shA T s v a = A at *
          have hp : (Int32.toInt64 (ordL.getD (pc a) 0) * Int32.toInt64 (ordL.getD (pc s - 1 - pc a) 0) * Int32.toInt64 r).toInt = (P : Nat) := by rw [jX (by rw [hpt]; omega), hpt]
          simp only [pI, pL, pR, pV, i10, ↓reduceIte, eQ_setShare_84]
          refine next _ _ _ ?_
          rw [jP (by rw [hy5, hp]; omega), hy5, hp, eS]
          omega
        next z2 =>
          refine skip ?_
          unfold okA
          have : a.testBit v = true := by
            cases q : a.testBit v
            · exact absurd q z2
            · rfl
          rw [this, Bool.not_true, Bool.and_false]
      next z1 =>
        refine skip ?_
        unfold okA
        have : (a &&& s == a) = false := Bool.eq_false_iff.mpr z1
        rw [this, Bool.false_and]
  apply wQ_setShare
  simp only [pI, pL, pR, pV, i10, ↓reduceIte, eQ_setShare_0]
  refine sJ_bits ?_
  simp only [pI, pL, pR, pV, i10, ↓reduceIte, eQ_setShare_4]
  exact lp (bcV x2) (bcI hx hs) 64 0 0 0 _ _ rfl rfl rfl
