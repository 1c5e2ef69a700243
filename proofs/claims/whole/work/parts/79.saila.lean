/-! TORN SAILS: the class's table -/
theorem and3 (y : Int32) : 0 ≤ (y &&& 3).toInt ∧ (y &&& 3).toInt ≤ 3 := by
  have h : (y &&& 3).toBitVec.toNat ≤ 3 := by
    rw [Int32.toBitVec_and, BitVec.toNat_and]
    exact Nat.and_le_right
  have e : (y &&& 3).toInt = ((y &&& 3).toBitVec.toNat : Int) := by
    show (y &&& 3).toBitVec.toInt = _
    rw [BitVec.toInt_eq_toNat_cond, if_pos (by omega)]
  rw [e]
  omega
theorem upc_u {c : Co} {k : Nat} {x y : Int} : upc (upc c k x) k y = upc c k y := by
  funext j
  unfold upc
  split <;> rfl
theorem upc_c {c : Co} {k l : Nat} {x y : Int} (h : k ≠ l) : upc (upc c k x) l y = upc (upc c l y) k x := by
  funext j
  unfold upc
  by_cases e : j = l
  · rw [if_pos e, if_neg (by omega), if_pos e]
  · rw [if_neg e, if_neg e]
theorem upc_id {c : Co} {k : Nat} : upc c k (c k) = c := by
  funext j
  unfold upc
  split
  · subst j; rfl
  · rfl
/-- the laws' code doesn't look at FORCE cells -/
theorem stp_cg {E : En} {c c' : Co} (hN : eN E ≤ 6) (h : ∀ k, k < 6 ∨ 12 ≤ k → c' k = c k) {w v f : Int} (hw : w < 6) (o a : Int) (s : List Int × List Int) : stp E c' w v f o a s = stp E c w v f o a s := by
  have e1 : ∀ k : Int, nmv E c' w v f k = nmv E c w v f k := fun k => by
    unfold nmv
    rw [h 42 (by omega), h (30 + v.toNat) (by omega), h (18 + w.toNat) (by omega), h (12 + w.toNat) (by omega)]
    by_cases q : w < 0
    · simp only [if_pos q]
    · rw [h w.toNat (by omega)]
  have e2 : ∀ k : Int, dbt E c' k = dbt E c k := fun k => by
    unfold dbt
    split
    next q => rw [h k.toNat (by omega)]
    next q => rfl
  unfold stp
  simp only [e1, e2]
theorem evl_cg {E : En} {c c' : Co} (hN : eN E ≤ 6) (h : ∀ k, k < 6 ∨ 12 ≤ k → c' k = c k) {w v f : Int} (hw : w < 6) : ∀ (ops : List (Int × Int)) (s : List Int × List Int), evl E c' w v f ops s = evl E c w v f ops s
  | [], _ => rfl
  | (o, a) :: r, s => by
    show evl E c' w v f r (stp E c' w v f o a s) = evl E c w v f r (stp E c w v f o a s)
    rw [stp_cg hN h hw, evl_cg hN h hw r]
theorem lawE_cg {E : En} {c c' : Co} (hN : eN E ≤ 6) (h : ∀ k, k < 6 ∨ 12 ≤ k → c' k = c k) {w v f : Int} (hw : w < 6) (l : Nat) (ops : List (Int × Int)) : lawE E c' l w v f ops = lawE E c l w v f ops := by
  unfold lawE
  rw [evl_cg hN h hw]
/-- how hard a wind blows, owed x, that blew f -/
def blS (E : En) (c : Co) (w : Nat) (f x : Int) : Int := clamp 0 9 (match eL E 1 with
  | none => x.tdiv 10
  | some ops => lawE E (upc c w x) 1 w (-1) f ops)
theorem blS_c {E : En} {c : Co} {w : Nat} {f x : Int} (hN : eN E ≤ 6) (hw : w < 6) : blowsF E (upc (upc c (6 + w) f) w x) w = blS E c w f x := by
  unfold blowsF blS
  rw [upc_eq, upc_ne (show 6 + w ≠ w by omega), upc_eq]
  cases eL E 1 with
  | none => rfl
  | some ops =>
    have := lawE_cg (E := E) (c := upc c w x) (c' := upc (upc c (6 + w) f) w x) hN (fun k hk => by
      unfold upc
      by_cases e : k = w
      · rw [if_pos e, if_pos e]
      · rw [if_neg e, if_neg e, if_neg (by omega)]) (w := w) (v := -1) (f := f) (by omega) 1 ops
    simp only [this]
def Fs (c : Co) (a : Nat → Int) (w i : Nat) : Int := if i = 0 then c (6 + w) else a (136 + (i - 1))
/-- on day i, t tens paid ahead of it, it blows so -/
def Ps (E : En) (c : Co) (a : Nat → Int) (w : Nat) (o : Int) (i t : Nat) : Bool := decide (blS E c w (Fs c a w i) (o - 10 * t) = a (136 + i))
theorem Wd.sl {lws : Lws} {E : En} {c : Co} {a : Nat → Int} {σ : Sg} (g : Wd lws E c a σ) : (gI σ 1 14).toInt = a 6 ∧ (0 ≤ a 6 ∧ a 6 ≤ 5) ∧ (∀ k, k < 5 → (gI σ 39 k).toInt = a (136 + k)) ∧ (∀ k : Nat, (k : Int) < a 6 → 0 ≤ a (136 + k) ∧ a (136 + k) ≤ 9) ∧ (∀ k, (gI σ 121 k).toInt = a k) := by
  obtain ⟨g1, rfl, rfl, rfl⟩ := g
  obtain ⟨t1, t2, t3, t4⟩ := g1.1.2.2.2.2.1
  exact ⟨t1, t2, t3, t4, fun _ => rfl⟩
abbrev FS : Ls := [(109, 0, 64), (119, 0, 65), (2, 0, 44)]
def Tb (E : En) (c : Co) (a : Nat → Int) (w : Nat) (o : Int) (σ : Sg) : Prop := ∀ i t : Nat, (i : Int) < a 6 → t ≤ 3 * i → (gI σ 119 (13 * i + t)).toInt = bi (Ps E c a w o i t)
theorem sZ_find {d : Nat} {Φ : Po} {lws : Lws} {E : En} {c : Co} {a : Nat → Int} {w o : Int32} {σ : Sg} (g : Wd lws E c a σ) (hw : 0 ≤ w.toInt ∧ w.toInt < eN E) (ho : 0 ≤ o.toInt ∧ o.toInt ≤ 999) (h : ∀ σ' : Sg, Fi XS σ σ' → Tb E c a (ix w) o.toInt σ' → Φ none σ') : wp true (d + 6) nZ_findSails [.ref 115, .int w, .int o] σ Φ := by
  obtain ⟨hO, hE, hc, -⟩ := g.all
  obtain ⟨-, -, -, -, -, -, n6, -⟩ := g.nv
  obtain ⟨u1, u2, u3, u4, u5⟩ := g.sl
  have hxw := ix_to hw.1
  have hw6 : ix w < 6 := by omega
  have k0 : (0 : Int32).toInt = 0 := rfl
  have iO : ix (0 + w) = ix w := by rw [ixk (n := 0) rfl (by omega)]; omega
  have iF : ix (6 + w) = 6 + ix w := ixk (n := 6) rfl (by omega)
  have bO : inb (0 + w) 75 := inb_k (n := 0) rfl (by omega) (by omega)
  have bF : inb (6 + w) 75 := inb_k (n := 6) rfl (by omega) (by omega)
  have at2 : ∀ j, j < 44 → (gI σ 2 j).toInt = c j := fun j hj => by rw [← hc]; exact (rc_at hj).symm
  have hwd := hO.w (w := ix w) (by omega)
  have f1 : ∀ k, inS FS 1 k = false := fun k => not_inS (fun e he z => by
    have : ∀ e, e ∈ FS → e.1 ≠ 1 := by decide
    exact this e he z.1)
  have f39 : ∀ k, inS FS 39 k = false := fun k => not_inS (fun e he z => by
    have : ∀ e, e ∈ FS → e.1 ≠ 39 := by decide
    exact this e he z.1)
  have n119 : ∀ k, inS F109 119 k = false := fun k => not_inS (fun e he z => by
    have : ∀ e, e ∈ F109 → e.1 ≠ 119 := by decide
    exact this e he z.1)
  have n2 : ∀ k, inS F109 2 k = false := fun k => not_inS (fun e he z => by
    have : ∀ e, e ∈ F109 → e.1 ≠ 2 := by decide
    exact this e he z.1)
  have hces : ∀ σ' : Sg, Fr FS σ σ' → CE σ' E := fun σ' hF => CE.fr hF ⟨f1 _, f1 _, f1 _, f1 _⟩ (fun b k q => not_inS (fun e he z => by
    have : ∀ e, e ∈ FS → e.1 = 109 ∨ e.1 = 119 ∨ e.1 = 2 := by decide
    have := this e he
    omega)) hE
  -- the inner loop: tens
  have inner : ∀ (i : Nat) (x6 : Int32), x6.toInt = i → (i : Int) < a 6 →
      (∀ (σ' : Sg) (x7 : Int32) (x : Int), Fr FS σ σ' → rc σ' 2 = upc (upc c (6 + ix w) (Fs c a (ix w) i)) (ix w) x → (∀ j t : Nat, j < i + 1 → t ≤ 3 * j → (gI σ' 119 (13 * j + t)).toInt = bi (Ps E c a (ix w) o.toInt j t)) → bZ_findSails_135 true NOB (wp true (d + 5)) Φ (kZ_findSails (d + 5) Φ) [.ref 115, .int w, .int o, .ref 2, .int (gI σ 2 (ix w)), .int (gI σ 2 (6 + ix w)), .int x6, .int x7] [] σ') →
      ∀ (n m : Nat) (σ' : Sg) (x7 : Int32) (x : Int), m + n = 3 * i + 1 → x7.toInt = m → Fr FS σ σ' → rc σ' 2 = upc (upc c (6 + ix w) (Fs c a (ix w) i)) (ix w) x → (∀ j t : Nat, j < i + 1 → t ≤ 3 * j → (j < i ∨ t < m) → (gI σ' 119 (13 * j + t)).toInt = bi (Ps E c a (ix w) o.toInt j t)) → bZ_findSails_69 true NOB (wp true (d + 5)) Φ (kZ_findSails (d + 5) Φ) [.ref 115, .int w, .int o, .ref 2, .int (gI σ 2 (ix w)), .int (gI σ 2 (6 + ix w)), .int x6, .int x7] [] σ' := by
    intro i x6 h6 hi K n
    have e3 : (3 * x6).toInt = 3 * i := by
      simp only [tm, Int32.reduceToInt]
      omega
    have hFs : 0 ≤ Fs c a (ix w) i ∧ Fs c a (ix w) i ≤ 9 := by
      unfold Fs
      split
      · exact hwd.2.1
      · exact u4 _ (by omega)
    induction n with
    | zero =>
      intro m σ' x7 x hm h7 hF hr ht
      simp only [pI, pL, pR, pV, i10, ↓reduceIte, eZ_findSails_69]
      simp only [ilt, e3, h7]
      rw [if_pos (by omega)]
      exact K σ' x7 x hF hr (fun j t hj htt => ht j t hj htt (by omega))
    | succ n ih =>
      intro m σ' x7 x hm h7 hF hr ht
      simp only [pI, pL, pR, pV, i10, ↓reduceIte, eZ_findSails_69]
      simp only [ilt, e3, h7]
      rw [if_neg (by omega), iO]
      refine ⟨bO, ?_⟩
      have ev : (o - 10 * x7).toInt = o.toInt - 10 * m := by
        simp only [ts, tm, Int32.reduceToInt]
        omega
      have hc1 : rc (sI σ' 2 (ix w) (o - 10 * x7)) 2 = upc (upc c (6 + ix w) (Fs c a (ix w) i)) (ix w) (o.toInt - 10 * m) := by rw [rc_sI (by omega), hr, upc_u, ev]
      have hF1 : Fr FS σ (sI σ' 2 (ix w) (o - 10 * x7)) := hF.tr (Fr.sI (inS_r (lo := 0) (hi := 44) (by simp) (by omega)))
      have hO1 : Ok E (upc (upc c (6 + ix w) (Fs c a (ix w) i)) (ix w) (o.toInt - 10 * m)) := (hO.F hw6 hFs).O hw6 (by omega)
      refine sL_blowsOf hO1 (hces _ hF1) hc1 hw (fun σ2 r hF2 hr2 => ?_)
      rw [blS_c n6 hw6] at hr2
      have hF2s : Fr FS σ σ2 := hF1.tr (hF2.mo (by decide))
      simp only [pI, pL, pR, pV, i10, ↓reduceIte, eZ_findSails_110]
      have h39 : (gI σ2 39 (ix x6)).toInt = a (136 + i) := by rw [ix_of h6, hF2s.1 _ _ (f39 _)]; exact u3 i (by omega)
      have cr : (r = gI σ2 39 (ix x6)) = (blS E c (ix w) (Fs c a (ix w) i) (o.toInt - 10 * m) = a (136 + i)) := by rw [ieq, hr2, h39]
      simp only [cr]
      refine ⟨⟨by omega, by omega⟩, ?_⟩
      have e13 : (x6 * 13 + x7).toInt = 13 * i + m := by
        simp only [ta, tm, Int32.reduceToInt]
        omega
      have e13x : ix (x6 * 13 + x7) = 13 * i + m := ix_of (by omega)
      have h71 : (x7 + 1).toInt = ((m + 1 : Nat) : Int) := by rw [tq1 x7 (by omega), h7]; omega
      have hr2c : rc σ2 2 = upc (upc c (6 + ix w) (Fs c a (ix w) i)) (ix w) (o.toInt - 10 * m) := by rw [Fr_rc hF2 (fun k _ => n2 k), hc1]
      have h119 : ∀ k, gI σ2 119 k = gI σ' 119 k := fun k => by rw [hF2.1 _ _ (n119 k), gIne (by omega)]
      have fin : ∀ b : Int32, (b = 0 ∨ b = 1) → b.toInt = bi (Ps E c a (ix w) o.toInt i m) → bZ_findSails_128 true NOB (wp true (d + 5)) Φ (kZ_findSails (d + 5) Φ) [.ref 115, .int w, .int o, .ref 2, .int (gI σ 2 (ix w)), .int (gI σ 2 (6 + ix w)), .int x6, .int x7] [.int b, .int (x6 * 13 + x7), .ref 119] σ2 := by
        intro b hb01 hb
        simp only [pI, pL, pR, pV, i10, ↓reduceIte, eZ_findSails_128]
        have hz : zB b = true := zB_v (by rw [hb]; exact bi_r _)
        simp only [hz, cond]
        rw [e13x]
        refine ⟨⟨by omega, by omega⟩, hZ_findSails_69 _ _ _ _ _ (ih (m + 1) _ (x7 + 1) (o.toInt - 10 * m) (by omega) h71 (hF2s.tr (Fr.sI (inS_r (lo := 0) (hi := 65) (by simp) (by omega)))) (by rw [rc_ne (by omega), hr2c]) (fun j t hj htt hjt => ?_))⟩
        by_cases e : 13 * j + t = 13 * i + m
        · have ej : j = i := by omega
          have et : t = m := by omega
          subst ej et
          rw [gIeq, hb]
        · rw [gIne2 e, h119]
          exact ht j t hj htt (by omega)
      split
      next z => exact fin 1 (Or.inr rfl) (by unfold Ps; rw [decide_eq_true z]; rfl)
      next z =>
        simp only [pI, pL, pR, pV, i10, ↓reduceIte, eZ_findSails_127]
        exact fin 0 (Or.inl rfl) (by unfold Ps; rw [decide_eq_false z]; rfl)
  have outer : ∀ (n i : Nat) (σ' : Sg) (x6 : Int32) (v7 : Value) (f x : Int), (i : Int) + n = a 6 → x6.toInt = i → Fr FS σ σ' → rc σ' 2 = upc (upc c (6 + ix w) f) (ix w) x → (∀ j t : Nat, j < i → t ≤ 3 * j → (gI σ' 119 (13 * j + t)).toInt = bi (Ps E c a (ix w) o.toInt j t)) → bZ_findSails_26 true NOB (wp true (d + 5)) Φ (kZ_findSails (d + 5) Φ) [.ref 115, .int w, .int o, .ref 2, .int (gI σ 2 (ix w)), .int (gI σ 2 (6 + ix w)), .int x6, v7] [] σ' := by
    intro n
    induction n with
    | zero =>
      intro i σ' x6 v7 f x hi h6 hF hr ht
      have e14 : (gI σ' 1 14).toInt = a 6 := by rw [hF.1 _ _ (f1 14)]; exact u1
      simp only [pI, pL, pR, pV, i10, ↓reduceIte, eZ_findSails_26, eZ_findSails_141]
      simp only [ile, e14, h6]
      rw [if_pos (by omega), iO, iF]
      refine ⟨bO, bF, ?_⟩
      have hrc : rc (sI (sI σ' 2 (ix w) (gI σ 2 (ix w))) 2 (6 + ix w) (gI σ 2 (6 + ix w))) 2 = c := by
        rw [rc_sI (by omega), rc_sI (by omega), hr, at2 _ (by omega), at2 _ (by omega), upc_u, upc_c (k := ix w) (by omega), upc_u, upc_c (by omega), upc_id, upc_id]
      have hF3 : Fr FS σ' (sI (sI σ' 2 (ix w) (gI σ 2 (ix w))) 2 (6 + ix w) (gI σ 2 (6 + ix w))) := (Fr.sI (inS_r (lo := 0) (hi := 44) (by simp) (by omega))).tr (Fr.sI (inS_r (lo := 0) (hi := 44) (by simp) (by omega)))
      refine h _ ((hF.tr hF3).fi.same (fun b k q1 q2 => ?_)) (fun j t hj htt => ?_)
      · obtain ⟨e, he, e1, e2, e3⟩ := inS_ex q1
        have : ∀ e, e ∈ FS → e ∈ XS ∨ e = (2, 0, 44) := by decide
        rcases this e he with m | m
        · obtain ⟨p, lo, hi⟩ := e
          have e1 : p = b := e1
          subst e1
          rw [inS_r m ⟨e2, e3⟩] at q2
          cases q2
        · subst m
          have e1 : 2 = b := e1
          subst e1
          have e3 : k < 44 := e3
          refine eqv ?_
          have a1 : rc (sI (sI σ' 2 (ix w) (gI σ 2 (ix w))) 2 (6 + ix w) (gI σ 2 (6 + ix w))) 2 k = c k := by rw [hrc]
          rw [rc_at e3] at a1
          rw [at2 k e3]
          exact a1
      · rw [gIne (by omega), gIne (by omega)]
        exact ht j t (by omega) htt
    | succ n ih =>
      intro i σ' x6 v7 f x hi h6 hF hr ht
      have e14 : (gI σ' 1 14).toInt = a 6 := by rw [hF.1 _ _ (f1 14)]; exact u1
      simp only [pI, pL, pR, pV, i10, ↓reduceIte, eZ_findSails_26]
      simp only [ile, e14, h6]
      rw [if_neg (by omega)]
      have h61 : (x6 + 1).toInt = ((i + 1 : Nat) : Int) := by rw [tq1 x6 (by omega), h6]; omega
      have go : ∀ fI : Int32, fI.toInt = Fs c a (ix w) i → bZ_findSails_65 true NOB (wp true (d + 5)) Φ (kZ_findSails (d + 5) Φ) [.ref 115, .int w, .int o, .ref 2, .int (gI σ 2 (ix w)), .int (gI σ 2 (6 + ix w)), .int x6, v7] [.int fI, .int (6 + w), .ref 2] σ' := by
        intro fI hfI
        simp only [pI, pL, pR, pV, i10, ↓reduceIte, eZ_findSails_65]
        rw [iF]
        refine ⟨bF, ?_⟩
        refine inner i x6 h6 (by omega) (fun σ2 x7 y hF2 hr2 ht2 => ?_) (3 * i + 1) 0 _ 0 x (by omega) rfl (hF.tr (Fr.sI (inS_r (lo := 0) (hi := 44) (by simp) (by omega)))) (by rw [rc_sI (by omega), hr, hfI, upc_c (k := ix w) (by omega), upc_u]) (fun j t hj htt hjt => by rw [gIne (by omega)]; exact ht j t (by omega) htt)
        simp only [pI, pL, pR, pV, i10, ↓reduceIte, eZ_findSails_135]
        exact hZ_findSails_26 _ _ _ _ _ (ih (i + 1) σ2 (x6 + 1) _ _ y (by omega) h61 hF2 hr2 ht2)
      have c0 : (x6 = 0) = (i = 0) := by
        simp only [ieq, h6, k0]
        exact propext (by omega)
      simp only [c0]
      split
      next z => exact go _ (by rw [at2 _ (by omega)]; unfold Fs; rw [if_pos z])
      next z =>
        simp only [pI, pL, pR, pV, i10, ↓reduceIte, eZ_findSails_53]
        have em : (x6 - 1).toInt = ((i - 1 : Nat) : Int) := by rw [tM (by rw [h6, tl1]; omega), h6, tl1]; omega
        rw [ix_of em]
        refine ⟨⟨by omega, by omega⟩, go _ ?_⟩
        rw [hF.1 _ _ (f39 _), u3 _ (by omega)]
        unfold Fs
        rw [if_neg z]
  apply wZ_findSails
  simp only [pI, pL, pR, pV, i10, ↓reduceIte, eZ_findSails_0]
  rw [iO, iF]
  refine ⟨bO, bF, ?_⟩
  exact outer (a 6).toNat 0 σ 0 _ (c (6 + ix w)) (c (ix w)) (by omega) rfl Fr.rf (by rw [upc_id, upc_id]; exact hc) (fun j t hj => by omega)
