/-! TORN SAILS: rows of payments -/
def payI (r : Int32) (i : Nat) : Int32 := (r >>> ((2 * Int32.ofNat i) &&& 31)) &&& 3
def tnS (r : Int32) : Nat → Nat
  | 0 => 0
  | n + 1 => tnS r n + (payI r n).toInt.toNat
theorem tnS_b (r : Int32) : ∀ n, tnS r n ≤ 3 * n
  | 0 => Nat.le_refl _
  | n + 1 => by
    have := tnS_b r n
    have := and3 (r >>> ((2 * Int32.ofNat n) &&& 31))
    show tnS r n + (payI r n).toInt.toNat ≤ _
    unfold payI
    omega
def soB (E : En) (c : Co) (a : Nat → Int) (w : Nat) (o : Int) (r : Int32) : Nat → Bool
  | 0 => true
  | n + 1 => soB E c a w o r n && Ps E c a w o n (tnS r n)
theorem soB_no {E : En} {c : Co} {a : Nat → Int} {w : Nat} {o : Int} {r : Int32} {m : Nat} (h : soB E c a w o r m = false) : ∀ n, m ≤ n → soB E c a w o r n = false
  | 0, hn => by
    obtain rfl : m = 0 := by omega
    exact h
  | n + 1, hn => by
    by_cases e : m = n + 1
    · subst e; exact h
    · show (soB E c a w o r n && _) = false
      rw [soB_no h n (by omega), Bool.false_and]
theorem rowsV {x : Int32} {S : Nat} (h : x.toInt = S) (h1 : 1 ≤ S ∧ S ≤ 5) : (1 <<< ((2 * (x - 1)) &&& 31) : Int32).toInt = (4 ^ (S - 1) : Nat) := by
  have e : x = Int32.ofNat S := ofN h (by omega)
  have : S = 1 ∨ S = 2 ∨ S = 3 ∨ S = 4 ∨ S = 5 := by omega
  rcases this with rfl | rfl | rfl | rfl | rfl <;> subst e <;> decide
theorem rows_b {S : Nat} (h1 : 1 ≤ S ∧ S ≤ 5) : 4 ^ (S - 1) ≤ 256 := by
  have : S = 1 ∨ S = 2 ∨ S = 3 ∨ S = 4 ∨ S = 5 := by omega
  rcases this with rfl | rfl | rfl | rfl | rfl <;> decide
theorem lZ_so {d : Nat} {Φ : Po} {lws : Lws} {E : En} {c : Co} {a : Nat → Int} {w : Nat} {o : Int} {r : Int32} {σ : Sg} {S : Nat} (g : Wd lws E c a σ) (hT : Tb E c a w o σ) (hS : a 6 = S) (h : ∀ v : Int32, v.toInt = bi (soB E c a w o r S) → Φ (some (.int v)) σ) :
    ∀ (n m : Nat) (x2 x3 : Int32), m + n = S → x3.toInt = m → x2.toInt = tnS r m → soB E c a w o r m = true → bZ_isSo_4 true NOB (wp true (d + 1)) Φ (kZ_isSo (d + 1) Φ) [.ref 115, .int r, .int x2, .int x3] [] σ
  | 0, m, x2, x3, hm, h3, h2, hb => by
    obtain ⟨u1, u2, u3, u4, u5⟩ := g.sl
    simp only [pI, pL, pR, pV, i10, ↓reduceIte, eZ_isSo_4, eZ_isSo_45]
    simp only [ile, u1, h3]
    rw [if_pos (by omega)]
    obtain rfl : m = S := by omega
    exact h _ (by rw [hb]; rfl)
  | n + 1, m, x2, x3, hm, h3, h2, hb => by
    obtain ⟨u1, u2, u3, u4, u5⟩ := g.sl
    have hb3 := tnS_b r m
    simp only [pI, pL, pR, pV, i10, ↓reduceIte, eZ_isSo_4]
    simp only [ile, u1, h3]
    rw [if_neg (by omega)]
    have e13 : (x3 * 13 + x2).toInt = 13 * m + tnS r m := by
      simp only [ta, tm, Int32.reduceToInt]
      omega
    have e13x : ix (x3 * 13 + x2) = 13 * m + tnS r m := ix_of (by omega)
    have hp := hT m (tnS r m) (by omega) hb3
    have eS : soB E c a w o r (m + 1) = (soB E c a w o r m && Ps E c a w o m (tnS r m)) := rfl
    rw [e13x]
    have c0 : (gI σ 119 (13 * m + tnS r m) = 0) = (Ps E c a w o m (tnS r m) = false) := by
      simp only [ieq, hp, tl0]
      cases Ps E c a w o m (tnS r m) <;> simp [bi]
    simp only [c0]
    refine ⟨⟨by omega, by omega⟩, ?_⟩
    split
    next z =>
      refine h _ ?_
      rw [soB_no (m := m + 1) (by rw [eS, z, Bool.and_false]) S (by omega)]
      rfl
    next z =>
      simp only [pI, pL, pR, pV, i10, ↓reduceIte, eZ_isSo_31]
      apply wZ_payment
      simp only [pI, pL, pR, pV, i10, ↓reduceIte, eZ_payment_0]
      simp only [pI, pL, pR, pV, i10, ↓reduceIte, eZ_isSo_37]
      have ex : x3 = Int32.ofNat m := ofN h3 (by omega)
      have hpy := and3 (r >>> ((2 * x3) &&& 31))
      refine hZ_isSo_4 _ _ _ _ _ (lZ_so g hT hS h n (m + 1) _ (x3 + 1) (by omega) (by rw [tq1 x3 (by omega), h3]; omega) ?_ ?_)
      · rw [tP (by omega), h2]
        show _ = ((tnS r m + (payI r m).toInt.toNat : Nat) : Int)
        unfold payI
        rw [← ex]
        omega
      · rw [eS, hb]
        cases hq : Ps E c a w o m (tnS r m)
        · exact absurd hq z
        · rfl
theorem sZ_so {d : Nat} {Φ : Po} {lws : Lws} {E : En} {c : Co} {a : Nat → Int} {w : Nat} {o : Int} {r : Int32} {σ : Sg} {S : Nat} (g : Wd lws E c a σ) (hT : Tb E c a w o σ) (hS : a 6 = S) (h : ∀ v : Int32, v.toInt = bi (soB E c a w o r S) → Φ (some (.int v)) σ) : wp true (d + 2) nZ_isSo [.ref 115, .int r] σ Φ := by
  apply wZ_isSo
  simp only [pI, pL, pR, pV, i10, ↓reduceIte, eZ_isSo_0]
  exact lZ_so g hT hS h S 0 0 0 (by omega) rfl rfl rfl
theorem sZ_rows {d : Nat} {Φ : Po} {lws : Lws} {E : En} {c : Co} {a : Nat → Int} {σ : Sg} {S : Nat} (g : Wd lws E c a σ) (hS : a 6 = S) (hS1 : 1 ≤ S) (h : ∀ v : Int32, v.toInt = (4 ^ (S - 1) : Nat) → Φ (some (.int v)) σ) : wp true (d + 1) nZ_rows [.ref 115] σ Φ := by
  obtain ⟨u1, u2, u3, u4, u5⟩ := g.sl
  apply wZ_rows
  simp only [pI, pL, pR, pV, i10, ↓reduceIte, eZ_rows_0]
  have c0 : (gI σ 1 14 = 0) = (S = 0) := by
    simp only [ieq, u1, hS, tl0]
    exact propext (by omega)
  simp only [c0]
  rw [if_neg (by omega)]
  simp only [pI, pL, pR, pV, i10, ↓reduceIte, eZ_rows_14, eZ_rows_27]
  exact h _ (rowsV (by rw [u1, hS]) (by omega))
abbrev FT (W : Nat) : Ls := [(126, 0, 8), (127, 0, 330), (128, 0, 330), (121, 15 + 8 * W, 16 + 8 * W)]
theorem FTn {W b k : Nat} (h : b ≠ 126 ∧ b ≠ 127 ∧ b ≠ 128 ∧ (b = 121 → k ≠ 15 + 8 * W)) : inS (FT W) b k = false := not_inS (fun e he z => by
  simp only [FT, List.mem_cons, List.not_mem_nil, or_false] at he
  obtain ⟨z1, z2, z3⟩ := z
  rcases he with rfl | rfl | rfl | rfl
  · exact h.1 z1.symm
  · exact h.2.1 z1.symm
  · exact h.2.2.1 z1.symm
  · have z1 : 121 = b := z1
    have z2 : 15 + 8 * W ≤ k := z2
    have z3 : k < 16 + 8 * W := z3
    exact h.2.2.2 z1.symm (by omega))
theorem lM_torn {d : Nat} {Φ : Po} {lws : Lws} {E : En} {c : Co} {a : Nat → Int} {w o r : Int32} {σ : Sg} {S : Nat} (g : Wd lws E c a σ) (hw : 0 ≤ w.toInt ∧ w.toInt < eN E) (ho : 0 ≤ o.toInt ∧ o.toInt ≤ 999) (hS : a 6 = S) {had : Int32} (hhad : had = gI σ 121 (15 + 8 * ix w)) (h : ∀ (σ' : Sg) (v : Int32), Fi MS σ σ' → v.toInt = bi (soB E c a (ix w) o.toInt r S) → Φ (some (.int v)) σ') :
    ∀ (n m : Nat) (σ' : Sg) (x5 x6 x7 : Int32) (x : Int), m + n = S → x7.toInt = m → Fr (FT (ix w)) σ σ' → mc σ' 121 = upc c (ix w) x → x6.toInt = bi (soB E c a (ix w) o.toInt r m) → (soB E c a (ix w) o.toInt r m = true → x = o.toInt - 10 * tnS r m ∧ x5.toInt = Fs c a (ix w) m) → bM_isTorn_29 true NOB (wp true (d + 6)) Φ (kM_isTorn (d + 6) Φ) [.ref 120, .int w, .int o, .int r, .int had, .int x5, .int x6, .int x7] [] σ' := by
  obtain ⟨hO, -, -, hE, hc, -⟩ := g.all
  obtain ⟨-, -, -, -, -, -, n6, -⟩ := g.nv
  obtain ⟨u1, u2, u3, u4, u5⟩ := g.sl
  have hxw := ix_to hw.1
  have hw6 : ix w < 6 := by omega
  have w6 : 0 ≤ w.toInt ∧ w.toInt < 6 := by omega
  have hwd := hO.w (w := ix w) (by omega)
  have hcw : (gI σ 121 (15 + 8 * ix w)).toInt = c (ix w) := by
    rw [← hc, mc_at (by omega), mix_o hw6]
    rfl
  have fin : ∀ (σ' : Sg) (x5 x6 x7 : Int32) (x : Int), Fr (FT (ix w)) σ σ' → mc σ' 121 = upc c (ix w) x → x6.toInt = bi (soB E c a (ix w) o.toInt r S) → bM_isTorn_109 true NOB (wp true (d + 6)) Φ (kM_isTorn (d + 6) Φ) [.ref 120, .int w, .int o, .int r, .int had, .int x5, .int x6, .int x7] [] σ' := by
    intro σ' x5 x6 x7 x hF hm h6
    simp only [pI, pL, pR, pV, i10, ↓reduceIte, eM_isTorn_109]
    refine sM_putO w6 (fun σ2 e2 hm2 => ?_)
    simp only [pI, pL, pR, pV, i10, ↓reduceIte, eM_isTorn_117]
    have hz : zB x6 = true := zB_v (by rw [h6]; exact bi_r _)
    simp only [hz, cond]
    refine h σ2 x6 ⟨fun b k q => ?_, ?_⟩ h6
    · rw [e2]
      by_cases e : b = 121 ∧ k = 15 + 8 * ix w
      · rw [e.1, e.2, gIeq, hhad]
      · have q' : ∀ lo hi, (b, lo, hi) ∈ MS → ¬ (lo ≤ k ∧ k < hi) := fun lo hi hm z => by
          rw [inS_r hm z] at q
          cases q
        rw [gI_sI, if_neg e]
        refine hF.1 b k (not_inS (fun e1 he z => ?_))
        simp only [FT, List.mem_cons, List.not_mem_nil, or_false] at he
        obtain ⟨z1, z2, z3⟩ := z
        rcases he with rfl | rfl | rfl | rfl
        · have z1 : 126 = b := z1
          subst z1
          exact q' 0 8 (by decide) ⟨z2, z3⟩
        · have z1 : 127 = b := z1
          subst z1
          exact q' 0 330 (by decide) ⟨z2, z3⟩
        · have z1 : 128 = b := z1
          subst z1
          exact q' 0 330 (by decide) ⟨z2, z3⟩
        · have z1 : 121 = b := z1
          have z2 : 15 + 8 * ix w ≤ k := z2
          have z3 : k < 16 + 8 * ix w := z3
          exact e ⟨z1.symm, by omega⟩
    · rw [e2]
      exact hF.2.2.2
  intro n
  induction n with
  | zero =>
    intro m σ' x5 x6 x7 x hm h7 hF hmc h6 hx
    have e6 : (gI σ' 121 (ix 6)).toInt = a 6 := by
      rw [show ix 6 = 6 from rfl, hF.1 121 6 (FTn (by omega))]
      exact u5 6
    simp only [pI, pL, pR, pV, i10, ↓reduceIte, eM_isTorn_29]
    simp only [ile, e6, h7]
    rw [if_pos (by omega)]
    obtain rfl : m = S := by omega
    exact ⟨⟨by decide, by decide⟩, fin σ' x5 x6 x7 x hF hmc h6⟩
  | succ n ih =>
    intro m σ' x5 x6 x7 x hm h7 hF hmc h6 hx
    have e6 : (gI σ' 121 (ix 6)).toInt = a 6 := by
      rw [show ix 6 = 6 from rfl, hF.1 121 6 (FTn (by omega))]
      exact u5 6
    simp only [pI, pL, pR, pV, i10, ↓reduceIte, eM_isTorn_29]
    simp only [ile, e6, h7]
    rw [if_neg (by omega)]
    refine ⟨⟨by decide, by decide⟩, ?_⟩
    have c0 : (x6 = 0) = (soB E c a (ix w) o.toInt r m = false) := by
      simp only [ieq, h6, tl0]
      cases soB E c a (ix w) o.toInt r m <;> simp [bi]
    simp only [c0]
    split
    next z => exact fin σ' x5 x6 x7 x hF hmc (by rw [h6, z, soB_no z S (by omega)])
    next z =>
      have hb : soB E c a (ix w) o.toInt r m = true := by
        cases hq : soB E c a (ix w) o.toInt r m
        · exact absurd hq z
        · rfl
      obtain ⟨rfl, h5⟩ := hx hb
      have hb3 := tnS_b r m
      have hFs : 0 ≤ Fs c a (ix w) m ∧ Fs c a (ix w) m ≤ 9 := by
        unfold Fs
        split
        · exact hwd.2.1
        · exact u4 _ (by omega)
      have hO1 : Ok E (upc c (ix w) (o.toInt - 10 * tnS r m)) := hO.O hw6 (by omega)
      have hE1 : ME σ' E := ME.of ⟨hF.rd (FTn (by omega)), hF.rd (FTn (by omega)), hF.rd (FTn (by omega))⟩ (fun w' hw' => hF.rd (FTn (by omega))) (fun v hv => hF.rd (FTn (by omega))) (fun k => hF.rd (FTn (by omega))) hE
      refine sM_getO w6 (fun ow how => ?_)
      rw [hmc, upc_eq] at how
      simp only [pI, pL, pR, pV, i10, ↓reduceIte, eM_isTorn_54]
      refine sM_blowsOf hO1 hE1 hmc hw (by rw [how, upc_eq]) (by omega) (fun σ1 rr hF1 hr1 => ?_)
      have hF1t : Fr (FT (ix w)) σ σ1 := hF.tr (hF1.mo (fun e he => by
        simp only [FML, List.mem_cons, List.not_mem_nil, or_false] at he
        rcases he with rfl | rfl | rfl <;> simp [FT]))
      have hmc1 : mc σ1 121 = upc c (ix w) (o.toInt - 10 * tnS r m) := by
        rw [← hmc]
        exact Fr_mc hF1 (fun k _ => not_inS (fun e he z => by
          have : ∀ e, e ∈ FML → e.1 ≠ 121 := by decide
          exact this e he z.1))
      have hbl : rr.toInt = blS E c (ix w) (Fs c a (ix w) m) (o.toInt - 10 * tnS r m) := by
        rw [hr1, upc_eq, h5, ← hxw]
        rfl
      simp only [pI, pL, pR, pV, i10, ↓reduceIte, eM_isTorn_59]
      have ep : (136 + x7).toInt = 136 + m := by rw [tk (n := 136) rfl (by omega), h7]; rfl
      have epx : ix (136 + x7) = 136 + m := ix_of (by omega)
      have hs : (gI σ1 121 (136 + m)).toInt = a (136 + m) := by
        rw [hF1t.1 121 _ (FTn (by omega))]
        exact u5 _
      rw [epx]
      have cr : (rr = gI σ1 121 (136 + m)) = (blS E c (ix w) (Fs c a (ix w) m) (o.toInt - 10 * tnS r m) = a (136 + m)) := by rw [ieq, hbl, hs]
      simp only [cr]
      refine ⟨⟨by omega, by omega⟩, ?_⟩
      have eS : soB E c a (ix w) o.toInt r (m + 1) = (soB E c a (ix w) o.toInt r m && Ps E c a (ix w) o.toInt m (tnS r m)) := rfl
      have h71 : (x7 + 1).toInt = ((m + 1 : Nat) : Int) := by rw [tq1 x7 (by omega), h7]; omega
      have ex : x7 = Int32.ofNat m := ofN h7 (by omega)
      have hpy := and3 (r >>> ((2 * x7) &&& 31))
      have etn : tnS r (m + 1) = tnS r m + ((r >>> ((2 * x7) &&& 31)) &&& 3).toInt.toNat := by
        rw [ex]
        rfl
      have next : ∀ b : Int32, b.toInt = bi (Ps E c a (ix w) o.toInt m (tnS r m)) → (Ps E c a (ix w) o.toInt m (tnS r m) = true → rr.toInt = a (136 + m)) → bM_isTorn_82 true NOB (wp true (d + 6)) Φ (kM_isTorn (d + 6) Φ) [.ref 120, .int w, .int o, .int r, .int had, .int rr, .int x6, .int x7] [.int b] σ1 := by
        intro b hbb hrr
        simp only [pI, pL, pR, pV, i10, ↓reduceIte, eM_isTorn_82]
        refine sM_getO w6 (fun ow2 how2 => ?_)
        rw [hmc1, upc_eq] at how2
        simp only [pI, pL, pR, pV, i10, ↓reduceIte, eM_isTorn_93]
        apply wM_paymentOf
        simp only [pI, pL, pR, pV, i10, ↓reduceIte, eM_paymentOf_0]
        simp only [pI, pL, pR, pV, i10, ↓reduceIte, eM_isTorn_99]
        refine sM_putO w6 (fun σ2 e2 hm2 => ?_)
        simp only [pI, pL, pR, pV, i10, ↓reduceIte, eM_isTorn_103]
        have ev : (ow2 - 10 * ((r >>> ((2 * x7) &&& 31)) &&& 3)).toInt = o.toInt - 10 * tnS r (m + 1) := by
          rw [etn]
          generalize ((r >>> ((2 * x7) &&& 31)) &&& 3) = pp at hpy ⊢
          simp only [ts, tm, Int32.reduceToInt]
          omega
        rw [hmc1, upc_u, ev] at hm2
        have hF2 : Fr (FT (ix w)) σ σ2 := by
          rw [e2]
          exact hF1t.tr (Fr.sI (inS_r (lo := 15 + 8 * ix w) (hi := 16 + 8 * ix w) (by simp) (by omega)))
        refine hM_isTorn_29 _ _ _ _ _ (ih (m + 1) σ2 rr b (x7 + 1) _ (by omega) h71 hF2 hm2 (by rw [hbb, eS, hb]; rfl) (fun q => ⟨rfl, ?_⟩))
        rw [eS, hb] at q
        rw [hrr q]
        unfold Fs
        rw [if_neg (by omega)]
        rfl
      split
      next y => exact next 1 (by unfold Ps; rw [decide_eq_true y]; rfl) (fun _ => by rw [hbl, y])
      next y =>
        simp only [pI, pL, pR, pV, i10, ↓reduceIte, eM_isTorn_81]
        refine next 0 (by unfold Ps; rw [decide_eq_false y]; rfl) (fun q => ?_)
        unfold Ps at q
        exact absurd (of_decide_eq_true q) y
theorem sM_torn {d : Nat} {Φ : Po} {lws : Lws} {E : En} {c : Co} {a : Nat → Int} {w o r : Int32} {σ : Sg} {S : Nat} (g : Wd lws E c a σ) (hw : 0 ≤ w.toInt ∧ w.toInt < eN E) (ho : 0 ≤ o.toInt ∧ o.toInt ≤ 999) (hS : a 6 = S) (h : ∀ (σ' : Sg) (v : Int32), Fi MS σ σ' → v.toInt = bi (soB E c a (ix w) o.toInt r S) → Φ (some (.int v)) σ') : wp true (d + 7) nM_isTorn [.ref 120, .int w, .int o, .int r] σ Φ := by
  obtain ⟨hO, -, -, hE, hc, -⟩ := g.all
  obtain ⟨-, -, -, -, -, -, n6, -⟩ := g.nv
  have hxw := ix_to hw.1
  have hw6 : ix w < 6 := by omega
  have w6 : 0 ≤ w.toInt ∧ w.toInt < 6 := by omega
  apply wM_isTorn
  simp only [pI, pL, pR, pV, i10, ↓reduceIte, eM_isTorn_0]
  refine sM_get (15 + 8 * ix w) (j := 3) rfl (by omega) w6 (by omega) (fun had hh => ?_)
  simp only [pI, pL, pR, pV, i10, ↓reduceIte, eM_isTorn_6]
  refine sM_putO w6 (fun σ1 e1 hm1 => ?_)
  simp only [pI, pL, pR, pV, i10, ↓reduceIte, eM_isTorn_15]
  refine sM_getF w6 (fun f hf => ?_)
  simp only [pI, pL, pR, pV, i10, ↓reduceIte, eM_isTorn_21]
  rw [hc] at hm1
  rw [hm1, upc_ne (by omega)] at hf
  refine lM_torn g hw ho hS (eqv hh) h S 0 σ1 f 1 0 o.toInt (by omega) rfl ?_ hm1 rfl (fun _ => ⟨?_, ?_⟩)
  · rw [e1]
    exact Fr.sI (inS_r (lo := 15 + 8 * ix w) (hi := 16 + 8 * ix w) (by simp) (by omega))
  · show o.toInt = o.toInt - 10 * ((0 : Nat) : Int)
    omega
  · rw [hf]
    rfl
