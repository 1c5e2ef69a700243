abbrev FMw : List (Nat × Nat × Nat) := [(121, 10, 11), (121, 1556, 4016)]
theorem FMws {σ σ' : Sg} (h : Fr FMw σ σ') : Fr FM σ σ' := h.mo (fun e he => List.mem_append_right _ he)
theorem fMw {σ : Sg} {k : Nat} {v : Int32} (h : 1556 ≤ k ∧ k < 4016) : Fr FMw σ (sI σ 121 k v) := Fr.sI (inS_r (lo := 1556) (hi := 4016) (by decide) h)
theorem fMw10 {σ : Sg} {v : Int32} : Fr FMw σ (sI σ 121 10 v) := Fr.sI (inS_r (lo := 10) (hi := 11) (by decide) (by omega))
/-- how the reference's ring has the day -/
def RgW (σ σ' : Sg) (w f t : Int) : Prop := rd σ' 121 10 = rd σ 121 10 + 1 ∧ rd σ' 121 (1556 + 2 * ((rd σ 121 10).toNat % 1230)) = rd σ 121 8 ∧ rd σ' 121 (1557 + 2 * ((rd σ 121 10).toNat % 1230)) = (w + 1) * 10000 + f * 1000 + t ∧ ∀ j, j < 1230 → j ≠ (rd σ 121 10).toNat % 1230 → rd σ' 121 (1556 + 2 * j) = rd σ 121 (1556 + 2 * j) ∧ rd σ' 121 (1557 + 2 * j) = rd σ 121 (1557 + 2 * j)
theorem sM_write {d : Nat} {Φ : Po} {σ : Sg} {w f t : Int} (hi : rd σ 120 24 = 0 ∨ (rd σ 120 24 = 1 ∧ 0 ≤ rd σ 121 10 ∧ rd σ 121 10 ≤ 20000)) (hw1 : rd σ 120 25 = w) (hf1 : rd σ 120 26 = f) (ht1 : rd σ 120 27 = t) (hw : -1 ≤ w ∧ w < 6) (hf : 0 ≤ f ∧ f ≤ 9) (ht : 0 ≤ t ∧ t ≤ 594) (h0 : rd σ 120 24 = 0 → Φ none σ) (h : rd σ 120 24 = 1 → ∀ σ' : Sg, Fr FMw σ σ' → mc σ' 121 = mc σ 121 → RgW σ σ' w f t → Φ none σ') : wp true (d + 1) nM_write [.ref 120] σ Φ := by
  apply wM_write
  simp only [pI, pL, pR, pV, i10, ↓reduceIte, eM_write_0]
  have c0 : (gI σ 120 24 = 0) = (rd σ 120 24 = 0) := by rw [ieq]; rfl
  simp only [c0]
  split
  next z => exact h0 z
  next z =>
    obtain ⟨i1, i2, i3⟩ : rd σ 120 24 = 1 ∧ 0 ≤ rd σ 121 10 ∧ rd σ 121 10 ≤ 20000 := by omega
    simp only [pI, pL, pR, pV, i10, ↓reduceIte, eM_write_8]
    have e10 : (gI σ 121 (ix 10)).toInt = rd σ 121 10 := rfl
    have em : (gI σ 121 (ix 10) % 1230).toInt = rd σ 121 10 % 1230 := by rw [tR (by rw [e10]; omega), e10]; rfl
    have e2 : (2 * (gI σ 121 (ix 10) % 1230)).toInt = 2 * (rd σ 121 10 % 1230) := by rw [tX (by rw [em, show (2 : Int32).toInt = 2 from rfl]; omega), em]; rfl
    have e3 : (1556 + 2 * (gI σ 121 (ix 10) % 1230)).toInt = 1556 + 2 * (rd σ 121 10 % 1230) := by rw [tP (by rw [e2, show (1556 : Int32).toInt = 1556 from rfl]; omega), e2]; rfl
    have e4 : (1556 + 2 * (gI σ 121 (ix 10) % 1230) + 1).toInt = 1557 + 2 * (rd σ 121 10 % 1230) := by rw [tP (by rw [e3, tl1]; omega), e3, tl1]; omega
    have e3x : ix (1556 + 2 * (gI σ 121 (ix 10) % 1230)) = 1556 + 2 * ((rd σ 121 10).toNat % 1230) := ix_of (by rw [e3]; omega)
    have e4x : ix (1556 + 2 * (gI σ 121 (ix 10) % 1230) + 1) = 1557 + 2 * ((rd σ 121 10).toNat % 1230) := ix_of (by rw [e4]; omega)
    have b3 : inb (1556 + 2 * (gI σ 121 (ix 10) % 1230)) 4016 := ⟨by rw [e3]; omega, by rw [e3]; omega⟩
    have b4 : inb (1556 + 2 * (gI σ 121 (ix 10) % 1230) + 1) 4016 := ⟨by rw [e4]; omega, by rw [e4]; omega⟩
    have hr : (rd σ 121 10).toNat % 1230 < 1230 := Nat.mod_lt _ (by decide)
    generalize hrr : (rd σ 121 10).toNat % 1230 = r at e3x e4x hr
    refine ⟨⟨by decide, by decide⟩, by decide, ⟨by decide, by decide⟩, b3, b4, ⟨by decide, by decide⟩, ⟨by decide, by decide⟩, ?_⟩
    rw [e3x, e4x, show ix 10 = 10 from rfl, show ix 8 = 8 from rfl, gIne (by omega), gIne (by omega), gIne (by omega), gIne2 (by omega), gIne2 (by omega)]
    have w1 : (gI σ 120 25).toInt = w := hw1
    have f1 : (gI σ 120 26).toInt = f := hf1
    have t1' : (gI σ 120 27).toInt = t := ht1
    have p1 : (gI σ 120 25 + 1).toInt = w + 1 := by rw [tP (by rw [w1, tl1]; omega), w1, tl1]
    have p2 : ((gI σ 120 25 + 1) * 10000).toInt = (w + 1) * 10000 := by rw [tX (by rw [p1, show (10000 : Int32).toInt = 10000 from rfl]; omega), p1]; rfl
    have p3 : (gI σ 120 26 * 1000).toInt = f * 1000 := by rw [tX (by rw [f1, show (1000 : Int32).toInt = 1000 from rfl]; omega), f1]; rfl
    have p4 : ((gI σ 120 25 + 1) * 10000 + gI σ 120 26 * 1000).toInt = (w + 1) * 10000 + f * 1000 := by rw [tP (by rw [p2, p3]; omega), p2, p3]
    have p5 : ((gI σ 120 25 + 1) * 10000 + gI σ 120 26 * 1000 + gI σ 120 27).toInt = (w + 1) * 10000 + f * 1000 + t := by rw [tP (by rw [p4, t1']; omega), p4, t1']
    have big : ∀ n, 1556 ≤ n → ∀ k, k < 44 → mix k ≠ n := fun n hn k hk e => by have := mix_lt hk; omega
    refine h i1 _ (((fMw (by omega)).tr (fMw (by omega))).tr fMw10) ?_ ⟨?_, ?_, ?_, ?_⟩
    · have m10 : ∀ k, k < 44 → mix k ≠ 10 := by decide
      rw [mc_sIo m10, mc_sIo (big _ (by omega)), mc_sIo (big _ (by omega))]
    · rw [rdeq]
      exact t1 (x := gI σ 121 10) (by show -1000000 ≤ rd σ 121 10 ∧ rd σ 121 10 < 1000000; omega)
    · rw [hrr, rdne2 (by omega), rdne2 (by omega), rdeq]
      rfl
    · rw [hrr, rdne2 (by omega), rdeq, p5]
    · intro j hj hne
      rw [hrr] at hne
      rw [rdne2 (by omega), rdne2 (by omega), rdne2 (by omega), rdne2 (by omega), rdne2 (by omega), rdne2 (by omega)]
      exact ⟨rfl, rfl⟩
theorem lM_dues {d : Nat} {Φ : Po} {E : En} {c : Co} {σ0 : Sg} (hO : Ok E c) (hE : ME σ0 E) (h7 : c 42 % 7 = 0) (h : ∀ (σ : Sg) (x : Int32), Fr FMc σ0 σ → mc σ 121 = dueS E c (eN E) → bM_pass_68 true NOB (wp true (d + 8)) Φ (kM_pass (d + 8) Φ) [.ref 120, .int x] [] σ) :
    ∀ (n : Nat) (σ : Sg) (x : Int32), x.toInt + n = eN E → 0 ≤ x.toInt → Fr FMc σ0 σ → mc σ 121 = dueS E c (ix x) → bM_pass_2 true NOB (wp true (d + 8)) Φ (kM_pass (d + 8) Φ) [.ref 120, .int x] [] σ
  | 0, σ, x, hx, h0, hF, hc => by
    simp only [pI, pL, pR, pV, i10, ↓reduceIte, eM_pass_2]
    have e4 : (gI σ 121 (ix 0)).toInt = eN E := (hF.rd rfl).trans hE.1
    simp only [ile, e4]
    rw [if_pos (by omega)]
    have : ix x = eN E := by unfold ix; omega
    exact ⟨⟨by decide, by decide⟩, h σ x hF (by rw [hc, this])⟩
  | n + 1, σ, x, hx, h0, hF, hc => by
    simp only [pI, pL, pR, pV, i10, ↓reduceIte, eM_pass_2]
    have h6 := hO.1
    have e4 : (gI σ 121 (ix 0)).toInt = eN E := (hF.rd rfl).trans hE.1
    have hxx := ix_to h0
    have hx6 : 0 ≤ x.toInt ∧ x.toInt < 6 := by omega
    obtain ⟨o1, o2⟩ := dueS_ok hO (ix x) (by omega)
    have hE' := MEc hF hE
    simp only [ile, e4]
    rw [if_neg (by omega)]
    have e42 : (gI σ 121 (ix 8)).toInt = c 42 := by
      rw [← o2 42 (by omega), ← hc]; rfl
    have hday := hO.2.2.1
    have e7 : (gI σ 121 (ix 8) % 7).toInt = c 42 % 7 := by rw [tR (by rw [e42]; omega), e42]; rfl
    have cd : (gI σ 121 (ix 8) % 7 = 0) = (c 42 % 7 = 0) := by rw [ieq, e7]; rfl
    simp only [cd]
    rw [if_pos h7]
    refine ⟨⟨by decide, by decide⟩, ⟨by decide, by decide⟩, by decide, ?_⟩
    have next : ∀ σ2 : Sg, Fr FMc σ0 σ2 → mc σ2 121 = dueS E c (ix x + 1) → bM_pass_62 true NOB (wp true (d + 8)) Φ (kM_pass (d + 8) Φ) [.ref 120, .int x] [] σ2 := fun σ2 hF2 hc2 => by
      simp only [pI, pL, pR, pV, i10, ↓reduceIte, eM_pass_62]
      exact hM_pass_2 _ _ _ _ _ (lM_dues hO hE h7 h n σ2 (x + 1) (by rw [t1 (by omega)]; omega) (by rw [t1 (by omega)]; omega) hF2 (by rw [ix1 (by omega)]; exact hc2))
    have eS : dueS E c (ix x + 1) = if dueS E c (ix x) (24 + ix x) = 0 then upc (dueS E c (ix x)) (ix x) (min 9999 (dueS E c (ix x) (ix x) + duesF E (dueS E c (ix x)) (ix x))) else dueS E c (ix x) := rfl
    refine sM_getG hx6 (fun g hg => ?_)
    simp only [pI, pL, pR, pV, i10, ↓reduceIte, eM_pass_31]
    rw [hc] at hg
    have c0 : (g = 0) = (dueS E c (ix x) (24 + ix x) = 0) := by rw [ieq, hg]; rfl
    simp only [c0]
    split
    next z =>
      refine sM_getO hx6 (fun o ho => ?_)
      simp only [pI, pL, pR, pV, i10, ↓reduceIte, eM_pass_43]
      rw [hc] at ho
      refine sM_duesOf o1 hE' hc (by omega) (fun σ1 r hF1 hr => ?_)
      simp only [pI, pL, pR, pV, i10, ↓reduceIte, eM_pass_48]
      refine sM_cut (by decide) (fun m hm => ?_)
      simp only [pI, pL, pR, pV, i10, ↓reduceIte, eM_pass_59]
      refine sM_putO hx6 (fun σ2 he hc2 => ?_)
      have hob := (o1.w (w := ix x) (by omega)).1
      have hdb : 0 ≤ duesF E (dueS E c (ix x)) (ix x) ∧ duesF E (dueS E c (ix x)) (ix x) ≤ 99 := clamp_r (by omega)
      refine next σ2 ?_ ?_
      · rw [he, ← mix_o (ix6 hx6)]
        exact (hF.tr (FMLs hF1)).tr (fM (by have := ix6 hx6; omega))
      · rw [hc2, fml_mc hF1, hc, eS, if_pos z]
        congr 1
        rw [hm, Int32.toInt_toInt64, tP (by omega), ho, hr]
        show clamp (-999) 9999 _ = _
        unfold clamp
        repeat' split
        all_goals omega
    next z =>
      refine next σ hF ?_
      rw [eS, if_neg z]
      exact hc
theorem lM_take {d : Nat} {Φ : Po} {E : En} {c : Co} {w f : Int} {σ0 : Sg} (hO : Ok E c) (hE : ME σ0 E) (hT : ∀ v, v < eV E → 0 ≤ c (36 + v) ∧ c (36 + v) ≤ 1000000) (hw : (w = -1 ∧ f = 0) ∨ (0 ≤ w ∧ w < eN E)) (hf : 0 ≤ f ∧ f ≤ 9) (h : ∀ (σ : Sg) (x : Int32), Fr FMc σ0 σ → mc σ 121 = (takeS E w f c (eV E)).1 → rd σ 120 25 = w → rd σ 120 26 = f → rd σ 120 27 = (takeS E w f c (eV E)).2 → bM_pass_100 true NOB (wp true (d + 8)) Φ (kM_pass (d + 8) Φ) [.ref 120, .int x] [] σ) :
    ∀ (n : Nat) (σ : Sg) (x : Int32), x.toInt + n = eV E → 0 ≤ x.toInt → Fr FMc σ0 σ → mc σ 121 = (takeS E w f c (ix x)).1 → rd σ 120 25 = w → rd σ 120 26 = f → rd σ 120 27 = (takeS E w f c (ix x)).2 → bM_pass_79 true NOB (wp true (d + 8)) Φ (kM_pass (d + 8) Φ) [.ref 120, .int x] [] σ
  | 0, σ, x, hx, h0, hF, hc, hw1, hf1, ht1 => by
    simp only [pI, pL, pR, pV, i10, ↓reduceIte, eM_pass_79]
    have e6 : (gI σ 121 (ix 1)).toInt = eV E := (hF.rd rfl).trans hE.2.1
    simp only [ile, e6]
    rw [if_pos (by omega)]
    have : ix x = eV E := by unfold ix; omega
    rw [this] at hc ht1
    exact ⟨⟨by decide, by decide⟩, h σ x hF hc hw1 hf1 ht1⟩
  | n + 1, σ, x, hx, h0, hF, hc, hw1, hf1, ht1 => by
    simp only [pI, pL, pR, pV, i10, ↓reduceIte, eM_pass_79]
    have h6 := hO.2.1
    have e6 : (gI σ 121 (ix 1)).toInt = eV E := (hF.rd rfl).trans hE.2.1
    have hxx := ix_to h0
    have hxv : ix x < eV E := by omega
    obtain ⟨o1, o2, o3, o4⟩ := takeS_ok (w := w) (f := f) hO (ix x) (by omega)
    have e36 := o2 (36 + ix x) (by omega)
    simp only [ile, e6]
    rw [if_neg (by omega)]
    refine ⟨⟨by decide, by decide⟩, ?_⟩
    have eq1 : takeS E w f c (ix x + 1) = (takeQ E w f (takeP E w f (takeS E w f c (ix x)).1 (ix x)) (ix x), (takeS E w f c (ix x)).2 + if w = -1 then 0 else takesF E (takeS E w f c (ix x)).1 w.toNat (ix x) f) := rfl
    refine sM_takeFrom o1 (MEc hF hE) hc (by omega) (by rw [e36]; exact hT _ hxv) hw hf hw1 hf1 (by rw [ht1]; omega) (fun σ2 hF2 hc2 hw2 hf2 ht2 => ?_)
    simp only [pI, pL, pR, pV, i10, ↓reduceIte, eM_pass_94]
    refine hM_pass_79 _ _ _ _ _ (lM_take hO hE hT hw hf h n σ2 (x + 1) ?_ ?_ (hF.tr hF2) ?_ hw2 hf2 ?_)
    · rw [t1 (by omega)]; omega
    · rw [t1 (by omega)]; omega
    · rw [ix1 (by omega), eq1]; exact hc2
    · rw [ix1 (by omega), eq1, ht2, ht1]
theorem sM_pass {d : Nat} {Φ : Po} {E : En} {c : Co} {σ : Sg} (hO : Ok E c) (hE : ME σ E) (hc : mc σ 121 = c) (hT : TkOk E c) (h9 : c 42 < 9999) (hi : rd σ 120 24 = 0 ∨ (rd σ 120 24 = 1 ∧ 0 ≤ rd σ 121 10 ∧ rd σ 121 10 ≤ 20000)) (h : ∀ σ' : Sg, Fr FM σ σ' → mc σ' 121 = (passF E c).1 → rd σ' 120 25 = (passF E c).2.1 → rd σ' 120 26 = (passF E c).2.2.1 → rd σ' 120 27 = (passF E c).2.2.2 → (rd σ 120 24 = 0 → Fr FMc σ σ') → (rd σ 120 24 = 1 → RgW σ σ' (passF E c).2.1 (passF E c).2.2.1 (passF E c).2.2.2) → Φ none σ') : wp true (d + 9) nM_pass [.ref 120] σ Φ := by
  apply wM_pass
  simp only [pI, pL, pR, pV, i10, ↓reduceIte, eM_pass_0]
  have h6 := hO.1
  have h6v := hO.2.1
  have hday := hO.2.2.1
  obtain ⟨d1, d2⟩ := dueF_ok hO
  obtain ⟨b1, b2, b3, b4⟩ := blowS_ok d1
  obtain ⟨t1, t2, t3, t4⟩ := takeS_ok (w := (blowS E (dueF E c)).2.1) (f := (blowS E (dueF E c)).2.2) b1 (eV E) (Nat.le_refl _)
  have e42 : (takeS E (blowS E (dueF E c)).2.1 (blowS E (dueF E c)).2.2 (blowS E (dueF E c)).1 (eV E)).1 42 = c 42 := by rw [t2 42 (by omega), b4 42 (by omega), d2 42 (by omega)]
  have hend : ∀ (σ1 : Sg) (x : Int32), Fr FMc σ σ1 → mc σ1 121 = (takeS E (blowS E (dueF E c)).2.1 (blowS E (dueF E c)).2.2 (blowS E (dueF E c)).1 (eV E)).1 → rd σ1 120 25 = (blowS E (dueF E c)).2.1 → rd σ1 120 26 = (blowS E (dueF E c)).2.2 → rd σ1 120 27 = (takeS E (blowS E (dueF E c)).2.1 (blowS E (dueF E c)).2.2 (blowS E (dueF E c)).1 (eV E)).2 → bM_pass_100 true NOB (wp true (d + 8)) Φ (kM_pass (d + 8) Φ) [.ref 120, .int x] [] σ1 := by
    intro σ1 x hF1 hc1 hw1 hf1 ht1
    simp only [pI, pL, pR, pV, i10, ↓reduceIte, eM_pass_100]
    have e24 : rd σ1 120 24 = rd σ 120 24 := hF1.rd rfl
    have e10 : rd σ1 121 10 = rd σ 121 10 := hF1.rd rfl
    have e8 : rd σ1 121 8 = c 42 := by
      have : mc σ1 121 42 = c 42 := by rw [hc1, e42]
      exact this
    have e8' : rd σ 121 8 = c 42 := by rw [← hc]; rfl
    have ring : ∀ k, 84 ≤ k → rd σ1 121 k = rd σ 121 k := fun k hk => hF1.rd (by
      unfold inS
      simp only [FMc, List.any_cons, List.any_nil, nbeq (by decide : (126 : Nat) ≠ 121), nbeq (by decide : (127 : Nat) ≠ 121), nbeq (by decide : (128 : Nat) ≠ 121), nbeq (by decide : (120 : Nat) ≠ 121), Bool.false_and, Bool.or_false, Bool.false_or, Bool.or_eq_false_iff, Bool.and_eq_false_iff, Nat.blt]
      refine ⟨Or.inr (Or.inr (nble ?_)), Or.inr (Or.inr (nble ?_)), Or.inr (Or.inr (nble ?_)), Or.inr (Or.inr (nble ?_)), Or.inr (Or.inr (nble ?_)), Or.inr (Or.inr (nble ?_)), Or.inr (Or.inr (nble ?_)), Or.inr (Or.inr (nble ?_)), Or.inr (Or.inr (nble ?_)), Or.inr (Or.inr (nble ?_)), Or.inr (Or.inr (nble ?_)), Or.inr (Or.inr (nble ?_)), Or.inr (Or.inr (nble ?_))⟩ <;> omega)
    have fin : ∀ σ2 : Sg, Fr FM σ σ2 → mc σ2 121 = (takeS E (blowS E (dueF E c)).2.1 (blowS E (dueF E c)).2.2 (blowS E (dueF E c)).1 (eV E)).1 → (∀ k, rd σ2 120 k = rd σ1 120 k) → (rd σ 120 24 = 0 → Fr FMc σ σ2) → (rd σ 120 24 = 1 → RgW σ σ2 (blowS E (dueF E c)).2.1 (blowS E (dueF E c)).2.2 (takeS E (blowS E (dueF E c)).2.1 (blowS E (dueF E c)).2.2 (blowS E (dueF E c)).1 (eV E)).2) → bM_pass_104 true NOB (wp true (d + 8)) Φ (kM_pass (d + 8) Φ) [.ref 120, .int x] [] σ2 := by
      intro σ2 hF2 hc2 hk hA hB
      simp only [pI, pL, pR, pV, i10, ↓reduceIte, eM_pass_104]
      refine ⟨⟨by decide, by decide⟩, ⟨by decide, by decide⟩, ?_⟩
      have g8 : (gI σ2 121 8).toInt = c 42 := by
        have : mc σ2 121 42 = c 42 := by rw [hc2, e42]
        exact this
      have r120 : ∀ k, rd (sI σ2 121 (ix 8) (gI σ2 121 (ix 8) + 1)) 120 k = rd σ1 120 k := fun k => by rw [rdne (by omega)]; exact hk k
      refine h _ (hF2.tr (FMcs (fM (k := 42) (by omega)))) ?_ ?_ ?_ ?_ (fun z => (hA z).tr (fM (k := 42) (by omega))) (fun z => ?_)
      · rw [mc_sI (k := 42) (n := ix 8) (by omega) rfl, hc2, show ix 8 = 8 from rfl, t1' g8 hday]
        unfold passF
        dsimp only
        rw [e42]
      · rw [r120]; exact hw1
      · rw [r120]; exact hf1
      · rw [r120]; exact ht1
      · obtain ⟨R1, R2, R3, R4⟩ := hB z
        have hr : (rd σ 121 10).toNat % 1230 < 1230 := Nat.mod_lt _ (by decide)
        refine ⟨?_, ?_, ?_, fun j hj hne => ?_⟩
        · rw [show ix 8 = 8 from rfl, rdne2 (by omega)]; exact R1
        · rw [show ix 8 = 8 from rfl, rdne2 (by omega)]; exact R2
        · rw [show ix 8 = 8 from rfl, rdne2 (by omega)]; exact R3
        · rw [show ix 8 = 8 from rfl, rdne2 (by omega), rdne2 (by omega)]; exact R4 j hj hne
    refine sM_write (by rw [e24, e10]; exact hi) hw1 hf1 ht1 (by omega) b3 (by omega) (fun z => ?_) (fun z σ2 hF2 hc2 hR => ?_)
    · simp only [pI, pL, pR, pV, i10, ↓reduceIte, eM_pass_100]
      refine fin σ1 (FMcs hF1) hc1 (fun _ => rfl) (fun _ => hF1) (fun y => ?_)
      rw [e24, y] at z
      exact absurd z (by decide)
    · simp only [pI, pL, pR, pV, i10, ↓reduceIte, eM_pass_100]
      refine fin σ2 ((FMcs hF1).tr (FMws hF2)) (hc2.trans hc1) (fun k => hF2.rd rfl) (fun y => ?_) (fun y => ?_)
      · rw [e24, y] at z
        exact absurd z (by decide)
      · obtain ⟨R1, R2, R3, R4⟩ := hR
        rw [e10] at R1 R2 R3 R4
        refine ⟨R1, by rw [R2, e8, e8'], R3, fun j hj hne => ?_⟩
        have := R4 j hj hne
        rw [ring _ (by omega), ring _ (by omega)] at this
        exact this
  have hblow : ∀ (σ1 : Sg) (x : Int32), Fr FMc σ σ1 → mc σ1 121 = dueF E c → bM_pass_68 true NOB (wp true (d + 8)) Φ (kM_pass (d + 8) Φ) [.ref 120, .int x] [] σ1 := by
    intro σ1 x hF1 hc1
    simp only [pI, pL, pR, pV, i10, ↓reduceIte, eM_pass_68]
    refine sM_blow d1 (MEc hF1 hE) hc1 (fun σ2 hF2 hc2 hw2 hf2 => ?_)
    simp only [pI, pL, pR, pV, i10, ↓reduceIte, eM_pass_72]
    have hF3 : Fr FMc σ (sI σ2 120 27 0) := (hF1.tr hF2).tr (f120 (by omega))
    refine lM_take b1 (MEc hF3 hE) (fun v hv => ?_) b2 b3 (fun σ3 x hF4 => hend σ3 x (hF3.tr hF4)) (eV E) _ 0 (by rw [tl0]; omega) (by decide) Fr.rf ?_ ?_ ?_ ?_
    · rw [b4 _ (by omega), d2 _ (by omega)]
      have := hT v hv
      omega
    · rw [mc_ne (by omega)]; exact hc2
    · rw [rdne2 (by omega)]; exact hw2
    · rw [rdne2 (by omega)]; exact hf2
    · rw [rdeq]; rfl
  by_cases h7 : c 42 % 7 = 0
  · refine lM_dues hO hE h7 (fun σ1 x hF1 hc1 => hblow σ1 x hF1 ?_) (eN E) σ 0 (by rw [tl0]; omega) (by decide) Fr.rf hc
    rw [hc1]
    unfold dueF
    rw [if_pos h7]
  · simp only [pI, pL, pR, pV, i10, ↓reduceIte, eM_pass_2]
    have e4 : (gI σ 121 (ix 0)).toInt = eN E := hE.1
    have e42' : (gI σ 121 (ix 8)).toInt = c 42 := by rw [← hc]; rfl
    have e7 : (gI σ 121 (ix 8) % 7).toInt = c 42 % 7 := by rw [tR (by rw [e42']; omega), e42']; rfl
    have cd : (gI σ 121 (ix 8) % 7 = 0) = (c 42 % 7 = 0) := by rw [ieq, e7]; rfl
    have ed : dueF E c = c := by unfold dueF; rw [if_neg h7]
    simp only [cd]
    rw [if_neg h7]
    refine ⟨⟨by decide, by decide⟩, ?_⟩
    split
    · exact hblow σ 0 Fr.rf (by rw [ed]; exact hc)
    · exact ⟨⟨by decide, by decide⟩, by decide, hblow σ 0 Fr.rf (by rw [ed]; exact hc)⟩
