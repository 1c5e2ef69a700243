/-! NEXT VANE -/
def b9 (x0 x1 x2 x3 x4 x5 x6 x7 x8 : Bool) (n : Nat) : Bool := if n = 0 then x0 else if n = 1 then x1 else if n = 2 then x2 else if n = 3 then x3 else if n = 4 then x4 else if n = 5 then x5 else if n = 6 then x6 else if n = 7 then x7 else x8
theorem strK : ∀ x0 x1 x2 x3 x4 x5 x6 x7 x8 : Bool, ∀ f, f < 9 → decide (((strB (b9 x0 x1 x2 x3 x4 x5 x6 x7 x8) 9 >>> (Int32.ofNat (f + 1) &&& 31)) &&& 1) = 1) = b9 x0 x1 x2 x3 x4 x5 x6 x7 x8 f := by decide +kernel
theorem strB_cg {b b' : Nat → Bool} : ∀ n, (∀ k, k < n → b k = b' k) → strB b n = strB b' n
  | 0, _ => rfl
  | n + 1, h => by
    show cond (b n) _ _ = cond (b' n) _ _
    rw [h n (by omega), strB_cg n (fun k hk => h k (by omega))]
theorem b9_id (b : Nat → Bool) : ∀ k, k < 9 → b k = b9 (b 0) (b 1) (b 2) (b 3) (b 4) (b 5) (b 6) (b 7) (b 8) k := fun k hk => by
  have : k = 0 ∨ k = 1 ∨ k = 2 ∨ k = 3 ∨ k = 4 ∨ k = 5 ∨ k = 6 ∨ k = 7 ∨ k = 8 := by omega
  rcases this with rfl | rfl | rfl | rfl | rfl | rfl | rfl | rfl | rfl <;> rfl
theorem strBit (b : Nat → Bool) {f : Nat} (hf : f < 9) : (((strB b 9 >>> (Int32.ofNat (f + 1) &&& 31)) &&& 1) = 1) = (b f = true) := by
  have h := strK (b 0) (b 1) (b 2) (b 3) (b 4) (b 5) (b 6) (b 7) (b 8) f hf
  rw [← strB_cg 9 (b9_id b), ← b9_id b f hf] at h
  rw [← h]
  exact propext decide_eq_true_iff.symm
/-- which answers came in the first n pairs (wind, force), and how many -/
def ansS (E : En) (c : Co) (a : Nat → Int) (v : Nat) : Nat → (Nat → Bool) × Nat
  | 0 => (fun _ => false, 0)
  | n + 1 => if fitF E c a (n / 9) ((n % 9 + 1 : Nat) : Int) = true ∧ (ansS E c a v n).1 (takesF E c (n / 9) v ((n % 9 + 1 : Nat) : Int)).toNat = false then ((fun k => if k = (takesF E c (n / 9) v ((n % 9 + 1 : Nat) : Int)).toNat then true else (ansS E c a v n).1 k), (ansS E c a v n).2 + 1) else ansS E c a v n
theorem ansS_b {E : En} {c : Co} {a : Nat → Int} {v : Nat} : ∀ n, (ansS E c a v n).2 ≤ n
  | 0 => Nat.le_refl _
  | n + 1 => by
    have := ansS_b (E := E) (c := c) (a := a) (v := v) n
    unfold ansS
    split
    · show (ansS E c a v n).2 + 1 ≤ n + 1
      omega
    · omega
def Sn (r : Nat) (s : Nat → Bool) (σ : Sg) : Prop := ∀ k, k < 100 → (gI σ r k).toInt = bi (s k)
theorem Sn.fr {S : Ls} {r : Nat} {s : Nat → Bool} {σ σ' : Sg} (h : Fr S σ σ') (e : ∀ k, k < 100 → inS S r k = false) (g : Sn r s σ) : Sn r s σ' := fun k hk => by
  rw [h.1 r k (e k hk)]
  exact g k hk
theorem Sn.put {r : Nat} {s : Nat → Bool} {σ : Sg} {t : Nat} (g : Sn r s σ) : Sn r (fun k => if k = t then true else s k) (sI σ r t 1) := fun k hk => by
  by_cases e : k = t
  · subst e
    rw [gIeq]
    simp only [if_pos]
    rfl
  · rw [gIne2 e]
    simp only [if_neg e]
    exact g k hk
theorem takes_r {E : En} {c : Co} {w v : Nat} {f : Int} : 0 ≤ takesF E c w v f ∧ takesF E c w v f ≤ 99 := clamp_r (by omega)
abbrev FZ : Ls := [(109, 0, 64), (118, 0, 100)]
abbrev FZm : Ls := FML ++ [(135, 0, 100)]
theorem FZx {σ σ' : Sg} (h : Fr FZ σ σ') : Fr XS σ σ' := h.mo (by decide)
theorem FZmm {σ σ' : Sg} (h : Fr FZm σ σ') : Fr MS σ σ' := h.mo (by decide)
/-- what the class keeps of each wind -/
def Ft (E : En) (c : Co) (a : Nat → Int) (m : Nat) (σ : Sg) : Prop := ∀ w, w < m → gI σ 117 w = strF E c a w
theorem sZ_unlike {d : Nat} {Φ : Po} {lws : Lws} {E : En} {c : Co} {a : Nat → Int} {v : Int32} {σ : Sg} (g : Wd lws E c a σ) (hft : Ft E c a (eN E) σ) (hv : 0 ≤ v.toInt ∧ v.toInt < eV E) (h : ∀ (σ' : Sg) (r : Int32), Fr FZ σ σ' → r.toInt = (ansS E c a (ix v) (9 * eN E)).2 → Φ (some (.int r)) σ') : wp true (d + 6) nZ_unlikeAnswers [.ref 115, .int v] σ Φ := by
  have f117 : ∀ w, inS FZ 117 w = false := fun w => not_inS (fun e he z => by
    have : ∀ e, e ∈ FZ → e.1 ≠ 117 := by decide
    exact this e he z.1)
  have f118 : ∀ k, k < 100 → inS F109 118 k = false := fun k _ => not_inS (fun e he z => by
    have : ∀ e, e ∈ F109 → e.1 ≠ 118 := by decide
    exact this e he z.1)
  have k9 : (9 : Int32).toInt = 9 := rfl
  -- inner loop
  have inner : ∀ (w : Nat) (xw : Int32), xw.toInt = w → w < eN E → (∀ (σ' : Sg) (s x4 : Int32) (v5 : Value), Fr FZ σ σ' → s.toInt = (ansS E c a (ix v) (9 * (w + 1))).2 → Sn 118 (ansS E c a (ix v) (9 * (w + 1))).1 σ' → bZ_unlikeAnswers_109 true NOB (wp true (d + 5)) Φ (kZ_unlikeAnswers (d + 5) Φ) [.ref 115, .int v, .int s, .int xw, .int x4, v5] [] σ') →
      ∀ (n m : Nat) (σ' : Sg) (s x4 : Int32) (v5 : Value), m + n = 9 → x4.toInt = m + 1 → Fr FZ σ σ' → s.toInt = (ansS E c a (ix v) (9 * w + m)).2 → Sn 118 (ansS E c a (ix v) (9 * w + m)).1 σ' → bZ_unlikeAnswers_42 true NOB (wp true (d + 5)) Φ (kZ_unlikeAnswers (d + 5) Φ) [.ref 115, .int v, .int s, .int xw, .int x4, v5] [] σ' := by
    intro w xw hxw hw K n
    have hn6 := g.nv.2.2.2.2.2.2.1
    have hix : ix xw = w := ix_of hxw
    induction n with
    | zero =>
      intro m σ' s x4 v5 hm hx hF hs hS
      simp only [pI, pL, pR, pV, i10, ↓reduceIte, eZ_unlikeAnswers_42]
      simp only [ilt, k9, hx]
      rw [if_pos (by omega)]
      obtain rfl : m = 9 := by omega
      exact K σ' s x4 v5 hF hs hS
    | succ n ih =>
      intro m σ' s x4 v5 hm hx hF hs hS
      have g1 : Wd lws E c a σ' := g.x (FZx hF).fi
      obtain ⟨hO, hE, hc, -⟩ := g1.all
      have hb := ansS_b (E := E) (c := c) (a := a) (v := ix v) (9 * w + m)
      have hx1 : (x4 + 1).toInt = ((m + 1 : Nat) : Int) + 1 := by rw [tq1 x4 (by omega), hx]; omega
      have ex : x4 = Int32.ofNat (m + 1) := ofN (by rw [hx]; omega) (by omega)
      have hd : (9 * w + m) / 9 = w := by omega
      have hmm : (9 * w + m) % 9 = m := by omega
      have eS : ansS E c a (ix v) (9 * w + (m + 1)) = if fitF E c a w ((m + 1 : Nat) : Int) = true ∧ (ansS E c a (ix v) (9 * w + m)).1 (takesF E c w (ix v) ((m + 1 : Nat) : Int)).toNat = false then ((fun k => if k = (takesF E c w (ix v) ((m + 1 : Nat) : Int)).toNat then true else (ansS E c a (ix v) (9 * w + m)).1 k), (ansS E c a (ix v) (9 * w + m)).2 + 1) else ansS E c a (ix v) (9 * w + m) := by
        rw [← Nat.add_assoc]
        show (if fitF E c a ((9 * w + m) / 9) (((9 * w + m) % 9 + 1 : Nat) : Int) = true ∧ _ then _ else _) = _
        rw [hd, hmm]
      simp only [pI, pL, pR, pV, i10, ↓reduceIte, eZ_unlikeAnswers_42]
      simp only [ilt, k9, hx]
      rw [if_neg (by omega), hix]
      refine ⟨⟨by omega, by omega⟩, ?_⟩
      have e117 : gI σ' 117 w = strF E c a w := by rw [hF.1 _ _ (f117 w)]; exact hft w hw
      have cb : ((gI σ' 117 w >>> (x4 &&& 31)) &&& 1 = 1) = (fitF E c a w ((m + 1 : Nat) : Int) = true) := by
        rw [e117, ex]
        exact strBit (fun n => fitF E c a w ((n + 1 : Nat) : Int)) (by omega)
      simp only [cb]
      have ef : x4.toInt = ((m + 1 : Nat) : Int) := by omega
      split
      next z =>
        refine sL_takesOf hO hE hc (by omega) hv (by omega) (fun σ1 r hF1 hr => ?_)
        rw [hix, ef] at hr
        have hr99 := takes_r (E := E) (c := c) (w := w) (v := ix v) (f := ((m + 1 : Nat) : Int))
        have hir : ix r = (takesF E c w (ix v) ((m + 1 : Nat) : Int)).toNat := ixv hr
        have hS1 := Sn.fr hF1 f118 hS
        have hF1z : Fr FZ σ σ1 := hF.tr (hF1.mo (by decide))
        simp only [pI, pL, pR, pV, i10, ↓reduceIte, eZ_unlikeAnswers_75]
        rw [hir]
        generalize hT : (takesF E c w (ix v) ((m + 1 : Nat) : Int)).toNat = T at *
        have hT99 : T < 100 := by omega
        have c0 : (gI σ1 118 T = 0) = ((ansS E c a (ix v) (9 * w + m)).1 T = false) := by
          simp only [ieq, hS1 T hT99, tl0]
          cases (ansS E c a (ix v) (9 * w + m)).1 T <;> simp [bi]
        simp only [c0]
        refine ⟨⟨by omega, by omega⟩, ?_⟩
        split
        next y =>
          rw [if_pos ⟨z, y⟩] at eS
          simp only [pI, pL, pR, pV, i10, ↓reduceIte, eZ_unlikeAnswers_92, eZ_unlikeAnswers_93, eZ_unlikeAnswers_103]
          rw [hir]
          refine ⟨⟨by omega, by omega⟩, hZ_unlikeAnswers_42 _ _ _ _ _ (ih (m + 1) _ (s + 1) (x4 + 1) _ (by omega) hx1 (hF1z.tr (Fr.sI (inS_r (lo := 0) (hi := 100) (by simp) (by omega)))) ?_ ?_)⟩
          · rw [eS, tq1 s (by omega), hs]
            show _ = (((ansS E c a (ix v) (9 * w + m)).2 + 1 : Nat) : Int)
            omega
          · rw [eS]
            exact hS1.put
        next y =>
          rw [if_neg (fun q => y q.2)] at eS
          simp only [pI, pL, pR, pV, i10, ↓reduceIte, eZ_unlikeAnswers_93, eZ_unlikeAnswers_103]
          rw [hir]
          refine ⟨⟨by omega, by omega⟩, hZ_unlikeAnswers_42 _ _ _ _ _ (ih (m + 1) _ (s + 0) (x4 + 1) _ (by omega) hx1 (hF1z.tr (Fr.sI (inS_r (lo := 0) (hi := 100) (by simp) (by omega)))) ?_ ?_)⟩
          · rw [eS, tP (by rw [tl0]; omega), hs, tl0]
            omega
          · rw [eS]
            intro k hk
            have := hS1.put (t := T) k hk
            by_cases e : k = T
            · rw [this, e]
              simp only [if_pos]
              congr 1
              cases hq : (ansS E c a (ix v) (9 * w + m)).1 T
              · exact absurd hq y
              · rfl
            · rw [this]
              simp only [if_neg e]
      next z =>
        rw [if_neg (fun q => z q.1)] at eS
        simp only [pI, pL, pR, pV, i10, ↓reduceIte, eZ_unlikeAnswers_103]
        exact hZ_unlikeAnswers_42 _ _ _ _ _ (ih (m + 1) _ s (x4 + 1) _ (by omega) hx1 hF (by rw [eS]; exact hs) (by rw [eS]; exact hS))
  -- outer loop
  have outer : ∀ (n w : Nat) (σ' : Sg) (s xw : Int32) (v4 v5 : Value), w + n = eN E → xw.toInt = w → Fr FZ σ σ' → s.toInt = (ansS E c a (ix v) (9 * w)).2 → Sn 118 (ansS E c a (ix v) (9 * w)).1 σ' → bZ_unlikeAnswers_28 true NOB (wp true (d + 5)) Φ (kZ_unlikeAnswers (d + 5) Φ) [.ref 115, .int v, .int s, .int xw, v4, v5] [] σ' := by
    have hn6 := g.nv.2.2.2.2.2.2.1
    intro n
    induction n with
    | zero =>
      intro w σ' s xw v4 v5 hw hx hF hs hS
      have n1 := (g.x (FZx hF).fi).nv.1
      simp only [pI, pL, pR, pV, i10, ↓reduceIte, eZ_unlikeAnswers_28, eZ_unlikeAnswers_115]
      simp only [ile, n1, hx]
      rw [if_pos (by omega)]
      obtain rfl : w = eN E := by omega
      exact h σ' s hF hs
    | succ n ih =>
      intro w σ' s xw v4 v5 hw hx hF hs hS
      have n1 := (g.x (FZx hF).fi).nv.1
      simp only [pI, pL, pR, pV, i10, ↓reduceIte, eZ_unlikeAnswers_28]
      simp only [ile, n1, hx]
      rw [if_neg (by omega)]
      refine inner w xw hx (by omega) (fun σ2 s2 x4 v5 hF2 hs2 hS2 => ?_) 9 0 σ' s 1 v5 rfl rfl hF hs hS
      simp only [pI, pL, pR, pV, i10, ↓reduceIte, eZ_unlikeAnswers_109]
      exact hZ_unlikeAnswers_28 _ _ _ _ _ (ih (w + 1) σ2 s2 (xw + 1) _ _ (by omega) (by rw [tq1 xw (by omega), hx]; omega) hF2 hs2 hS2)
  have clr : ∀ (n : Nat) (σ' : Sg) (x : Int32), x.toInt + n = 100 → 0 ≤ x.toInt → Fr FZ σ σ' → (∀ k : Nat, (k : Int) < x.toInt → gI σ' 118 k = 0) → bZ_unlikeAnswers_4 true NOB (wp true (d + 5)) Φ (kZ_unlikeAnswers (d + 5) Φ) [.ref 115, .int v, .int 0, .int x, .retAddr 0, .retAddr 0] [] σ' := by
    intro n
    induction n with
    | zero =>
      intro σ' x hx h0 hF hk
      simp only [pI, pL, pR, pV, i10, ↓reduceIte, eZ_unlikeAnswers_4]
      simp only [ile, show (100 : Int32).toInt = 100 from rfl]
      rw [if_pos (by omega)]
      simp only [pI, pL, pR, pV, i10, ↓reduceIte, eZ_unlikeAnswers_26]
      exact outer (eN E) 0 σ' 0 0 _ _ (by omega) rfl hF rfl (fun k hk2 => by rw [hk k (by omega)]; rfl)
    | succ n ih =>
      intro σ' x hx h0 hF hk
      simp only [pI, pL, pR, pV, i10, ↓reduceIte, eZ_unlikeAnswers_4]
      simp only [ile, show (100 : Int32).toInt = 100 from rfl]
      rw [if_neg (by omega)]
      have hxx := ix_to h0
      refine ⟨⟨by omega, by omega⟩, hZ_unlikeAnswers_4 _ _ _ _ _ (ih _ (x + 1) (by rw [tq1 x (by omega)]; omega) (by rw [tq1 x (by omega)]; omega) (hF.tr (Fr.sI (inS_r (lo := 0) (hi := 100) (by simp) (by omega)))) (fun k hk2 => ?_))⟩
      rw [tq1 x (by omega)] at hk2
      by_cases e : k = ix x
      · rw [e, gIeq]
      · rw [gIne2 e]
        exact hk k (by omega)
  apply wZ_unlikeAnswers
  simp only [pI, pL, pR, pV, i10, ↓reduceIte, eZ_unlikeAnswers_0]
  exact clr 100 σ 0 rfl (by decide) Fr.rf (fun k hk => by rw [tl0] at hk; omega)
