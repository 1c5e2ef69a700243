/-! TWO STORES: the class ahead of the reference -/
def mrg (s t : Sg) : Sg := (fun a k => if a < 120 then s.1 a k else t.1 a k, t.2)
theorem mrg_c {s t : Sg} {a k : Nat} (h : a < 120) : rd (mrg s t) a k = rd s a k := by
  show (if a < 120 then s.1 a k else t.1 a k).toInt = _
  rw [if_pos h]; rfl
theorem mrg_m {s t : Sg} {a k : Nat} (h : 120 ≤ a) : rd (mrg s t) a k = rd t a k := by
  show (if a < 120 then s.1 a k else t.1 a k).toInt = _
  rw [if_neg (by omega)]; rfl
theorem mrg_rc {s t : Sg} {a : Nat} (h : a < 120) : rc (mrg s t) a = rc s a := by
  funext k
  unfold rc
  rw [mrg_c h]
theorem mrg_mc {s t : Sg} {a : Nat} (h : 120 ≤ a) : mc (mrg s t) a = mc t a := by
  funext k
  unfold mc
  rw [mrg_m h]
theorem mrg_EE {lws : Lws} {s t : Sg} : EE lws (mrg s t) = EE lws t := by
  unfold EE
  simp only [mrg_m (by omega : 120 ≤ 121)]
theorem Ei_mc {S : Ls} {s s' t : Sg} (h : Ei S s s') : Ei S (mrg s t) (mrg s' t) := fun a k q => by
  by_cases e : a < 120
  · rw [mrg_c e, mrg_c e]; exact h a k q
  · rw [mrg_m (by omega), mrg_m (by omega)]
theorem Ei_mm {S : Ls} {s t t' : Sg} (h : Ei S t t') : Ei S (mrg s t) (mrg s t') := fun a k q => by
  by_cases e : a < 120
  · rw [mrg_c e, mrg_c e]
  · rw [mrg_m (by omega), mrg_m (by omega)]; exact h a k q
theorem stepK {D : Int} {lws : Lws} {s s' t t' : Sg} (hD : 0 ≤ D) (g : RD D lws (mrg s t)) (k1 : KCi s s') (k2 : KMi t t') : RD 40 lws (mrg s' t') := by
  refine R_keep (σ1 := mrg s' t) hD g ?_ ?_
  · obtain ⟨c1, c2, c3, c4, c5⟩ := k1
    have e2 : rd (mrg s t) 1 2 = rd s 1 2 := mrg_c (by omega)
    refine ⟨Ei_mc c1, ?_, ?_, fun k hk => ?_, fun r k hr hne hk => ?_⟩
    · rw [e2, mrg_c (by omega)]; exact c2
    · rw [mrg_c (by omega), mrg_c (by omega)]; exact c3
    · have hlt : rd (mrg s t) 1 2 < 30 := ((g.1.2.2.2.2.2.2.2.2).2.2.1).2
      rw [e2] at hlt ⊢
      rw [mrg_c (by omega), mrg_c (by omega)]
      exact c4 k hk
    · rw [e2] at hne
      rw [mrg_c (by omega), mrg_c (by omega)]
      exact c5 r k hr hne hk
  · obtain ⟨m1, m2, m3, m4⟩ := k2
    have e4 : ∀ u : Sg, rd (mrg s' u) 121 4 = rd u 121 4 := fun u => mrg_m (by omega)
    refine ⟨Ei_mm m1, ?_, fun j k hj hk => ?_, fun e he => ?_⟩
    · rw [e4, e4]; exact m2
    · rw [e4] at hj
      rw [e4, mrg_m (by omega), mrg_m (by omega)]
      exact m3 j k hj hk
    · rw [e4, mrg_m (by omega), m4 e he]
      unfold want
      rw [mrg_m (by omega), mrg_m (by omega), mrg_m (by omega), mrg_m (by omega)]
theorem stepP {D : Int} {lws : Lws} {s s' t t' : Sg} (hD : 1 ≤ D) (g : RD D lws (mrg s t)) (h9 : mc t 121 42 < 9999) (k1 : PCi (EE lws t) s s') (k2 : PMi (EE lws t) t t') : RD (D - 1) lws (mrg s' t') := by
  refine R_pass (σ1 := mrg s' t) hD g (by rw [mrg_mc (by omega)]; exact h9) ?_ ?_
  · rw [mrg_EE]
    obtain ⟨c1, c2, c3⟩ := k1
    refine ⟨Ei_mc c1, by rw [mrg_rc (by omega), mrg_rc (by omega)]; exact c2, ?_⟩
    rw [mrg_rc (by omega)]
    unfold PgX at *
    simp only [mrg_c (by omega : 2 < 120)]
    exact c3
  · rw [mrg_EE]
    obtain ⟨m1, m2, m3⟩ := k2
    refine ⟨Ei_mm m1, by rw [mrg_mc (by omega), mrg_mc (by omega)]; exact m2, ?_⟩
    rw [mrg_mc (by omega)]
    unfold RgW at *
    simp only [mrg_m (by omega : 120 ≤ 121)]
    exact m3
abbrev SCc : Ls := XS ++ [(2, 0, 44)]
abbrev SCm : Ls := MS ++ FMk
theorem stepC {D : Int} {lws : Lws} {s s' t t' : Sg} {F : Co} (g : RD D lws (mrg s t)) (c1 : Ei SCc s s') (c2 : rc s' 2 = F) (m1 : Ei SCm t t') (m2 : mc t' 121 = F) (hok : COk t 121 F) (hu : ∀ k, Untold (rd t 121 0).toNat (rd t 121 1).toNat k → F k = mc t 121 k) (h42 : F 42 = mc t 121 42) : RD D lws (mrg s' t') := by
  have e0 : E0 (mrg s t) 121 = E0 t 121 := by unfold E0; simp only [mrg_m (by omega : 120 ≤ 121)]
  have er : ∀ k, rd (mrg s t) 121 k = rd t 121 k := fun k => mrg_m (by omega)
  refine R_core (σ := mrg s t) g ?_ ?_ ?_ ?_ ?_
  · exact ((Ei_mc (t := t) c1).mo (by decide)).tr ((Ei_mm (s := s') m1).mo (by decide))
  · rw [mrg_rc (by omega), mrg_mc (by omega), c2, m2]
  · unfold COk at *
    rw [e0, er, mrg_mc (by omega), m2]
    exact hok
  · intro k hk
    rw [er, er] at hk
    rw [mrg_mc (by omega), mrg_mc (by omega), m2]
    exact hu k hk
  · rw [mrg_mc (by omega), mrg_mc (by omega), m2]
    exact h42
def fEE : Ls := [(121, 0, 2), (121, 3, 4), (121, 12, 13), (121, 20, 21), (121, 28, 29), (121, 36, 37), (121, 44, 45), (121, 52, 53), (121, 60, 61), (121, 64, 65), (121, 68, 69), (121, 72, 73), (121, 76, 77), (121, 80, 81)]
theorem fEE_in : ∀ w, w < 6 → inS fEE 121 (12 + 8 * w) = true ∧ inS fEE 121 (60 + 4 * w) = true := by decide
theorem EE_of {lws : Lws} {t t' : Sg} (h : Eqc fEE t t') : EE lws t' = EE lws t := by
  unfold EE
  have e2 : (fun w => if w < 6 then rd t' 121 (12 + 8 * w) else 0) = fun w => if w < 6 then rd t 121 (12 + 8 * w) else 0 := by
    funext w
    by_cases q : w < 6
    · rw [if_pos q, if_pos q, h _ _ (fEE_in w q).1]
    · rw [if_neg q, if_neg q]
  have e3 : (fun w => if w < 6 then rd t' 121 (60 + 4 * w) else 0) = fun w => if w < 6 then rd t 121 (60 + 4 * w) else 0 := by
    funext w
    by_cases q : w < 6
    · rw [if_pos q, if_pos q, h _ _ (fEE_in w q).2]
    · rw [if_neg q, if_neg q]
  rw [h 121 0 (by decide), h 121 1 (by decide), h 121 3 (by decide), e2, e3]
/-- the start: the class's calls have left the reference's cells -/
theorem RD_start {lws : Lws} {σ τ : Sg} (g : R lws σ) (h : ∀ a k, 120 ≤ a → a < 137 → rd τ a k = rd σ a k) : RD 0 lws (mrg σ τ) := by
  have q : ∀ S : Ls, (∀ e, e ∈ S → e.1 < 137) → Eqc S σ (mrg σ τ) := fun S hs a k hin => by
    obtain ⟨e, he, e1, -⟩ := inS_ex hin
    have := hs e he
    by_cases c : a < 120
    · exact mrg_c c
    · rw [mrg_m (by omega)]; exact h a k (by omega) (by omega)
  exact R.of (q _ (by decide +kernel)) (q _ (by decide +kernel)) (q _ (by decide +kernel)) (q _ (by decide +kernel)) g
/-- the end: the reference's calls have left the class's cells -/
theorem RD_end {D : Int} {lws : Lws} {s τ : Sg} (hD : 0 ≤ D) (g : RD D lws (mrg s τ)) (h : ∀ a k, a < 120 → rd τ a k = rd s a k) : R lws τ := by
  have q : ∀ S : Ls, Eqc S (mrg s τ) τ := fun S a k _ => by
    by_cases c : a < 120
    · rw [mrg_c c]; exact h a k c
    · rw [mrg_m (by omega)]
  exact R.of (q _) (q _) (q _) (q _) (g.le hD)
theorem RD.core {D : Int} {lws : Lws} {s t : Sg} (g : RD D lws (mrg s t)) : rc s 2 = mc t 121 ∧ Ok (EE lws t) (mc t 121) ∧ TkOk (EE lws t) (mc t 121) ∧ ME t (EE lws t) ∧ rd t 120 24 = 1 ∧ (0 ≤ rd t 121 10 ∧ rd t 121 10 ≤ 9999) ∧ (0 ≤ rd t 121 4 ∧ rd t 121 4 ≤ 30) := by
  have g0 : R lws (mrg s t) ∨ True := Or.inr trivial
  have h7 := g.1.2.2.2.2.2.2.1
  have h1 : rc (mrg s t) 2 = mc (mrg s t) 121 := h7.1
  rw [mrg_rc (by omega), mrg_mc (by omega)] at h1
  have eE : EE lws (mrg s t) = EE lws t := mrg_EE
  have hO : Ok (EE lws (mrg s t)) (mc (mrg s t) 121) := h7.2.1.1
  have hT : TkOk (EE lws (mrg s t)) (mc (mrg s t) 121) := h7.2.1.2.1
  rw [eE, mrg_mc (by omega)] at hO hT
  have hw := g.w10
  have er : ∀ k, rd (mrg s t) 121 k = rd t 121 k := fun k => mrg_m (by omega)
  have e23 : ∀ k, rd (mrg s t) 123 k = rd t 123 k := fun k => mrg_m (by omega)
  have hme : ME (mrg s t) (EE lws (mrg s t)) := by
    obtain ⟨a1, a2, a3, a4, a5, a6⟩ := g.1.1
    obtain ⟨b1, b2, b3, b4⟩ := g.1.2.2.1
    have hT := g.2.2.1
    have hl : LwOk (EE lws (mrg s t)) := by
      intro l ops hl ho
      have ho : (if rd (mrg s t) 121 3 < 0 then none else lws (rd (mrg s t) 121 3).toNat l) = some ops := ho
      split at ho
      · cases ho
      · exact hT.2 _ l ops (by omega) hl ho
    refine ⟨?_, ?_, fun w hw => ?_, fun v hv => ?_, ⟨?_, ?_, ?_⟩, hl⟩
    · show rd (mrg s t) 121 0 = ((rd (mrg s t) 121 0).toNat : Int)
      omega
    · show rd (mrg s t) 121 1 = ((rd (mrg s t) 121 1).toNat : Int)
      omega
    · show rd (mrg s t) 121 (12 + 8 * w) = if w < 6 then rd (mrg s t) 121 (12 + 8 * w) else 0
      rw [if_pos hw]
    · show rd (mrg s t) 121 (60 + 4 * v) = if v < 6 then rd (mrg s t) 121 (60 + 4 * v) else 0
      rw [if_pos hv]
    · omega
    · intro hr l
      show (if rd (mrg s t) 121 3 < 0 then none else lws (rd (mrg s t) 121 3).toNat l) = none
      rw [if_pos (by omega)]
    · intro i hi hr
      have g := hT.1 i hi (by omega)
      refine ⟨g.2.1, fun l hl => ?_⟩
      show MxL (mrg s t) i l (if rd (mrg s t) 121 3 < 0 then none else lws (rd (mrg s t) 121 3).toNat l)
      have e3 : (rd (mrg s t) 121 3).toNat = i := by omega
      rw [if_neg (by omega), e3]
      exact (g.2.2.2 l hl).2
  rw [eE] at hme
  have hf := g.2.2.2.2.2.2.2.2.1
  have h9 := g.1.2.2.2.2.2.2.2.2.2.1
  refine ⟨h1, hO, hT, ME.of ⟨(er _).symm, (er _).symm, (er _).symm⟩ (fun _ _ => (er _).symm) (fun _ _ => (er _).symm) (fun _ => (e23 _).symm) hme, ?_, ?_, ?_⟩
  · have : rd (mrg s t) 120 24 = 1 := hf
    rw [mrg_m (by omega)] at this
    exact this
  · rw [er] at hw; omega
  · rw [er] at h9; exact h9
