/-! QUERIES of winds and villages -/
theorem F109x {σ σ' : Sg} (h : Fr F109 σ σ') : Fr XS σ σ' := h.mo (by decide)
theorem FMLm {σ σ' : Sg} (h : Fr FML σ σ') : Fr MS σ σ' := h.mo (by decide)
theorem sX_isForce {d : Nat} {Φ : Po} {σ : Sg} {f : Int32} (h1 : 1 ≤ f.toInt ∧ f.toInt ≤ 9 → Φ (some (.int 1)) σ) (h0 : ¬ (1 ≤ f.toInt ∧ f.toInt ≤ 9) → Φ (some (.int 0)) σ) : wp true (d + 1) nX_isForce [.int f] σ Φ := by
  apply wX_isForce
  simp only [pI, pL, pR, pV, i10, ↓reduceIte, eX_isForce_0, eX_isForce_15, eX_isForce_16]
  try simp only [cond, zB_1, zB_0, lg_cmp_ge, lg_cmp_le, lg_cmp_gt, lg_cmp_lt, lg_cmp_eq]
  try simp only [ne_eq, not_false_eq_true, true_and, and_true, ↓reduceIte, ile, ilt, ieq, jle, jlt, jeq, Int32.toInt_toInt64, Int32.reduceToInt, Int64.reduceToInt, Int.reduceNeg, Int.reduceEq, Int.reduceLT, Int.reduceLE, and_self, and_false, false_and]
  split
  · exact h0 (by omega)
  · split
    · exact h0 (by omega)
    · exact h1 (by omega)
theorem sX_isFar {d : Nat} {Φ : Po} {σ : Sg} {f : Int32} (h1 : 1 ≤ f.toInt ∧ f.toInt ≤ 60 → Φ (some (.int 1)) σ) (h0 : ¬ (1 ≤ f.toInt ∧ f.toInt ≤ 60) → Φ (some (.int 0)) σ) : wp true (d + 1) nX_isFar [.int f] σ Φ := by
  apply wX_isFar
  simp only [pI, pL, pR, pV, i10, ↓reduceIte, eX_isFar_0, eX_isFar_15, eX_isFar_16]
  try simp only [cond, zB_1, zB_0, lg_cmp_ge, lg_cmp_le, lg_cmp_gt, lg_cmp_lt, lg_cmp_eq]
  try simp only [ne_eq, not_false_eq_true, true_and, and_true, ↓reduceIte, ile, ilt, ieq, jle, jlt, jeq, Int32.toInt_toInt64, Int32.reduceToInt, Int64.reduceToInt, Int.reduceNeg, Int.reduceEq, Int.reduceLT, Int.reduceLE, and_self, and_false, false_and]
  split
  · exact h0 (by omega)
  · split
    · exact h0 (by omega)
    · exact h1 (by omega)
theorem R.n {lws : Lws} {σ : Sg} (h : R lws σ) : rd σ 1 4 = eN (EE lws σ) ∧ rd σ 1 6 = eV (EE lws σ) ∧ rd σ 121 0 = eN (EE lws σ) ∧ rd σ 121 1 = eV (EE lws σ) ∧ (0 ≤ rd σ 121 0 ∧ rd σ 121 0 ≤ 6) ∧ (0 ≤ rd σ 121 1 ∧ rd σ 121 1 ≤ 6) := ⟨h.ce.1, h.ce.2.1, h.me.1, h.me.2.1, h.1.1.2.2.2.2.1, h.1.1.2.2.2.2.2⟩
def qOfW (w k : Int32) (E : En) (c : Co) (_ : Nat → Int) : Int :=
  if 0 ≤ w.toInt ∧ w.toInt < eN E then
    (if k.toInt = 0 then eQ E (ix w) else if k.toInt = 1 then c (12 + ix w) else if k.toInt = 2 then c (18 + ix w) else if k.toInt = 3 then c (ix w) else if k.toInt = 4 then c (6 + ix w) else if k.toInt = 5 then c (24 + ix w) else if k.toInt = 6 then blowsF E c (ix w) else if k.toInt = 7 then bi (comesF E c (ix w)) else if k.toInt = 8 then duesF E c (ix w) else -1000)
  else -1000
theorem p_ofWind (w k : Int32) : PairI Rel nX_ofWind nM_ofWind [.int w, .int k] := by
  refine qryI (qOfW w k) (fun lws σ Φ hR h => ?_) (fun lws σ Φ hR h => ?_)
  · apply wX_ofWind
    simp only [pI, pL, pR, pV, i10, ↓reduceIte, eX_ofWind_0]
    have hO := hR.ok
    have hE := hR.ce
    have hc := hR.rc
    have hn := hO.1
    have e4 := hE.1
    unfold qOfW at h
    refine sW_isWind (fun q => ?_) (fun q => ?_)
    · rw [e4] at q
      rw [if_pos q] at h
      have hx6 : ix w < 6 := by unfold ix; omega
      have at2 : ∀ j, j < 44 → (gI σ 2 j).toInt = mc σ 121 j := fun j hj => by rw [← hc]; exact (rc_at hj).symm
      have b : ∀ n : Nat, n ≤ 30 → ∀ z : Int32, z.toInt = n → ix (z + w) = n + ix w ∧ inb (z + w) 75 := fun n hn z hz => ⟨ixk hz (by omega), inb_k hz (by omega) (by omega)⟩
      simp only [pI, pL, pR, pV, i10, ↓reduceIte, eX_ofWind_8, eX_ofWind_15]
      split
      next y =>
        simp only [pI, pL, pR, pV, i10, ↓reduceIte, eX_ofWind_68]
        exact ⟨⟨by omega, by omega⟩, h _ _ Fr.rf (by rw [if_pos y]; exact hE.2.2.1 _ hx6)⟩
      next y0 =>
      rw [if_neg y0] at h
      split
      next y =>
        simp only [pI, pL, pR, pV, i10, ↓reduceIte, eX_ofWind_78]
        rw [(b 12 (by omega) 12 rfl).1]
        exact ⟨(b 12 (by omega) 12 rfl).2, h _ _ Fr.rf (by rw [if_pos y]; exact at2 _ (by omega))⟩
      next y0 =>
      rw [if_neg y0] at h
      split
      next y =>
        simp only [pI, pL, pR, pV, i10, ↓reduceIte, eX_ofWind_91]
        rw [(b 18 (by omega) 18 rfl).1]
        exact ⟨(b 18 (by omega) 18 rfl).2, h _ _ Fr.rf (by rw [if_pos y]; exact at2 _ (by omega))⟩
      next y0 =>
      rw [if_neg y0] at h
      split
      next y =>
        simp only [pI, pL, pR, pV, i10, ↓reduceIte, eX_ofWind_104]
        rw [(b 0 (by omega) 0 rfl).1, Nat.zero_add]
        exact ⟨(b 0 (by omega) 0 rfl).2, h _ _ Fr.rf (by rw [if_pos y]; exact at2 _ (by omega))⟩
      next y0 =>
      rw [if_neg y0] at h
      split
      next y =>
        simp only [pI, pL, pR, pV, i10, ↓reduceIte, eX_ofWind_116]
        rw [(b 6 (by omega) 6 rfl).1]
        exact ⟨(b 6 (by omega) 6 rfl).2, h _ _ Fr.rf (by rw [if_pos y]; exact at2 _ (by omega))⟩
      next y0 =>
      rw [if_neg y0] at h
      split
      next y =>
        simp only [pI, pL, pR, pV, i10, ↓reduceIte, eX_ofWind_129]
        rw [(b 24 (by omega) 24 rfl).1]
        exact ⟨(b 24 (by omega) 24 rfl).2, h _ _ Fr.rf (by rw [if_pos y]; exact at2 _ (by omega))⟩
      next y0 =>
      rw [if_neg y0] at h
      split
      next y =>
        simp only [pI, pL, pR, pV, i10, ↓reduceIte, eX_ofWind_142]
        refine sL_blowsOf hO hE hc q (fun σ' r hF hr => ?_)
        simp only [pI, pL, pR, pV, i10, ↓reduceIte, eX_ofWind_150]
        exact h _ _ (F109x hF) (by rw [if_pos y]; exact hr)
      next y0 =>
      rw [if_neg y0] at h
      split
      next y =>
        simp only [pI, pL, pR, pV, i10, ↓reduceIte, eX_ofWind_151]
        refine sL_comesOf hO hE hc q (fun σ' r hF hr => ?_)
        rw [if_pos y] at h
        simp only [pI, pL, pR, pV, i10, ↓reduceIte, eX_ofWind_159, eX_ofWind_166, eX_ofWind_167]
        have c0 : (r = 0) = (r.toInt = 0) := by rw [ieq]; rfl
        simp only [c0]
        rcases bi_r (comesF (EE lws σ) (mc σ 121) (ix w)) with g | g
        · rw [if_pos (by rw [hr, g])]
          exact h _ _ (F109x hF) (by rw [g]; rfl)
        · rw [if_neg (by rw [hr, g]; decide)]
          exact h _ _ (F109x hF) (by rw [g]; rfl)
      next y0 =>
      rw [if_neg y0] at h
      split
      next y =>
        simp only [pI, pL, pR, pV, i10, ↓reduceIte, eX_ofWind_168]
        refine sL_duesOf hO hE hc q (fun σ' r hF hr => ?_)
        simp only [pI, pL, pR, pV, i10, ↓reduceIte, eX_ofWind_176]
        exact h _ _ (F109x hF) (by rw [if_pos y]; exact hr)
      next y =>
        simp only [pI, pL, pR, pV, i10, ↓reduceIte, eX_ofWind_177]
        exact h _ _ Fr.rf (by rw [if_neg y]; rfl)
    · rw [e4] at q
      simp only [pI, pL, pR, pV, i10, ↓reduceIte, eX_ofWind_8]
      exact h _ _ Fr.rf (by rw [if_neg q]; rfl)
  · apply wM_ofWind
    simp only [pI, pL, pR, pV, i10, ↓reduceIte, eM_ofWind_0]
    have hO := hR.ok
    have hE := hR.me
    have hn := hO.1
    obtain ⟨-, -, e0, -, b0, -⟩ := hR.n
    unfold qOfW at h
    refine sM_isWind b0 (fun q => ?_) (fun q => ?_)
    · rw [e0] at q
      rw [if_pos q] at h
      have hw6 : 0 ≤ w.toInt ∧ w.toInt < 6 := by omega
      have hx6 := ix6 hw6
      simp only [pI, pL, pR, pV, i10, ↓reduceIte, eM_ofWind_5]
      refine sM_isIn (fun g => ?_) (fun g => ?_)
      · simp only [pI, pL, pR, pV, i10, ↓reduceIte, eM_ofWind_15, eM_ofWind_22]
        rw [tl0, show (8 : Int32).toInt = 8 from rfl] at g
        simp only [ile, show (6 : Int32).toInt = 6 from rfl]
        split
        next y =>
          simp only [pI, pL, pR, pV, i10, ↓reduceIte, eM_ofWind_35]
          rw [if_neg (by omega), if_neg (by omega), if_neg (by omega), if_neg (by omega), if_neg (by omega), if_neg (by omega)] at h
          have c6 : (k = 6) = (k.toInt = 6) := by rw [ieq]; rfl
          have c7 : (k = 7) = (k.toInt = 7) := by rw [ieq]; rfl
          simp only [c6]
          split
          next z =>
            refine sM_blowsNow hO hE rfl q (fun σ' r hF hr => ?_)
            simp only [pI, pL, pR, pV, i10, ↓reduceIte, eM_ofWind_46, eM_ofWind_76]
            exact h _ _ (FMLm hF) (by rw [if_pos z]; exact hr)
          next z =>
            rw [if_neg z] at h
            simp only [pI, pL, pR, pV, i10, ↓reduceIte, eM_ofWind_49]
            simp only [c7]
            split
            next x =>
              rw [if_pos x] at h
              refine sM_isComing hO hE rfl q (fun σ' r hF hr => ?_)
              simp only [pI, pL, pR, pV, i10, ↓reduceIte, eM_ofWind_60, eM_ofWind_67, eM_ofWind_76]
              have c0 : (r = 0) = (r.toInt = 0) := by rw [ieq]; rfl
              simp only [c0]
              rcases bi_r (comesF (EE lws σ) (mc σ 121) (ix w)) with g | g
              · rw [if_pos (by rw [hr, g])]
                exact h _ _ (FMLm hF) (by rw [g]; rfl)
              · rw [if_neg (by rw [hr, g]; decide)]
                exact h _ _ (FMLm hF) (by rw [g]; rfl)
            next x =>
              simp only [pI, pL, pR, pV, i10, ↓reduceIte, eM_ofWind_71]
              refine sM_duesOf hO hE rfl q (fun σ' r hF hr => ?_)
              simp only [pI, pL, pR, pV, i10, ↓reduceIte, eM_ofWind_76]
              exact h _ _ (FMLm hF) (by rw [if_neg x, if_pos (by omega)]; exact hr)
        next y =>
          refine sM_get (12 + 8 * ix w + ix k) (j := ix k) (ix_to g.1).symm rfl hw6 (by unfold ix; omega) (fun v hv => ?_)
          simp only [pI, pL, pR, pV, i10, ↓reduceIte, eM_ofWind_34]
          refine h _ _ Fr.rf ?_
          have hk := ix_to g.1
          have j6 : k.toInt = 0 ∨ k.toInt = 1 ∨ k.toInt = 2 ∨ k.toInt = 3 ∨ k.toInt = 4 ∨ k.toInt = 5 := by omega
          rw [hv]
          rcases j6 with z | z | z | z | z | z <;> rw [z] <;> simp only [Int.reduceEq, ↓reduceIte]
          · rw [show ix k = 0 from ix_of z]
            exact hE.2.2.1 _ hx6
          · rw [show ix k = 1 from ix_of z, mc_at (by omega), mix_w hx6]
            congr 1
            omega
          · rw [show ix k = 2 from ix_of z, mc_at (by omega), mix_d hx6]
            congr 1
            omega
          · rw [show ix k = 3 from ix_of z, mc_at (by omega), mix_o hx6]
            congr 1
            omega
          · rw [show ix k = 4 from ix_of z, mc_at (by omega), mix_f hx6]
            congr 1
            omega
          · rw [show ix k = 5 from ix_of z, mc_at (by omega), mix_g hx6]
            congr 1
            omega
      · simp only [pI, pL, pR, pV, i10, ↓reduceIte, eM_ofWind_15, eM_ofWind_18]
        rw [tl0, show (8 : Int32).toInt = 8 from rfl] at g
        exact h _ _ Fr.rf (by rw [if_neg (by omega), if_neg (by omega), if_neg (by omega), if_neg (by omega), if_neg (by omega), if_neg (by omega), if_neg (by omega), if_neg (by omega), if_neg (by omega)]; rfl)
    · rw [e0] at q
      simp only [pI, pL, pR, pV, i10, ↓reduceIte, eM_ofWind_5, eM_ofWind_18]
      exact h _ _ Fr.rf (by rw [if_neg q]; rfl)
def qOfV (w k : Int32) (E : En) (c : Co) (_ : Nat → Int) : Int :=
  if 0 ≤ w.toInt ∧ w.toInt < eV E then
    (if k.toInt = 0 then eR E (ix w) else if k.toInt = 1 then c (30 + ix w) else if k.toInt = 2 then c (36 + ix w) else if k.toInt = 3 then catchF E c (-1) (ix w) 0 else -1)
  else -1
theorem p_ofVillage (w k : Int32) : PairI Rel nX_ofVillage nM_ofVillage [.int w, .int k] := by
  refine qryI (qOfV w k) (fun lws σ Φ hR h => ?_) (fun lws σ Φ hR h => ?_)
  · apply wX_ofVillage
    simp only [pI, pL, pR, pV, i10, ↓reduceIte, eX_ofVillage_0]
    have hO := hR.ok
    have hE := hR.ce
    have hc := hR.rc
    have hn := hO.2.1
    have e4 := hE.2.1
    unfold qOfV at h
    refine sW_isVillage (fun q => ?_) (fun q => ?_)
    · rw [e4] at q
      rw [if_pos q] at h
      have hx6 : ix w < 6 := by unfold ix; omega
      have at2 : ∀ j, j < 44 → (gI σ 2 j).toInt = mc σ 121 j := fun j hj => by rw [← hc]; exact (rc_at hj).symm
      have b : ∀ n : Nat, n ≤ 36 → ∀ z : Int32, z.toInt = n → ix (z + w) = n + ix w ∧ inb (z + w) 75 := fun n hn z hz => ⟨ixk hz (by omega), inb_k hz (by omega) (by omega)⟩
      simp only [pI, pL, pR, pV, i10, ↓reduceIte, eX_ofVillage_8, eX_ofVillage_13]
      split
      next y =>
        simp only [pI, pL, pR, pV, i10, ↓reduceIte, eX_ofVillage_44]
        exact ⟨⟨by omega, by omega⟩, h _ _ Fr.rf (by rw [if_pos y]; exact hE.2.2.2.1 _ hx6)⟩
      next y0 =>
      rw [if_neg y0] at h
      split
      next y =>
        simp only [pI, pL, pR, pV, i10, ↓reduceIte, eX_ofVillage_54]
        rw [(b 30 (by omega) 30 rfl).1]
        exact ⟨(b 30 (by omega) 30 rfl).2, h _ _ Fr.rf (by rw [if_pos y]; exact at2 _ (by omega))⟩
      next y0 =>
      rw [if_neg y0] at h
      split
      next y =>
        simp only [pI, pL, pR, pV, i10, ↓reduceIte, eX_ofVillage_67]
        rw [(b 36 (by omega) 36 rfl).1]
        exact ⟨(b 36 (by omega) 36 rfl).2, h _ _ Fr.rf (by rw [if_pos y]; exact at2 _ (by omega))⟩
      next y0 =>
      rw [if_neg y0] at h
      split
      next y =>
        simp only [pI, pL, pR, pV, i10, ↓reduceIte, eX_ofVillage_80]
        refine sL_catchOf hO hE hc (Or.inl rfl) q (by decide) (fun σ' r hF hr => ?_)
        simp only [pI, pL, pR, pV, i10, ↓reduceIte, eX_ofVillage_90]
        exact h _ _ (F109x hF) (by rw [if_pos y]; exact hr)
      next y =>
        simp only [pI, pL, pR, pV, i10, ↓reduceIte, eX_ofVillage_91]
        exact h _ _ Fr.rf (by rw [if_neg y]; rfl)
    · rw [e4] at q
      simp only [pI, pL, pR, pV, i10, ↓reduceIte, eX_ofVillage_8]
      exact h _ _ Fr.rf (by rw [if_neg q]; rfl)
  · apply wM_ofVillage
    simp only [pI, pL, pR, pV, i10, ↓reduceIte, eM_ofVillage_0]
    have hO := hR.ok
    have hE := hR.me
    have hn := hO.2.1
    obtain ⟨-, -, -, e0, -, b0⟩ := hR.n
    unfold qOfV at h
    refine sM_isVillage b0 (fun q => ?_) (fun q => ?_)
    · rw [e0] at q
      rw [if_pos q] at h
      have hw6 : 0 ≤ w.toInt ∧ w.toInt < 6 := by omega
      have hx6 := ix6 hw6
      simp only [pI, pL, pR, pV, i10, ↓reduceIte, eM_ofVillage_5]
      refine sM_isIn (fun g => ?_) (fun g => ?_)
      · simp only [pI, pL, pR, pV, i10, ↓reduceIte, eM_ofVillage_14, eM_ofVillage_19]
        rw [tl0, show (3 : Int32).toInt = 3 from rfl] at g
        simp only [ile, show (3 : Int32).toInt = 3 from rfl]
        split
        next y =>
          simp only [pI, pL, pR, pV, i10, ↓reduceIte, eM_ofVillage_33]
          refine sM_catchOf hO hE rfl (Or.inl rfl) (fun _ => rfl) q (by decide) (fun σ' r hF hr => ?_)
          simp only [pI, pL, pR, pV, i10, ↓reduceIte, eM_ofVillage_40]
          exact h _ _ (FMLm hF) (by rw [if_neg (by omega), if_neg (by omega), if_neg (by omega), if_pos (by omega)]; exact hr)
        next y =>
          refine sM_of (60 + 4 * ix w + ix k) (j := ix k) (ix_to g.1).symm rfl hw6 (by unfold ix; omega) (fun v hv => ?_)
          simp only [pI, pL, pR, pV, i10, ↓reduceIte, eM_ofVillage_30, eM_ofVillage_40]
          refine h _ _ Fr.rf ?_
          have j6 : k.toInt = 0 ∨ k.toInt = 1 ∨ k.toInt = 2 := by omega
          rw [hv]
          rcases j6 with z | z | z <;> rw [z] <;> simp only [Int.reduceEq, ↓reduceIte]
          · rw [show ix k = 0 from ix_of z]
            exact hE.2.2.2.1 _ hx6
          · rw [show ix k = 1 from ix_of z, mc_at (by omega), mix_p hx6]
            congr 1
            omega
          · rw [show ix k = 2 from ix_of z, mc_at (by omega), mix_t hx6]
            congr 1
            omega
      · simp only [pI, pL, pR, pV, i10, ↓reduceIte, eM_ofVillage_14, eM_ofVillage_17]
        rw [tl0, show (3 : Int32).toInt = 3 from rfl] at g
        exact h _ _ Fr.rf (by rw [if_neg (by omega), if_neg (by omega), if_neg (by omega), if_neg (by omega)]; rfl)
    · rw [e0] at q
      simp only [pI, pL, pR, pV, i10, ↓reduceIte, eM_ofVillage_5, eM_ofVillage_17]
      exact h _ _ Fr.rf (by rw [if_neg q]; rfl)
def qTakes (w v f : Int32) (E : En) (c : Co) (_ : Nat → Int) : Int := if (0 ≤ w.toInt ∧ w.toInt < eN E) ∧ (0 ≤ v.toInt ∧ v.toInt < eV E) ∧ (1 ≤ f.toInt ∧ f.toInt ≤ 9) then takesF E c (ix w) (ix v) f.toInt else -1
theorem p_takes (w v f : Int32) : PairI Rel nX_takes nM_takes [.int w, .int v, .int f] := by
  refine qryI (qTakes w v f) (fun lws σ Φ hR h => ?_) (fun lws σ Φ hR h => ?_)
  · apply wX_takes
    simp only [pI, pL, pR, pV, i10, ↓reduceIte, eX_takes_0]
    have hO := hR.ok
    have hE := hR.ce
    have hc := hR.rc
    unfold qTakes at h
    have no : ¬ ((0 ≤ w.toInt ∧ w.toInt < eN (EE lws σ)) ∧ (0 ≤ v.toInt ∧ v.toInt < eV (EE lws σ)) ∧ (1 ≤ f.toInt ∧ f.toInt ≤ 9)) → Φ (some (.int (-1))) σ := fun q => h _ _ Fr.rf (by rw [if_neg q]; rfl)
    refine sW_isWind (fun q => ?_) (fun q => ?_)
    · rw [hE.1] at q
      simp only [pI, pL, pR, pV, i10, ↓reduceIte, eX_takes_8]
      refine sW_isVillage (fun q2 => ?_) (fun q2 => ?_)
      · rw [hE.2.1] at q2
        simp only [pI, pL, pR, pV, i10, ↓reduceIte, eX_takes_19]
        refine sX_isForce (fun q3 => ?_) (fun q3 => ?_)
        · simp only [pI, pL, pR, pV, i10, ↓reduceIte, eX_takes_26, eX_takes_34]
          refine sL_takesOf hO hE hc q q2 (by omega) (fun σ' r hF hr => ?_)
          simp only [pI, pL, pR, pV, i10, ↓reduceIte, eX_takes_51, eX_takes_55]
          exact h _ _ (F109x hF) (by rw [if_pos ⟨q, q2, q3⟩, hr])
        · simp only [pI, pL, pR, pV, i10, ↓reduceIte, eX_takes_26, eX_takes_33, eX_takes_34, eX_takes_54, eX_takes_55]
          exact no (fun z => q3 z.2.2)
      · rw [hE.2.1] at q2
        simp only [pI, pL, pR, pV, i10, ↓reduceIte, eX_takes_19, eX_takes_33, eX_takes_34, eX_takes_54, eX_takes_55]
        exact no (fun z => q2 z.2.1)
    · rw [hE.1] at q
      simp only [pI, pL, pR, pV, i10, ↓reduceIte, eX_takes_8, eX_takes_33, eX_takes_34, eX_takes_54, eX_takes_55]
      exact no (fun z => q z.1)
  · apply wM_takes
    simp only [pI, pL, pR, pV, i10, ↓reduceIte, eM_takes_0]
    have hO := hR.ok
    have hE := hR.me
    obtain ⟨-, -, e0, e1, b0, b1⟩ := hR.n
    unfold qTakes at h
    have no : ¬ ((0 ≤ w.toInt ∧ w.toInt < eN (EE lws σ)) ∧ (0 ≤ v.toInt ∧ v.toInt < eV (EE lws σ)) ∧ (1 ≤ f.toInt ∧ f.toInt ≤ 9)) → Φ (some (.int (-1))) σ := fun q => h _ _ Fr.rf (by rw [if_neg q]; rfl)
    refine sM_isWind b0 (fun q => ?_) (fun q => ?_)
    · rw [e0] at q
      simp only [pI, pL, pR, pV, i10, ↓reduceIte, eM_takes_5]
      refine sM_isVillage b1 (fun q2 => ?_) (fun q2 => ?_)
      · rw [e1] at q2
        simp only [pI, pL, pR, pV, i10, ↓reduceIte, eM_takes_13]
        refine sM_isIn (fun q3 => ?_) (fun q3 => ?_)
        · rw [tl1, show (9 : Int32).toInt = 9 from rfl] at q3
          simp only [pI, pL, pR, pV, i10, ↓reduceIte, eM_takes_23]
          refine sM_takesOf hO hE rfl q q2 (by omega) (fun σ' r hF hr => ?_)
          simp only [pI, pL, pR, pV, i10, ↓reduceIte, eM_takes_33, eM_takes_37]
          exact h _ _ (FMLm hF) (by rw [if_pos ⟨q, q2, q3⟩, hr])
        · rw [tl1, show (9 : Int32).toInt = 9 from rfl] at q3
          simp only [pI, pL, pR, pV, i10, ↓reduceIte, eM_takes_23, eM_takes_36, eM_takes_37]
          exact no (fun z => q3 z.2.2)
      · rw [e1] at q2
        simp only [pI, pL, pR, pV, i10, ↓reduceIte, eM_takes_13, eM_takes_36, eM_takes_37]
        exact no (fun z => q2 z.2.1)
    · rw [e0] at q
      simp only [pI, pL, pR, pV, i10, ↓reduceIte, eM_takes_5, eM_takes_36, eM_takes_37]
      exact no (fun z => q z.1)
def qCatches (w v f : Int32) (E : En) (c : Co) (_ : Nat → Int) : Int := if (0 ≤ w.toInt ∧ w.toInt < eN E) ∧ (0 ≤ v.toInt ∧ v.toInt < eV E) ∧ (1 ≤ f.toInt ∧ f.toInt ≤ 9) then catchF E c w.toInt (ix v) f.toInt else -1
theorem p_catches (w v f : Int32) : PairI Rel nX_catches nM_catches [.int w, .int v, .int f] := by
  refine qryI (qCatches w v f) (fun lws σ Φ hR h => ?_) (fun lws σ Φ hR h => ?_)
  · apply wX_catches
    simp only [pI, pL, pR, pV, i10, ↓reduceIte, eX_catches_0]
    have hO := hR.ok
    have hE := hR.ce
    have hc := hR.rc
    unfold qCatches at h
    have no : ¬ ((0 ≤ w.toInt ∧ w.toInt < eN (EE lws σ)) ∧ (0 ≤ v.toInt ∧ v.toInt < eV (EE lws σ)) ∧ (1 ≤ f.toInt ∧ f.toInt ≤ 9)) → Φ (some (.int (-1))) σ := fun q => h _ _ Fr.rf (by rw [if_neg q]; rfl)
    refine sW_isWind (fun q => ?_) (fun q => ?_)
    · rw [hE.1] at q
      simp only [pI, pL, pR, pV, i10, ↓reduceIte, eX_catches_8]
      refine sW_isVillage (fun q2 => ?_) (fun q2 => ?_)
      · rw [hE.2.1] at q2
        simp only [pI, pL, pR, pV, i10, ↓reduceIte, eX_catches_19]
        refine sX_isForce (fun q3 => ?_) (fun q3 => ?_)
        · simp only [pI, pL, pR, pV, i10, ↓reduceIte, eX_catches_26, eX_catches_34]
          refine sL_catchOf hO hE hc (Or.inr q) q2 (by omega) (fun σ' r hF hr => ?_)
          simp only [pI, pL, pR, pV, i10, ↓reduceIte, eX_catches_51, eX_catches_55]
          exact h _ _ (F109x hF) (by rw [if_pos ⟨q, q2, q3⟩, hr])
        · simp only [pI, pL, pR, pV, i10, ↓reduceIte, eX_catches_26, eX_catches_33, eX_catches_34, eX_catches_54, eX_catches_55]
          exact no (fun z => q3 z.2.2)
      · rw [hE.2.1] at q2
        simp only [pI, pL, pR, pV, i10, ↓reduceIte, eX_catches_19, eX_catches_33, eX_catches_34, eX_catches_54, eX_catches_55]
        exact no (fun z => q2 z.2.1)
    · rw [hE.1] at q
      simp only [pI, pL, pR, pV, i10, ↓reduceIte, eX_catches_8, eX_catches_33, eX_catches_34, eX_catches_54, eX_catches_55]
      exact no (fun z => q z.1)
  · apply wM_catches
    simp only [pI, pL, pR, pV, i10, ↓reduceIte, eM_catches_0]
    have hO := hR.ok
    have hE := hR.me
    obtain ⟨-, -, e0, e1, b0, b1⟩ := hR.n
    unfold qCatches at h
    have no : ¬ ((0 ≤ w.toInt ∧ w.toInt < eN (EE lws σ)) ∧ (0 ≤ v.toInt ∧ v.toInt < eV (EE lws σ)) ∧ (1 ≤ f.toInt ∧ f.toInt ≤ 9)) → Φ (some (.int (-1))) σ := fun q => h _ _ Fr.rf (by rw [if_neg q]; rfl)
    refine sM_isWind b0 (fun q => ?_) (fun q => ?_)
    · rw [e0] at q
      simp only [pI, pL, pR, pV, i10, ↓reduceIte, eM_catches_5]
      refine sM_isVillage b1 (fun q2 => ?_) (fun q2 => ?_)
      · rw [e1] at q2
        simp only [pI, pL, pR, pV, i10, ↓reduceIte, eM_catches_13]
        refine sM_isIn (fun q3 => ?_) (fun q3 => ?_)
        · rw [tl1, show (9 : Int32).toInt = 9 from rfl] at q3
          simp only [pI, pL, pR, pV, i10, ↓reduceIte, eM_catches_23]
          refine sM_catchOf hO hE rfl (Or.inr q) (by omega) q2 (by omega) (fun σ' r hF hr => ?_)
          simp only [pI, pL, pR, pV, i10, ↓reduceIte, eM_catches_33, eM_catches_37]
          exact h _ _ (FMLm hF) (by rw [if_pos ⟨q, q2, q3⟩, hr])
        · rw [tl1, show (9 : Int32).toInt = 9 from rfl] at q3
          simp only [pI, pL, pR, pV, i10, ↓reduceIte, eM_catches_23, eM_catches_36, eM_catches_37]
          exact no (fun z => q3 z.2.2)
      · rw [e1] at q2
        simp only [pI, pL, pR, pV, i10, ↓reduceIte, eM_catches_13, eM_catches_36, eM_catches_37]
        exact no (fun z => q2 z.2.1)
    · rw [e0] at q
      simp only [pI, pL, pR, pV, i10, ↓reduceIte, eM_catches_5, eM_catches_36, eM_catches_37]
      exact no (fun z => q z.1)
