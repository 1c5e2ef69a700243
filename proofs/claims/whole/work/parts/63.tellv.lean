/-! A VILLAGE IS TOLD -/
def setV (c : Co) (v : Nat) (p : Int) : Co := fun k => if k = 30 + v then p else if k = 36 + v then 0 else c k
theorem setV_up {c : Co} {v : Nat} {p : Int} (hv : v < 6) : upc (upc c (30 + v) p) (36 + v) 0 = setV c v p := by
  funext k
  unfold setV
  by_cases a1 : k = 36 + v
  · rw [a1, upc_eq, if_neg (by omega)]
    try rw [if_pos rfl]
  rw [upc_ne a1, if_neg a1]
  by_cases a2 : k = 30 + v
  · rw [a2, upc_eq]
    try rw [if_pos rfl]
  rw [upc_ne a2, if_neg a2]
theorem setV_p {c : Co} {v : Nat} {p : Int} : setV c v p (30 + v) = p := if_pos rfl
theorem setV_t {c : Co} {v : Nat} {p : Int} : setV c v p (36 + v) = 0 := by
  unfold setV
  rw [if_neg (by omega)]
  try rw [if_pos rfl]
theorem setV_ne {c : Co} {v k : Nat} {p : Int} (h : k ≠ 30 + v ∧ k ≠ 36 + v) : setV c v p k = c k := by
  unfold setV
  rw [if_neg h.1, if_neg h.2]
theorem sW_setVillage {d : Nat} {Φ : Po} {σ : Sg} {r0 : Nat} {w a : Int32} (hs : shp r0 = (2, 75)) (hw : 0 ≤ w.toInt ∧ w.toInt < 6) (h : ∀ σ' : Sg, Fr [(r0, 0, 44)] σ σ' → rc σ' r0 = setV (rc σ r0) (ix w) a.toInt → Φ none σ') : wp true (d + 1) nW_setVillage [.ref r0, .int w, .int a] σ Φ := by
  have hw6 := ix6 hw
  have a1 : ix (30 + w) = 30 + ix w := ixk (n := 30) rfl (by omega)
  have a2 : ix (36 + w) = 36 + ix w := ixk (n := 36) rfl (by omega)
  have i1 : inb (30 + w) 75 := inb_k (n := 30) rfl (by omega) (by omega)
  have i2 : inb (36 + w) 75 := inb_k (n := 36) rfl (by omega) (by omega)
  have z : (0 : Int32).toInt = 0 := rfl
  have inn : ∀ k, k < 44 → inS [(r0, 0, 44)] r0 k = true := fun k hk => inS_r (lo := 0) (hi := 44) (by simp) ⟨Nat.zero_le _, hk⟩
  apply wW_setVillage
  rw [eW_setVillage_0]
  simp only [o_iast, hs, cond, lvx, Bool.true_or]
  refine ⟨i1, ?_⟩
  rw [eW_setVillage_7]
  simp only [o_iast, hs, cond, lvx, Bool.true_or]
  refine ⟨i2, ?_⟩
  rw [eW_setVillage_14, a1, a2]
  refine h _ ((Fr.sI (inn _ (by omega))).tr (Fr.sI (inn _ (by omega)))) ?_
  rw [rc_sI (by omega), rc_sI (by omega), z, setV_up hw6]
abbrev FVc : Ls := FK4 ++ [(2, 0, 44), (35, 0, 6), (1, 6, 7)]
def TlvC (σ σ' : Sg) (n : Nat) (x1 x2 : Int) : Prop := Ei FVc σ σ' ∧ rd σ' 1 6 = n + 1 ∧ rd σ' 35 n = x1 ∧ (∀ w, w ≠ n → rd σ' 35 w = rd σ 35 w) ∧ rc σ' 2 = setV (rc σ 2) n x2 ∧ (∀ r, r < 30 → rc σ' (4 + r) = setV (rc σ (4 + r)) n x2)
theorem lW_tellv {d : Nat} {Φ : Po} {σ0 : Sg} {n : Nat} {x1 x2 : Int32} (hn : n < 6) (h : ∀ (σ : Sg) (x : Int32), Fr FVc σ0 σ → rd σ 1 6 = n → (∀ w, rd σ 35 w = rd σ0 35 w) → rc σ 2 = rc σ0 2 → (∀ r, r < 30 → rc σ (4 + r) = setV (rc σ0 (4 + r)) n x2.toInt) → bW_tellVillage_82 true NOB (wp true (d + 1)) Φ (kW_tellVillage (d + 1) Φ) [.ref 1, .int x1, .int x2, .int x] [] σ) :
    ∀ (m i : Nat) (σ : Sg) (x : Int32), i + m = 30 → x.toInt = i → Fr FVc σ0 σ → rd σ 1 6 = n → (∀ w, rd σ 35 w = rd σ0 35 w) → rc σ 2 = rc σ0 2 → (∀ r, r < 30 → rc σ (4 + r) = if r < i then setV (rc σ0 (4 + r)) n x2.toInt else rc σ0 (4 + r)) → bW_tellVillage_56 true NOB (wp true (d + 1)) Φ (kW_tellVillage (d + 1) Φ) [.ref 1, .int x1, .int x2, .int x] [] σ := by
  intro m
  induction m with
  | zero =>
    intro i σ x hi hx hF h1 h2 h3 h4
    simp only [pI, pL, pR, pV, i10, ↓reduceIte, eW_tellVillage_56]
    simp only [ile, show (30 : Int32).toInt = 30 from rfl, hx]
    rw [if_pos (by omega)]
    exact h σ x hF h1 h2 h3 (fun r hr => by rw [h4 r hr, if_pos (by omega)])
  | succ m ih =>
    intro i σ x hi hx hF h1 h2 h3 h4
    simp only [pI, pL, pR, pV, i10, ↓reduceIte, eW_tellVillage_56]
    have hi30 : i < 30 := by omega
    have xi : ix x = i := ix_of hx
    have e1 : (gI σ 1 6).toInt = n := h1
    have en : ix (gI σ 1 6) = n := ix_of e1
    simp only [ile, show (30 : Int32).toInt = 30 from rfl, hx]
    rw [if_neg (by omega)]
    refine ⟨⟨by omega, by omega⟩, ?_⟩
    rw [xi, rfx3 hi30]
    refine sW_setVillage (kept_sh i hi30).1 (by omega) (fun σ' hF' hc => ?_)
    simp only [pI, pL, pR, pV, i10, ↓reduceIte, eW_tellVillage_76]
    rw [en] at hc
    have hne : ∀ a k, a ≠ 4 + i → inS [(4 + i, 0, 44)] a k = false := fun a k ha => not_inS (fun e he z => by
      rw [List.mem_singleton] at he
      subst he
      exact ha z.1.symm)
    refine hW_tellVillage_56 _ _ _ _ _ (ih (i + 1) σ' (x + 1) (by omega) (by rw [t1 (by omega), hx]; omega) (hF.tr (hF'.mo (fun e he => by
      rw [List.mem_singleton] at he
      subst he
      exact List.mem_append_left _ (List.mem_map.mpr ⟨i, List.mem_range.mpr hi30, rfl⟩)))) ?_ (fun w => ?_) ?_ (fun r hr => ?_))
    · rw [hF'.rd (hne _ _ (by omega))]; exact h1
    · rw [hF'.rd (hne _ _ (by omega))]; exact h2 w
    · rw [Fr_rc hF' (fun k _ => hne _ _ (by omega))]; exact h3
    · by_cases q : r = i
      · subst q
        rw [hc, h4 r hr, if_neg (by omega), if_pos (by omega)]
      · rw [Fr_rc hF' (fun k _ => hne _ _ (by omega)), h4 r hr]
        by_cases y : r < i
        · rw [if_pos y, if_pos (by omega)]
        · rw [if_neg y, if_neg (by omega)]
def CanV (n : Int) (x1 x2 : Int32) : Prop := n < 6 ∧ (0 ≤ x1.toInt ∧ x1.toInt ≤ 9) ∧ (0 ≤ x2.toInt ∧ x2.toInt ≤ 9999)
theorem sW_tellVillage {d : Nat} {Φ : Po} {σ : Sg} {x1 x2 : Int32} (hn : 0 ≤ rd σ 1 6 ∧ rd σ 1 6 ≤ 6) (h0 : ¬ CanV (rd σ 1 6) x1 x2 → Φ (some (.int (-1))) σ) (h : CanV (rd σ 1 6) x1 x2 → ∀ (σ' : Sg) (v : Int32), v.toInt = rd σ 1 6 → Fr FVc σ σ' → TlvC σ σ' (rd σ 1 6).toNat x1.toInt x2.toInt → Φ (some (.int v)) σ') : wp true (d + 2) nW_tellVillage [.ref 1, .int x1, .int x2] σ Φ := by
  have e4 : (gI σ 1 6).toInt = rd σ 1 6 := rfl
  apply wW_tellVillage
  simp only [pI, pL, pR, pV, i10, ↓reduceIte, eW_tellVillage_0]
  have no : ¬ CanV (rd σ 1 6) x1 x2 → bW_tellVillage_30 true NOB (wp true (d + 1)) Φ (kW_tellVillage (d + 1) Φ) [.ref 1, .int x1, .int x2, .retAddr 0] [] σ := fun q => by
    simp only [pI, pL, pR, pV, i10, ↓reduceIte, eW_tellVillage_30]
    exact h0 q
  simp only [ilt, ile, ieq, e4, show (6 : Int32).toInt = 6 from rfl, show (0 : Int32).toInt = 0 from rfl, show (9 : Int32).toInt = 9 from rfl, show (9999 : Int32).toInt = 9999 from rfl]
  split
  next => exact no (by unfold CanV; omega)
  split
  next => exact no (by unfold CanV; omega)
  split
  next => exact no (by unfold CanV; omega)
  split
  next => exact no (by unfold CanV; omega)
  split
  next q1 q2 q3 q4 q5 =>
    have can : CanV (rd σ 1 6) x1 x2 := by unfold CanV; omega
    simp only [pI, pL, pR, pV, i10, ↓reduceIte, eW_tellVillage_32]
    generalize hN : (rd σ 1 6).toNat = n at *
    have hn6 : n < 6 := by omega
    have xn : ix (gI σ 1 6) = n := ix_of (by omega)
    rw [xn]
    have g4 : gI (sI σ 35 n x1) 1 6 = gI σ 1 6 := eqv (rdne (by omega))
    rw [g4]
    refine ⟨⟨by omega, by omega⟩, ?_⟩
    refine sW_setVillage rfl (by omega) (fun s1 f1 c1 => ?_)
    rw [xn] at c1
    simp only [pI, pL, pR, pV, i10, ↓reduceIte, eW_tellVillage_54]
    have hne : ∀ a k, a ≠ 2 → inS [(2, 0, 44)] a k = false := fun a k ha => not_inS (fun e he z => by
      rw [List.mem_singleton] at he
      subst he
      exact ha z.1.symm)
    have F0 : Fr FVc σ s1 := (Fr.sI (inS_r (lo := 0) (hi := 6) (by simp) (by omega))).tr (f1.mo (fun e he => by
      rw [List.mem_singleton] at he
      subst he
      exact List.mem_append_right _ (by simp)))
    have w1 : rd s1 1 6 = n := by rw [f1.rd (hne _ _ (by omega)), rdne (by omega)]; omega
    refine lW_tellv hn6 (fun σ' x hF' h1 h2 h3 h4 => ?_) 30 0 s1 0 (by omega) rfl (Fr.rf (S := FVc)) w1 (fun _ => rfl) rfl (fun r _ => by rw [if_neg (by omega)])
    simp only [pI, pL, pR, pV, i10, ↓reduceIte, eW_tellVillage_82]
    have e1 : (gI σ' 1 6).toInt = n := h1
    have es : (gI σ' 1 6 + 1).toInt = n + 1 := by rw [t1 (by omega), e1]
    have gg : gI (sI σ' 1 6 (gI σ' 1 6 + 1)) 1 6 = gI σ' 1 6 + 1 := eqv rdeq
    rw [gg]
    have far : ∀ a k, a ≠ 1 → rd (sI σ' 1 6 (gI σ' 1 6 + 1)) a k = rd σ' a k := fun a k ha => rdne ha
    have farc : ∀ a, a ≠ 1 → rc (sI σ' 1 6 (gI σ' 1 6 + 1)) a = rc σ' a := fun a ha => rc_ne ha
    have FF := (F0.tr hF').tr (Fr.sI (a := 1) (k := 6) (v := gI σ' 1 6 + 1) (inS_r (S := FVc) (lo := 6) (hi := 7) (by simp) (by omega)))
    refine h can _ _ ?_ FF ⟨FF.ei, ?_, ?_, fun w hw => ?_, ?_, fun r hr => ?_⟩
    · rw [s1t es]; omega
    · rw [rdeq, es]
    · rw [far _ _ (by omega), h2, f1.rd (hne _ _ (by omega)), rdeq]
    · rw [far _ _ (by omega), h2, f1.rd (hne _ _ (by omega)), rdne2 hw]
    · rw [farc _ (by omega), h3, c1, rc_ne (by omega)]
    · rw [farc _ (by omega), h4 r hr, Fr_rc f1 (fun k _ => hne _ _ (by omega)), rc_ne (by omega)]
  next => exact no (by unfold CanV; omega)
/-- the reference -/
abbrev FVm : Ls := [(121, 1, 2), (121, 60, 84)]
def TlvM (σ σ' : Sg) (n : Nat) (x1 x2 : Int) : Prop := Ei FVm σ σ' ∧ rd σ' 121 1 = n + 1 ∧ rd σ' 121 (60 + 4 * n) = x1 ∧ rd σ' 121 (63 + 4 * n) = x2 ∧ (∀ w k, w < 6 → w ≠ n → k < 4 → rd σ' 121 (60 + 4 * w + k) = rd σ 121 (60 + 4 * w + k)) ∧ mc σ' 121 = setV (mc σ 121) n x2
theorem sM_village {d : Nat} {Φ : Po} {σ : Sg} {x1 x2 : Int32} (hn : 0 ≤ rd σ 121 1 ∧ rd σ 121 1 ≤ 6) (h0 : ¬ CanV (rd σ 121 1) x1 x2 → Φ (some (.int (-1))) σ) (h : CanV (rd σ 121 1) x1 x2 → ∀ (σ' : Sg) (v : Int32), v.toInt = rd σ 121 1 → Fr FVm σ σ' → TlvM σ σ' (rd σ 121 1).toNat x1.toInt x2.toInt → Φ (some (.int v)) σ') : wp true (d + 3) nM_village [.ref 120, .int x1, .int x2] σ Φ := by
  have e4 : (gI σ 121 (ix 1)).toInt = rd σ 121 1 := rfl
  have no : ¬ CanV (rd σ 121 1) x1 x2 → bM_village_32 true NOB (wp true (d + 2)) Φ (kM_village (d + 2) Φ) [.ref 120, .int x1, .int x2, .retAddr 0] [] σ := fun q => by
    simp only [pI, pL, pR, pV, i10, ↓reduceIte, eM_village_32]
    exact h0 q
  have l0 : (0 : Int32).toInt = 0 := rfl
  have l9 : (9 : Int32).toInt = 9 := rfl
  have l99 : (9999 : Int32).toInt = 9999 := rfl
  apply wM_village
  simp only [pI, pL, pR, pV, i10, ↓reduceIte, eM_village_0]
  refine sM_isIn (fun q1 => ?_) (fun q1 => ?_)
  rotate_left
  · simp only [pI, pL, pR, pV, i10, ↓reduceIte, eM_village_7]
    try rw [if_pos rfl]
    exact no (by unfold CanV; omega)
  simp only [pI, pL, pR, pV, i10, ↓reduceIte, eM_village_7]
  try rw [if_neg (by decide)]
  refine sM_isIn (fun q2 => ?_) (fun q2 => ?_)
  rotate_left
  · simp only [pI, pL, pR, pV, i10, ↓reduceIte, eM_village_18]
    try rw [if_pos rfl]
    exact no (by unfold CanV; omega)
  simp only [pI, pL, pR, pV, i10, ↓reduceIte, eM_village_18]
  try rw [if_neg (by decide)]
  have cz : (gI σ 121 (ix 1) = 6) = (rd σ 121 1 = 6) := by rw [ieq]; rfl
  simp only [cz]
  refine ⟨⟨by decide, by decide⟩, ?_⟩
  split
  next => exact no (by unfold CanV; omega)
  next q4 =>
    have can : CanV (rd σ 121 1) x1 x2 := by unfold CanV; omega
    simp only [pI, pL, pR, pV, i10, ↓reduceIte, eM_village_34]
    generalize hN : (rd σ 121 1).toNat = n at *
    have hn6 : n < 6 := by omega
    have xn : ix (gI σ 121 (ix 1)) = n := ix_of (by omega)
    generalize gI σ 121 (ix 1) = nw at *
    refine ⟨⟨by decide, by decide⟩, ?_⟩
    refine sM_lay (60 + 4 * n) (j := 0) rfl (by omega) (by omega) (by omega) ?_
    simp only [pI, pL, pR, pV, i10, ↓reduceIte, eM_village_48]
    refine sM_lay (61 + 4 * n) (j := 1) rfl (by omega) (by omega) (by omega) ?_
    simp only [pI, pL, pR, pV, i10, ↓reduceIte, eM_village_55]
    refine sM_lay (62 + 4 * n) (j := 2) rfl (by omega) (by omega) (by omega) ?_
    simp only [pI, pL, pR, pV, i10, ↓reduceIte, eM_village_62]
    refine sM_lay (63 + 4 * n) (j := 3) rfl (by omega) (by omega) (by omega) ?_
    simp only [pI, pL, pR, pV, i10, ↓reduceIte, eM_village_69]
    generalize hs3 : sI (sI (sI (sI σ 121 (60 + 4 * n) x1) 121 (61 + 4 * n) x2) 121 (62 + 4 * n) 0) 121 (63 + 4 * n) x2 = s3
    have r3 : ∀ k, k ≠ 60 + 4 * n → k ≠ 61 + 4 * n → k ≠ 62 + 4 * n → k ≠ 63 + 4 * n → rd s3 121 k = rd σ 121 k := fun k k1 k2 k3 k4 => by
      rw [← hs3, rdne2 k4, rdne2 k3, rdne2 k2, rdne2 k1]
    have m3 : mc s3 121 = setV (mc σ 121) n x2.toInt := by
      have nm : ∀ w, w < 6 → ∀ k, k < 44 → mix k ≠ 60 + 4 * w ∧ mix k ≠ 63 + 4 * w := by decide
      rw [← hs3, mc_sIo (fun k hk => (nm n hn6 k hk).2), mc_sI (k := 36 + n) (by omega) (mix_t hn6).symm, mc_sI (k := 30 + n) (by omega) (mix_p hn6).symm, mc_sIo (fun k hk => (nm n hn6 k hk).1), l0, setV_up hn6]
    have inn : ∀ k, 60 ≤ k → k < 84 → inS FVm 121 k = true := fun k k1 k2 => inS_r (lo := 60) (hi := 84) (by simp) ⟨k1, k2⟩
    have e3 : Fr FVm σ s3 := by
      rw [← hs3]
      exact (((Fr.sI (inn _ (by omega) (by omega))).tr (Fr.sI (inn _ (by omega) (by omega)))).tr (Fr.sI (inn _ (by omega) (by omega)))).tr (Fr.sI (inn _ (by omega) (by omega)))
    have t60 : rd s3 121 (60 + 4 * n) = x1.toInt := by rw [← hs3, rdne2 (by omega), rdne2 (by omega), rdne2 (by omega), rdeq]
    have t63 : rd s3 121 (63 + 4 * n) = x2.toInt := by rw [← hs3, rdeq]
    have e0 : rd s3 121 1 = n := by rw [r3 1 (by omega) (by omega) (by omega) (by omega)]; omega
    have e0' : (gI s3 121 (ix 1)).toInt = n := e0
    have es : (gI s3 121 (ix 1) + 1).toInt = n + 1 := by rw [t1 (by omega), e0']
    have m0 : ∀ k, k < 44 → mix k ≠ 1 := by decide
    refine ⟨⟨by decide, by decide⟩, ⟨by decide, by decide⟩, ?_⟩
    rw [show ix 1 = 1 from rfl] at *
    have up : ∀ k, k ≠ 1 → rd (sI s3 121 1 (gI s3 121 1 + 1)) 121 k = rd s3 121 k := fun k hk => rdne2 hk
    have FF := e3.tr (Fr.sI (S := FVm) (σ := s3) (a := 121) (k := 1) (v := gI s3 121 1 + 1) (by decide))
    refine h can _ _ (by omega) FF ⟨FF.ei, ?_, ?_, ?_, fun w k hw hwn hk => ?_, ?_⟩
    · rw [rdeq, es]
    · rw [up _ (by omega)]; exact t60
    · rw [up _ (by omega)]; exact t63
    · rw [up _ (by omega), r3 _ (by omega) (by omega) (by omega) (by omega)]
    · rw [mc_sIo m0]; exact m3
