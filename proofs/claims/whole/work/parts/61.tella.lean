/-! A WIND IS TOLD: both sides -/
def setW (c : Co) (w : Nat) (a b : Int) : Co := fun k => if k = 12 + w then a else if k = 18 + w then b else if k = w ∨ k = 6 + w ∨ k = 24 + w then 0 else c k
theorem setW_cls {c : Co} {w : Nat} {a b : Int} (hw : w < 6) : upc (upc (upc (upc (upc c w 0) (6 + w) 0) (12 + w) a) (18 + w) b) (24 + w) 0 = setW c w a b := by
  funext k
  unfold setW
  by_cases a1 : k = 24 + w
  · rw [a1, upc_eq, if_neg (by omega), if_neg (by omega), if_pos (by omega)]
  rw [upc_ne a1]
  by_cases a2 : k = 18 + w
  · rw [a2, upc_eq, if_neg (by omega)]
    try rw [if_pos rfl]
  rw [upc_ne a2, if_neg a2]
  by_cases a3 : k = 12 + w
  · rw [a3, upc_eq]
    try rw [if_pos rfl]
  rw [upc_ne a3, if_neg a3]
  by_cases a4 : k = 6 + w
  · rw [a4, upc_eq, if_pos (by omega)]
  rw [upc_ne a4]
  by_cases a5 : k = w
  · rw [a5, upc_eq, if_pos (by omega)]
  rw [upc_ne a5, if_neg (by omega)]
theorem setW_ref {c : Co} {w : Nat} {a b : Int} (hw : w < 6) : upc (upc (upc (upc (upc c (12 + w) a) (18 + w) b) w 0) (6 + w) 0) (24 + w) 0 = setW c w a b := by
  funext k
  unfold setW
  by_cases a1 : k = 24 + w
  · rw [a1, upc_eq, if_neg (by omega), if_neg (by omega), if_pos (by omega)]
  rw [upc_ne a1]
  by_cases a4 : k = 6 + w
  · rw [a4, upc_eq, if_neg (by omega), if_neg (by omega), if_pos (by omega)]
  rw [upc_ne a4]
  by_cases a5 : k = w
  · rw [a5, upc_eq, if_neg (by omega), if_neg (by omega), if_pos (by omega)]
  rw [upc_ne a5]
  by_cases a2 : k = 18 + w
  · rw [a2, upc_eq, if_neg (by omega)]
    try rw [if_pos rfl]
  rw [upc_ne a2, if_neg a2]
  by_cases a3 : k = 12 + w
  · rw [a3, upc_eq]
    try rw [if_pos rfl]
  rw [upc_ne a3, if_neg a3, if_neg (by omega)]
theorem sW_setWind {d : Nat} {Φ : Po} {σ : Sg} {r0 : Nat} {w a b : Int32} (hs : shp r0 = (2, 75)) (hw : 0 ≤ w.toInt ∧ w.toInt < 6) (h : ∀ σ' : Sg, Fr [(r0, 0, 44)] σ σ' → rc σ' r0 = setW (rc σ r0) (ix w) a.toInt b.toInt → Φ none σ') : wp true (d + 1) nW_setWind [.ref r0, .int w, .int a, .int b] σ Φ := by
  have hw6 := ix6 hw
  have a0 : ix (0 + w) = ix w := by rw [ixk (n := 0) rfl (by omega)]; omega
  have a1 : ix (6 + w) = 6 + ix w := ixk (n := 6) rfl (by omega)
  have a2 : ix (12 + w) = 12 + ix w := ixk (n := 12) rfl (by omega)
  have a3 : ix (18 + w) = 18 + ix w := ixk (n := 18) rfl (by omega)
  have a4 : ix (24 + w) = 24 + ix w := ixk (n := 24) rfl (by omega)
  have i0 : inb (0 + w) 75 := inb_k (n := 0) rfl (by omega) (by omega)
  have i1 : inb (6 + w) 75 := inb_k (n := 6) rfl (by omega) (by omega)
  have i2 : inb (12 + w) 75 := inb_k (n := 12) rfl (by omega) (by omega)
  have i3 : inb (18 + w) 75 := inb_k (n := 18) rfl (by omega) (by omega)
  have i4 : inb (24 + w) 75 := inb_k (n := 24) rfl (by omega) (by omega)
  have z : (0 : Int32).toInt = 0 := rfl
  have inn : ∀ k, k < 44 → inS [(r0, 0, 44)] r0 k = true := fun k hk => inS_r (lo := 0) (hi := 44) (by simp) ⟨Nat.zero_le _, hk⟩
  apply wW_setWind
  rw [eW_setWind_0]
  simp only [o_iast, hs, cond, lvx, Bool.true_or]
  refine ⟨i0, ?_⟩
  rw [eW_setWind_6]
  simp only [o_iast, hs, cond, lvx, Bool.true_or]
  refine ⟨i1, ?_⟩
  rw [eW_setWind_13]
  simp only [o_iast, hs, cond, lvx, Bool.true_or]
  refine ⟨i2, ?_⟩
  rw [eW_setWind_20]
  simp only [o_iast, hs, cond, lvx, Bool.true_or]
  refine ⟨i3, ?_⟩
  rw [eW_setWind_27]
  simp only [o_iast, hs, cond, lvx, Bool.true_or]
  refine ⟨i4, ?_⟩
  rw [eW_setWind_34, a0, a1, a2, a3, a4]
  refine h _ (((((Fr.sI (inn _ (by omega))).tr (Fr.sI (inn _ (by omega)))).tr (Fr.sI (inn _ (by omega)))).tr (Fr.sI (inn _ (by omega)))).tr (Fr.sI (inn _ (by omega)))) ?_
  rw [rc_sI (by omega), rc_sI (by omega), rc_sI (by omega), rc_sI (by omega), rc_sI (by omega), z, setW_cls hw6]
abbrev FK4 : Ls := (List.range 30).map (fun i => (4 + i, 0, 44))
abbrev FTc : Ls := FK4 ++ [(2, 0, 44), (34, 0, 6), (1, 4, 5)]
theorem FK4_in {r k : Nat} (h : r < 30) (hk : k < 44) : inS FTc (4 + r) k = true := inS_r (lo := 0) (hi := 44) (List.mem_append_left _ (List.mem_map.mpr ⟨r, List.mem_range.mpr h, rfl⟩)) ⟨Nat.zero_le _, hk⟩
def TelC (σ σ' : Sg) (n : Nat) (x1 x2 x3 : Int) : Prop := Ei FTc σ σ' ∧ rd σ' 1 4 = n + 1 ∧ rd σ' 34 n = x1 ∧ (∀ w, w ≠ n → rd σ' 34 w = rd σ 34 w) ∧ rc σ' 2 = setW (rc σ 2) n x2 x3 ∧ (∀ r, r < 30 → rc σ' (4 + r) = setW (rc σ (4 + r)) n x2 x3)
theorem lW_tell {d : Nat} {Φ : Po} {σ0 : Sg} {n : Nat} {x1 x2 x3 : Int32} (hn : n < 6) (h : ∀ (σ : Sg) (x : Int32), Fr FTc σ0 σ → rd σ 1 4 = n → (∀ w, rd σ 34 w = rd σ0 34 w) → rc σ 2 = rc σ0 2 → (∀ r, r < 30 → rc σ (4 + r) = setW (rc σ0 (4 + r)) n x2.toInt x3.toInt) → bW_tellWind_96 true NOB (wp true (d + 1)) Φ (kW_tellWind (d + 1) Φ) [.ref 1, .int x1, .int x2, .int x3, .int x] [] σ) :
    ∀ (m i : Nat) (σ : Sg) (x : Int32), i + m = 30 → x.toInt = i → Fr FTc σ0 σ → rd σ 1 4 = n → (∀ w, rd σ 34 w = rd σ0 34 w) → rc σ 2 = rc σ0 2 → (∀ r, r < 30 → rc σ (4 + r) = if r < i then setW (rc σ0 (4 + r)) n x2.toInt x3.toInt else rc σ0 (4 + r)) → bW_tellWind_67 true NOB (wp true (d + 1)) Φ (kW_tellWind (d + 1) Φ) [.ref 1, .int x1, .int x2, .int x3, .int x] [] σ := by
  intro m
  induction m with
  | zero =>
    intro i σ x hi hx hF h1 h2 h3 h4
    simp only [pI, pL, pR, pV, i10, ↓reduceIte, eW_tellWind_67]
    simp only [ile, show (30 : Int32).toInt = 30 from rfl, hx]
    rw [if_pos (by omega)]
    exact h σ x hF h1 h2 h3 (fun r hr => by rw [h4 r hr, if_pos (by omega)])
  | succ m ih =>
    intro i σ x hi hx hF h1 h2 h3 h4
    simp only [pI, pL, pR, pV, i10, ↓reduceIte, eW_tellWind_67]
    have hi30 : i < 30 := by omega
    have xi : ix x = i := ix_of hx
    have e1 : (gI σ 1 4).toInt = n := h1
    have en : ix (gI σ 1 4) = n := ix_of e1
    simp only [ile, show (30 : Int32).toInt = 30 from rfl, hx]
    rw [if_neg (by omega)]
    refine ⟨⟨by omega, by omega⟩, ?_⟩
    rw [xi, rfx3 hi30]
    refine sW_setWind (kept_sh i hi30).1 (by omega) (fun σ' hF' hc => ?_)
    simp only [pI, pL, pR, pV, i10, ↓reduceIte, eW_tellWind_90]
    rw [en] at hc
    have hne : ∀ a k, a ≠ 4 + i → inS [(4 + i, 0, 44)] a k = false := fun a k ha => not_inS (fun e he z => by
      rw [List.mem_singleton] at he
      subst he
      exact ha z.1.symm)
    refine hW_tellWind_67 _ _ _ _ _ (ih (i + 1) σ' (x + 1) (by omega) (by rw [t1 (by omega), hx]; omega) (hF.tr (hF'.mo (fun e he => by
      rw [List.mem_singleton] at he
      subst he
      exact List.mem_append_left _ (List.mem_map.mpr ⟨i, List.mem_range.mpr hi30, rfl⟩)))) ?_ (fun w => ?_) ?_ (fun r hr => ?_))
    · rw [hF'.rd (hne _ _ (by omega))]; exact h1
    · rw [hF'.rd (hne _ _ (by omega))]; exact h2 w
    · rw [Fr_rc hF' (fun k _ => hne _ _ (by omega))]; exact h3
    · by_cases q : r = i
      · subst q
        rw [hc, h4 r hr, if_neg (by omega), if_pos (by omega)]
      · rw [Fr_rc hF' (fun k _ => hne _ _ (by omega)), h4 r hr]
        by_cases y : r < i
        · rw [if_pos y, if_pos (by omega)]
        · rw [if_neg y, if_neg (by omega)]
def CanW (n : Int) (x1 x2 x3 : Int32) : Prop := n < 6 ∧ (0 ≤ x1.toInt ∧ x1.toInt ≤ 3) ∧ (1 ≤ x2.toInt ∧ x2.toInt ≤ 9) ∧ (0 ≤ x3.toInt ∧ x3.toInt ≤ 99)
theorem sW_tellWind {d : Nat} {Φ : Po} {σ : Sg} {x1 x2 x3 : Int32} (hn : 0 ≤ rd σ 1 4 ∧ rd σ 1 4 ≤ 6) (h0 : ¬ CanW (rd σ 1 4) x1 x2 x3 → Φ (some (.int (-1))) σ) (h : CanW (rd σ 1 4) x1 x2 x3 → ∀ (σ' : Sg) (v : Int32), v.toInt = rd σ 1 4 → Fr FTc σ σ' → TelC σ σ' (rd σ 1 4).toNat x1.toInt x2.toInt x3.toInt → Φ (some (.int v)) σ') : wp true (d + 2) nW_tellWind [.ref 1, .int x1, .int x2, .int x3] σ Φ := by
  have e4 : (gI σ 1 4).toInt = rd σ 1 4 := rfl
  apply wW_tellWind
  simp only [pI, pL, pR, pV, i10, ↓reduceIte, eW_tellWind_0]
  have no : ¬ CanW (rd σ 1 4) x1 x2 x3 → bW_tellWind_39 true NOB (wp true (d + 1)) Φ (kW_tellWind (d + 1) Φ) [.ref 1, .int x1, .int x2, .int x3, .retAddr 0] [] σ := fun q => by
    simp only [pI, pL, pR, pV, i10, ↓reduceIte, eW_tellWind_39]
    exact h0 q
  simp only [ilt, ile, ieq, e4, show (6 : Int32).toInt = 6 from rfl, show (0 : Int32).toInt = 0 from rfl, show (3 : Int32).toInt = 3 from rfl, show (1 : Int32).toInt = 1 from rfl, show (9 : Int32).toInt = 9 from rfl, show (99 : Int32).toInt = 99 from rfl]
  split
  next => exact no (by unfold CanW; omega)
  split
  next => exact no (by unfold CanW; omega)
  split
  next => exact no (by unfold CanW; omega)
  split
  next => exact no (by unfold CanW; omega)
  split
  next => exact no (by unfold CanW; omega)
  split
  next => exact no (by unfold CanW; omega)
  split
  next q1 q2 q3 q4 q5 q6 q7 =>
    have can : CanW (rd σ 1 4) x1 x2 x3 := by unfold CanW; omega
    simp only [pI, pL, pR, pV, i10, ↓reduceIte, eW_tellWind_41]
    generalize hN : (rd σ 1 4).toNat = n at *
    have hn6 : n < 6 := by omega
    have xn : ix (gI σ 1 4) = n := ix_of (by omega)
    rw [xn]
    have g4 : gI (sI σ 34 n x1) 1 4 = gI σ 1 4 := eqv (rdne (by omega))
    rw [g4]
    refine ⟨⟨by omega, by omega⟩, ?_⟩
    refine sW_setWind rfl (by omega) (fun s1 f1 c1 => ?_)
    rw [xn] at c1
    simp only [pI, pL, pR, pV, i10, ↓reduceIte, eW_tellWind_64]
    have hne : ∀ a k, a ≠ 2 → inS [(2, 0, 44)] a k = false := fun a k ha => not_inS (fun e he z => by
      rw [List.mem_singleton] at he
      subst he
      exact ha z.1.symm)
    have F0 : Fr FTc σ s1 := (Fr.sI (inS_r (lo := 0) (hi := 6) (by simp) (by omega))).tr (f1.mo (fun e he => by
      rw [List.mem_singleton] at he
      subst he
      exact List.mem_append_right _ (by simp)))
    have w1 : rd s1 1 4 = n := by rw [f1.rd (hne _ _ (by omega)), rdne (by omega)]; omega
    refine lW_tell hn6 (fun σ' x hF' h1 h2 h3 h4 => ?_) 30 0 s1 0 (by omega) rfl (Fr.rf (S := FTc)) w1 (fun _ => rfl) rfl (fun r _ => by rw [if_neg (by omega)])
    simp only [pI, pL, pR, pV, i10, ↓reduceIte, eW_tellWind_96]
    have e1 : (gI σ' 1 4).toInt = n := h1
    have es : (gI σ' 1 4 + 1).toInt = n + 1 := by rw [t1 (by omega), e1]
    have gg : gI (sI σ' 1 4 (gI σ' 1 4 + 1)) 1 4 = gI σ' 1 4 + 1 := eqv rdeq
    rw [gg]
    have far : ∀ a k, a ≠ 1 → rd (sI σ' 1 4 (gI σ' 1 4 + 1)) a k = rd σ' a k := fun a k ha => rdne ha
    have farc : ∀ a, a ≠ 1 → rc (sI σ' 1 4 (gI σ' 1 4 + 1)) a = rc σ' a := fun a ha => rc_ne ha
    have FF := (F0.tr hF').tr (Fr.sI (a := 1) (k := 4) (v := gI σ' 1 4 + 1) (inS_r (S := FTc) (lo := 4) (hi := 5) (by simp) (by omega)))
    refine h can _ _ ?_ FF ⟨FF.ei, ?_, ?_, fun w hw => ?_, ?_, fun r hr => ?_⟩
    · rw [s1t es]; omega
    · rw [rdeq, es]
    · rw [far _ _ (by omega), h2, f1.rd (hne _ _ (by omega)), rdeq]
    · rw [far _ _ (by omega), h2, f1.rd (hne _ _ (by omega)), rdne2 hw]
    · rw [farc _ (by omega), h3, c1, rc_ne (by omega)]
    · rw [farc _ (by omega), h4 r hr, Fr_rc f1 (fun k _ => hne _ _ (by omega)), rc_ne (by omega)]
  next => exact no (by unfold CanW; omega)
/-- the reference -/
abbrev FTm : Ls := [(121, 0, 1), (121, 12, 60)] ++ FMk
def TelM (σ σ' : Sg) (n : Nat) (x1 x2 x3 : Int) : Prop := Ei FTm σ σ' ∧ rd σ' 121 0 = n + 1 ∧ rd σ' 121 (12 + 8 * n) = x1 ∧ rd σ' 121 (18 + 8 * n) = x2 ∧ rd σ' 121 (19 + 8 * n) = x3 ∧ (∀ w k, w < 6 → w ≠ n → k < 8 → (k = 0 ∨ k = 6 ∨ k = 7) → rd σ' 121 (12 + 8 * w + k) = rd σ 121 (12 + 8 * w + k)) ∧ mc σ' 121 = setW (mc σ 121) n x2 x3
theorem sM_wind {d : Nat} {Φ : Po} {σ : Sg} {x1 x2 x3 : Int32} (hn : 0 ≤ rd σ 121 0 ∧ rd σ 121 0 ≤ 6) (h0 : ¬ CanW (rd σ 121 0) x1 x2 x3 → Φ (some (.int (-1))) σ) (h : CanW (rd σ 121 0) x1 x2 x3 → ∀ (σ' : Sg) (v : Int32), v.toInt = rd σ 121 0 → Fr FTm σ σ' → TelM σ σ' (rd σ 121 0).toNat x1.toInt x2.toInt x3.toInt → Φ (some (.int v)) σ') : wp true (d + 3) nM_wind [.ref 120, .int x1, .int x2, .int x3] σ Φ := by
  have e4 : (gI σ 121 (ix 0)).toInt = rd σ 121 0 := rfl
  have no : ¬ CanW (rd σ 121 0) x1 x2 x3 → bM_wind_40 true NOB (wp true (d + 2)) Φ (kM_wind (d + 2) Φ) [.ref 120, .int x1, .int x2, .int x3, .retAddr 0] [] σ := fun q => by
    simp only [pI, pL, pR, pV, i10, ↓reduceIte, eM_wind_40]
    exact h0 q
  have l0 : (0 : Int32).toInt = 0 := rfl
  have l3 : (3 : Int32).toInt = 3 := rfl
  have l1 : (1 : Int32).toInt = 1 := rfl
  have l9 : (9 : Int32).toInt = 9 := rfl
  have l99 : (99 : Int32).toInt = 99 := rfl
  apply wM_wind
  simp only [pI, pL, pR, pV, i10, ↓reduceIte, eM_wind_0]
  refine sM_isIn (fun q1 => ?_) (fun q1 => ?_)
  rotate_left
  · simp only [pI, pL, pR, pV, i10, ↓reduceIte, eM_wind_6]
    try rw [if_pos rfl]
    exact no (by unfold CanW; omega)
  simp only [pI, pL, pR, pV, i10, ↓reduceIte, eM_wind_6]
  try rw [if_neg (by decide)]
  refine sM_isIn (fun q2 => ?_) (fun q2 => ?_)
  rotate_left
  · simp only [pI, pL, pR, pV, i10, ↓reduceIte, eM_wind_16]
    try rw [if_pos rfl]
    exact no (by unfold CanW; omega)
  simp only [pI, pL, pR, pV, i10, ↓reduceIte, eM_wind_16]
  try rw [if_neg (by decide)]
  refine sM_isIn (fun q3 => ?_) (fun q3 => ?_)
  rotate_left
  · simp only [pI, pL, pR, pV, i10, ↓reduceIte, eM_wind_26]
    try rw [if_pos rfl]
    exact no (by unfold CanW; omega)
  simp only [pI, pL, pR, pV, i10, ↓reduceIte, eM_wind_26]
  try rw [if_neg (by decide)]
  have cz : (gI σ 121 (ix 0) = 6) = (rd σ 121 0 = 6) := by rw [ieq]; rfl
  simp only [cz]
  refine ⟨⟨by decide, by decide⟩, ?_⟩
  split
  next => exact no (by unfold CanW; omega)
  next q4 =>
    have can : CanW (rd σ 121 0) x1 x2 x3 := by unfold CanW; omega
    simp only [pI, pL, pR, pV, i10, ↓reduceIte, eM_wind_42]
    generalize hN : (rd σ 121 0).toNat = n at *
    have hn6 : n < 6 := by omega
    have xn : ix (gI σ 121 (ix 0)) = n := ix_of (by omega)
    generalize gI σ 121 (ix 0) = nw at *
    refine ⟨⟨by decide, by decide⟩, ?_⟩
    refine sM_put (12 + 8 * n) (j := 0) rfl (by omega) (by omega) (by omega) ?_
    simp only [pI, pL, pR, pV, i10, ↓reduceIte, eM_wind_58]
    refine sM_put (18 + 8 * n) (j := 6) rfl (by omega) (by omega) (by omega) ?_
    simp only [pI, pL, pR, pV, i10, ↓reduceIte, eM_wind_67]
    refine sM_put (19 + 8 * n) (j := 7) rfl (by omega) (by omega) (by omega) ?_
    simp only [pI, pL, pR, pV, i10, ↓reduceIte, eM_wind_76]
    generalize hs3 : sI (sI (sI σ 121 (12 + 8 * n) x1) 121 (18 + 8 * n) x2) 121 (19 + 8 * n) x3 = s3
    have r3 : ∀ k, k ≠ 12 + 8 * n → k ≠ 18 + 8 * n → k ≠ 19 + 8 * n → rd s3 121 k = rd σ 121 k := fun k k1 k2 k3 => by
      rw [← hs3, rdne2 k3, rdne2 k2, rdne2 k1]
    have m3 : mc s3 121 = mc σ 121 := by
      have nm : ∀ w, w < 6 → ∀ k, k < 44 → mix k ≠ 12 + 8 * w ∧ mix k ≠ 18 + 8 * w ∧ mix k ≠ 19 + 8 * w := by decide
      rw [← hs3, mc_sIo (fun k hk => (nm n hn6 k hk).2.2), mc_sIo (fun k hk => (nm n hn6 k hk).2.1), mc_sIo (fun k hk => (nm n hn6 k hk).1)]
    have e3 : Fr FTm σ s3 := by
      rw [← hs3]
      exact ((Fr.sI (inS_r (lo := 12) (hi := 60) (by simp) (by omega))).tr (Fr.sI (inS_r (lo := 12) (hi := 60) (by simp) (by omega)))).tr (Fr.sI (inS_r (lo := 12) (hi := 60) (by simp) (by omega)))
    have t12 : rd s3 121 (12 + 8 * n) = x1.toInt := by rw [← hs3, rdne2 (by omega), rdne2 (by omega), rdeq]
    have t18 : rd s3 121 (18 + 8 * n) = x2.toInt := by rw [← hs3, rdne2 (by omega), rdeq]
    have t19 : rd s3 121 (19 + 8 * n) = x3.toInt := by rw [← hs3, rdeq]
    refine sM_begin (by omega) (fun s4 f4 c4 => ?_)
    simp only [pI, pL, pR, pV, i10, ↓reduceIte, eM_wind_82]
    rw [xn, m3, t18, t19, setW_ref hn6] at c4
    have nF : ∀ w, w < 6 → ∀ k, k < 8 → (k = 0 ∨ k = 6 ∨ k = 7) → inS FMk 121 (12 + 8 * w + k) = false := by decide
    have f0 : inS FMk 121 0 = false := by decide
    have e0 : rd s4 121 0 = n := by rw [f4.rd f0, r3 0 (by omega) (by omega) (by omega)]; omega
    have e0' : (gI s4 121 (ix 0)).toInt = n := e0
    have es : (gI s4 121 (ix 0) + 1).toInt = n + 1 := by rw [t1 (by omega), e0']
    have m0 : ∀ k, k < 44 → mix k ≠ 0 := by decide
    refine ⟨⟨by decide, by decide⟩, ⟨by decide, by decide⟩, ?_⟩
    rw [show ix 0 = 0 from rfl] at *
    have up : ∀ k, k ≠ 0 → rd (sI s4 121 0 (gI s4 121 0 + 1)) 121 k = rd s4 121 k := fun k hk => rdne2 hk
    have FF := (e3.tr (f4.mo (fun e he => List.mem_append_right _ he))).tr (Fr.sI (S := FTm) (σ := s4) (a := 121) (k := 0) (v := gI s4 121 0 + 1) (by decide))
    refine h can _ _ (by omega) FF ⟨FF.ei, ?_, ?_, ?_, ?_, fun w k hw hwn hk h067 => ?_, ?_⟩
    · rw [rdeq, es]
    · rw [up _ (by omega), f4.rd (by have := nF n hn6 0 (by omega) (Or.inl rfl); exact this)]; exact t12
    · rw [up _ (by omega), f4.rd (by have := nF n hn6 6 (by omega) (Or.inr (Or.inl rfl)); rw [show 12 + 8 * n + 6 = 18 + 8 * n from by omega] at this; exact this)]; exact t18
    · rw [up _ (by omega), f4.rd (by have := nF n hn6 7 (by omega) (Or.inr (Or.inr rfl)); rw [show 12 + 8 * n + 7 = 19 + 8 * n from by omega] at this; exact this)]; exact t19
    · rw [up _ (by omega), f4.rd (nF w hw k hk h067), r3 _ (by omega) (by omega) (by omega)]
    · rw [mc_sIo m0]; exact c4
