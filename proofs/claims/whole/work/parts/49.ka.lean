/-! A STEP IS KEPT -/
abbrev FKr : Ls := (List.range 30).map (fun i => (4 + i, 0, 75))
abbrev FKc : Ls := FKr ++ [(1, 2, 4)]
theorem kept_sh : ∀ r, r < 30 → shp (4 + r) = (2, 75) ∧ bB (4 + r) = false ∧ Nat.beq (4 + r) 94000 = false := by decide
theorem rfx3 {σ : Sg} {i : Nat} (h : i < 30) : rfx true σ 3 i = 4 + i := by
  have hb : Nat.blt i 30 = true := Nat.ble_eq_true_of_le h
  show (keptR 3 i).getD (gR σ 3 i) = 4 + i
  unfold keptR
  have e : (Nat.beq 3 idKa && Nat.blt i 30) = true := by rw [hb]; rfl
  rw [e]
  show idKa + 1 + i = 4 + i
  show 3 + 1 + i = 4 + i
  omega
theorem FKr_in {r k : Nat} (h : r < 30) (hk : k < 75) : inS FKc (4 + r) k = true := inS_r (lo := 0) (hi := 75) (List.mem_append_left _ (List.mem_map.mpr ⟨r, List.mem_range.mpr h, rfl⟩)) ⟨Nat.zero_le _, hk⟩
def KeepC (σ σ' : Sg) : Prop := Fr FKc σ σ' ∧ rd σ' 1 2 = (rd σ 1 2 + 1) % 30 ∧ rd σ' 1 3 = min 30 (rd σ 1 3 + 1) ∧ (∀ k, k < 75 → rd σ' (4 + (rd σ 1 2).toNat) k = rd σ 2 k) ∧ (∀ r k, r < 30 → r ≠ (rd σ 1 2).toNat → k < 75 → rd σ' (4 + r) k = rd σ (4 + r) k)
theorem cpI_ne {σ : Sg} {a b n x k : Nat} (h : x ≠ b) : gI (cpI σ a 0 b 0 n) x k = gI σ x k := by
  rw [gI_cpI, if_neg h]
theorem sW_keepStep {d : Nat} {Φ : Po} {σ : Sg} (hn : 0 ≤ rd σ 1 2 ∧ rd σ 1 2 < 30) (hs : 0 ≤ rd σ 1 3 ∧ rd σ 1 3 ≤ 30) (h : ∀ σ' : Sg, KeepC σ σ' → Φ none σ') : wp true (d + 3) nW_keepStep [.ref 1] σ Φ := by
  apply wW_keepStep
  simp only [pI, pL, pR, pV, i10, ↓reduceIte, eW_keepStep_0]
  have e2 : (gI σ 1 2).toInt = rd σ 1 2 := rfl
  have hr : ix (gI σ 1 2) < 30 := by unfold ix; omega
  have hrx : ix (gI σ 1 2) = (rd σ 1 2).toNat := rfl
  obtain ⟨k1, k2, k3⟩ := kept_sh _ hr
  refine ⟨⟨by omega, by omega⟩, ?_⟩
  rw [rfx3 hr]
  refine sW_copyRow (n := 75) rfl k1 ⟨rfl, rfl⟩ ⟨k2, k3⟩ (by omega) ?_
  simp only [pI, pL, pR, pV, i10, ↓reduceIte, eW_keepStep_16]
  generalize hq : ix (gI σ 1 2) = q at hr hrx
  have g2 : gI (cpI σ 2 0 (4 + q) 0 75) 1 2 = gI σ 1 2 := cpI_ne (by omega)
  have g3 : gI (cpI σ 2 0 (4 + q) 0 75) 1 3 = gI σ 1 3 := cpI_ne (by omega)
  have e3 : (gI σ 1 3).toInt = rd σ 1 3 := rfl
  have em : ((gI σ 1 2 + 1) % 30).toInt = (rd σ 1 2 + 1) % 30 := by
    rw [tR (by rw [t1 (by omega), e2]; omega), t1 (by omega), e2]
    rfl
  rw [g2, gIne2 (by omega), g3]
  refine ⟨by decide, ?_⟩
  refine sJ_min (fun m hm => ?_)
  simp only [pI, pL, pR, pV, i10, ↓reduceIte, eW_keepStep_41]
  rw [t1 (by omega), e3] at hm
  have f1 : Fr FKc σ (cpI σ 2 0 (4 + q) 0 75) := Fr.cp (fun k _ k2 => FKr_in hr (by omega))
  refine h _ ⟨(f1.tr (Fr.sI (inS_r (lo := 2) (hi := 4) (by simp [FKc]) (by omega)))).tr (Fr.sI (inS_r (lo := 2) (hi := 4) (by simp [FKc]) (by omega))), ?_, ?_, fun k hk => ?_, fun r k hr2 hne hk => ?_⟩
  · rw [rdne2 (by omega), rdeq, em]
  · rw [rdeq, hm]; rfl
  · rw [rdne (by omega), rdne (by omega), ← hrx]
    show (gI _ _ _).toInt = _
    rw [cp_at hk]; rfl
  · rw [rdne (by omega), rdne (by omega)]
    show (gI _ _ _).toInt = _
    rw [cpI_ne (by omega)]; rfl
/-- what a slot is to hold -/
def want (σ : Sg) (e : Nat) : Int := if e < 2 then rd σ 121 e else if e < 5 then rd σ 121 (6 + e) else if e < 35 then rd σ 121 (13 + 8 * ((e - 5) / 5) + (e - 5) % 5) else rd σ 121 (61 + 4 * ((e - 35) / 2) + (e - 35) % 2)
def KeepM (σ σ' : Sg) : Prop := Fr [(121, 4, 5), (121, 146, 1556)] σ σ' ∧ rd σ' 121 4 = min 30 (rd σ 121 4 + 1) ∧ (∀ j k : Nat, (j : Int) + 1 < rd σ' 121 4 → k < 47 → rd σ' 121 (146 + 47 * j + k) = rd σ 121 (146 + 47 * (j + if rd σ 121 4 = 30 then 1 else 0) + k)) ∧ (∀ e, e < 47 → rd σ' 121 (146 + 47 * (rd σ' 121 4 - 1).toNat + e) = want σ e)
/-- slot s of σ is filled up to cell m -/
def PwK (σ1 σ : Sg) (s m : Nat) : Prop := Fr [(121, 4, 5), (121, 146, 1556)] σ1 σ ∧ (∀ k, ¬ (146 + 47 * s ≤ k ∧ k < 146 + 47 * s + 47) → rd σ 121 k = rd σ1 121 k) ∧ (∀ e, e < m → rd σ 121 (146 + 47 * s + e) = want σ1 e)
theorem PwK.put {σ1 σ : Sg} {s m : Nat} {v : Int32} (hs : s < 30) (hm : m < 47) (h : PwK σ1 σ s m) (hv : v.toInt = want σ1 m) : PwK σ1 (sI σ 121 (146 + 47 * s + m) v) s (m + 1) := by
  obtain ⟨h1, h2, h3⟩ := h
  refine ⟨h1.tr (Fr.sI (inS_r (lo := 146) (hi := 1556) (by simp) (by omega))), fun k hk => ?_, fun e he => ?_⟩
  · rw [rdne2 (by omega)]; exact h2 k hk
  · by_cases q : e = m
    · subst q; rw [rdeq, hv]
    · rw [rdne2 (by omega)]; exact h3 e (by omega)
theorem lM_keep98 {d : Nat} {Φ : Po} {σ1 : Sg} {s : Nat} {x1 : Int32} (hs : s < 30) (hx1 : x1.toInt = 146 + 47 * s) (h : ∀ (σ : Sg) (x : Int32), PwK σ1 σ s 5 → bM_keep_128 true NOB (wp true d) Φ (kM_keep d Φ) [.ref 120, .int x1, .int x, .retAddr 0] [] σ) :
    ∀ (n : Nat) (σ : Sg) (x : Int32), x.toInt + n = 3 → 0 ≤ x.toInt → PwK σ1 σ s (2 + ix x) → bM_keep_98 true NOB (wp true d) Φ (kM_keep d Φ) [.ref 120, .int x1, .int x, .retAddr 0] [] σ
  | 0, σ, x, hx, h0, hP => by
    simp only [pI, pL, pR, pV, i10, ↓reduceIte, eM_keep_98]
    simp only [ile, show (3 : Int32).toInt = 3 from rfl]
    rw [if_pos (by omega)]
    have : ix x = 3 := by unfold ix; omega
    rw [this] at hP
    exact h σ x hP
  | n + 1, σ, x, hx, h0, hP => by
    simp only [pI, pL, pR, pV, i10, ↓reduceIte, eM_keep_98]
    have hxx := ix_to h0
    simp only [ile, show (3 : Int32).toInt = 3 from rfl]
    rw [if_neg (by omega)]
    have a1 : (8 + x).toInt = 8 + x.toInt := tk (n := 8) rfl (by omega)
    have a1x : ix (8 + x) = 8 + ix x := ixk (n := 8) rfl (by omega)
    have a2 : (x1 + 2 + x).toInt = 146 + 47 * s + (2 + ix x : Nat) := by
      have : (x1 + 2).toInt = x1.toInt + 2 := by rw [tP (by rw [show (2 : Int32).toInt = 2 from rfl]; omega)]; rfl
      rw [tP (by rw [this]; omega), this]
      omega
    have a2x : ix (x1 + 2 + x) = 146 + 47 * s + (2 + ix x) := ix_of (by omega)
    rw [a1x, a2x]
    refine ⟨⟨by omega, by omega⟩, ⟨by omega, by omega⟩, hM_keep_98 _ _ _ _ _ (lM_keep98 hs hx1 h n _ (x + 1) ?_ ?_ ?_)⟩
    · rw [t1 (by omega)]; omega
    · rw [t1 (by omega)]; omega
    · rw [ix1 (by omega), show 2 + (ix x + 1) = 2 + ix x + 1 from by omega]
      refine hP.put hs (by omega) ?_
      show rd σ 121 (8 + ix x) = _
      rw [hP.2.1 _ (by omega)]
      unfold want
      rw [if_neg (by omega), if_pos (by omega)]
      congr 1
      omega
theorem lM_keep138 {d : Nat} {Φ : Po} {σ1 : Sg} {s : Nat} {x1 x2 : Int32} (hs : s < 30) (hx1 : x1.toInt = 146 + 47 * s) (hx2 : 0 ≤ x2.toInt ∧ x2.toInt < 6) (h : ∀ (σ : Sg) (x : Int32), PwK σ1 σ s (5 + 5 * (ix x2 + 1)) → bM_keep_171 true NOB (wp true (d + 1)) Φ (kM_keep (d + 1) Φ) [.ref 120, .int x1, .int x2, .int x] [] σ) :
    ∀ (n : Nat) (σ : Sg) (x : Int32), x.toInt + n = 5 → 0 ≤ x.toInt → PwK σ1 σ s (5 + 5 * ix x2 + ix x) → bM_keep_138 true NOB (wp true (d + 1)) Φ (kM_keep (d + 1) Φ) [.ref 120, .int x1, .int x2, .int x] [] σ
  | 0, σ, x, hx, h0, hP => by
    simp only [pI, pL, pR, pV, i10, ↓reduceIte, eM_keep_138]
    simp only [ile, show (5 : Int32).toInt = 5 from rfl]
    rw [if_pos (by omega)]
    have : ix x = 5 := by unfold ix; omega
    rw [this] at hP
    exact h σ x hP
  | n + 1, σ, x, hx, h0, hP => by
    simp only [pI, pL, pR, pV, i10, ↓reduceIte, eM_keep_138]
    have hxx := ix_to h0
    have hxx2 := ix_to hx2.1
    simp only [ile, show (5 : Int32).toInt = 5 from rfl]
    rw [if_neg (by omega)]
    have a2 : (x1 + 5 + 5 * x2 + x).toInt = 146 + 47 * s + (5 + 5 * ix x2 + ix x : Nat) := by
      simp only [ta, tm, Int32.reduceToInt]
      omega
    have a2x : ix (x1 + 5 + 5 * x2 + x) = 146 + 47 * s + (5 + 5 * ix x2 + ix x) := ix_of (by omega)
    refine sM_get (13 + 8 * ix x2 + ix x) (j := 1 + ix x) (by rw [tk (n := 1) rfl (by omega)]; omega) (by omega) hx2 (by omega) (fun v hv => ?_)
    simp only [pI, pL, pR, pV, i10, ↓reduceIte, eM_keep_164]
    rw [a2x]
    refine ⟨⟨by omega, by omega⟩, hM_keep_138 _ _ _ _ _ (lM_keep138 hs hx1 hx2 h n _ (x + 1) ?_ ?_ ?_)⟩
    · rw [t1 (by omega)]; omega
    · rw [t1 (by omega)]; omega
    · rw [ix1 (by omega), show 5 + 5 * ix x2 + (ix x + 1) = 5 + 5 * ix x2 + ix x + 1 from by omega]
      refine hP.put hs (by omega) ?_
      rw [hv, hP.2.1 _ (by omega)]
      unfold want
      rw [if_neg (by omega), if_neg (by omega), if_pos (by omega)]
      congr 1
      omega
theorem lM_keep130 {d : Nat} {Φ : Po} {σ1 : Sg} {s : Nat} {x1 : Int32} (hs : s < 30) (hx1 : x1.toInt = 146 + 47 * s) (h : ∀ (σ : Sg) (x : Int32) (v3 : Value), PwK σ1 σ s 35 → bM_keep_177 true NOB (wp true (d + 1)) Φ (kM_keep (d + 1) Φ) [.ref 120, .int x1, .int x, v3] [] σ) :
    ∀ (n : Nat) (σ : Sg) (x : Int32) (v3 : Value), x.toInt + n = 6 → 0 ≤ x.toInt → PwK σ1 σ s (5 + 5 * ix x) → bM_keep_130 true NOB (wp true (d + 1)) Φ (kM_keep (d + 1) Φ) [.ref 120, .int x1, .int x, v3] [] σ
  | 0, σ, x, v3, hx, h0, hP => by
    simp only [pI, pL, pR, pV, i10, ↓reduceIte, eM_keep_130]
    simp only [ile, show (6 : Int32).toInt = 6 from rfl]
    rw [if_pos (by omega)]
    have : ix x = 6 := by unfold ix; omega
    rw [this] at hP
    exact h σ x v3 hP
  | n + 1, σ, x, v3, hx, h0, hP => by
    simp only [pI, pL, pR, pV, i10, ↓reduceIte, eM_keep_130]
    simp only [ile, show (6 : Int32).toInt = 6 from rfl]
    rw [if_neg (by omega)]
    refine lM_keep138 hs hx1 ⟨h0, by omega⟩ (fun σ2 x3 hP2 => ?_) 5 σ 0 rfl (by decide) hP
    simp only [pI, pL, pR, pV, i10, ↓reduceIte, eM_keep_171]
    refine hM_keep_130 _ _ _ _ _ (lM_keep130 hs hx1 h n σ2 (x + 1) _ ?_ ?_ ?_)
    · rw [t1 (by omega)]; omega
    · rw [t1 (by omega)]; omega
    · rw [ix1 (by omega)]; exact hP2
theorem lM_keep187 {d : Nat} {Φ : Po} {σ1 : Sg} {s : Nat} {x1 x2 : Int32} (hs : s < 30) (hx1 : x1.toInt = 146 + 47 * s) (hx2 : 0 ≤ x2.toInt ∧ x2.toInt < 6) (h : ∀ (σ : Sg) (x : Int32), PwK σ1 σ s (35 + 2 * (ix x2 + 1)) → bM_keep_221 true NOB (wp true (d + 1)) Φ (kM_keep (d + 1) Φ) [.ref 120, .int x1, .int x2, .int x] [] σ) :
    ∀ (n : Nat) (σ : Sg) (x : Int32), x.toInt + n = 2 → 0 ≤ x.toInt → PwK σ1 σ s (35 + 2 * ix x2 + ix x) → bM_keep_187 true NOB (wp true (d + 1)) Φ (kM_keep (d + 1) Φ) [.ref 120, .int x1, .int x2, .int x] [] σ
  | 0, σ, x, hx, h0, hP => by
    simp only [pI, pL, pR, pV, i10, ↓reduceIte, eM_keep_187]
    simp only [ile, show (2 : Int32).toInt = 2 from rfl]
    rw [if_pos (by omega)]
    have : ix x = 2 := by unfold ix; omega
    rw [this] at hP
    exact h σ x hP
  | n + 1, σ, x, hx, h0, hP => by
    simp only [pI, pL, pR, pV, i10, ↓reduceIte, eM_keep_187]
    have hxx := ix_to h0
    have hxx2 := ix_to hx2.1
    simp only [ile, show (2 : Int32).toInt = 2 from rfl]
    rw [if_neg (by omega)]
    have a2 : (x1 + 35 + 2 * x2 + x).toInt = 146 + 47 * s + (35 + 2 * ix x2 + ix x : Nat) := by
      simp only [ta, tm, Int32.reduceToInt]
      omega
    have a2x : ix (x1 + 35 + 2 * x2 + x) = 146 + 47 * s + (35 + 2 * ix x2 + ix x) := ix_of (by omega)
    refine sM_of (61 + 4 * ix x2 + ix x) (j := 1 + ix x) (by rw [tk (n := 1) rfl (by omega)]; omega) (by omega) hx2 (by omega) (fun v hv => ?_)
    simp only [pI, pL, pR, pV, i10, ↓reduceIte, eM_keep_214]
    rw [a2x]
    refine ⟨⟨by omega, by omega⟩, hM_keep_187 _ _ _ _ _ (lM_keep187 hs hx1 hx2 h n _ (x + 1) ?_ ?_ ?_)⟩
    · rw [t1 (by omega)]; omega
    · rw [t1 (by omega)]; omega
    · rw [ix1 (by omega), show 35 + 2 * ix x2 + (ix x + 1) = 35 + 2 * ix x2 + ix x + 1 from by omega]
      refine hP.put hs (by omega) ?_
      rw [hv, hP.2.1 _ (by omega)]
      unfold want
      rw [if_neg (by omega), if_neg (by omega), if_neg (by omega)]
      congr 1
      omega
theorem lM_keep179 {d : Nat} {Φ : Po} {σ1 : Sg} {s : Nat} {x1 : Int32} (hs : s < 30) (hx1 : x1.toInt = 146 + 47 * s) (h : ∀ (σ : Sg) (x : Int32) (v3 : Value), PwK σ1 σ s 47 → bM_keep_227 true NOB (wp true (d + 1)) Φ (kM_keep (d + 1) Φ) [.ref 120, .int x1, .int x, v3] [] σ) :
    ∀ (n : Nat) (σ : Sg) (x : Int32) (v3 : Value), x.toInt + n = 6 → 0 ≤ x.toInt → PwK σ1 σ s (35 + 2 * ix x) → bM_keep_179 true NOB (wp true (d + 1)) Φ (kM_keep (d + 1) Φ) [.ref 120, .int x1, .int x, v3] [] σ
  | 0, σ, x, v3, hx, h0, hP => by
    simp only [pI, pL, pR, pV, i10, ↓reduceIte, eM_keep_179]
    simp only [ile, show (6 : Int32).toInt = 6 from rfl]
    rw [if_pos (by omega)]
    have : ix x = 6 := by unfold ix; omega
    rw [this] at hP
    exact h σ x v3 hP
  | n + 1, σ, x, v3, hx, h0, hP => by
    simp only [pI, pL, pR, pV, i10, ↓reduceIte, eM_keep_179]
    simp only [ile, show (6 : Int32).toInt = 6 from rfl]
    rw [if_neg (by omega)]
    refine lM_keep187 hs hx1 ⟨h0, by omega⟩ (fun σ2 x3 hP2 => ?_) 2 σ 0 rfl (by decide) hP
    simp only [pI, pL, pR, pV, i10, ↓reduceIte, eM_keep_221]
    refine hM_keep_179 _ _ _ _ _ (lM_keep179 hs hx1 h n σ2 (x + 1) _ ?_ ?_ ?_)
    · rw [t1 (by omega)]; omega
    · rw [t1 (by omega)]; omega
    · rw [ix1 (by omega)]; exact hP2
/-- behind the shift: slot s is written -/
theorem keep_slot {d : Nat} {Φ : Po} {σ1 : Sg} {s : Nat} {v1 : Value} (hs : s < 30) (h4 : rd σ1 121 4 = s) (h : ∀ σ : Sg, PwK σ1 σ s 47 → Φ none (sI σ 121 4 (gI σ 121 4 + 1))) : bM_keep_56 true NOB (wp true (d + 1)) Φ (kM_keep (d + 1) Φ) [.ref 120, v1, .retAddr 0, .retAddr 0] [] σ1 := by
  simp only [pI, pL, pR, pV, i10, ↓reduceIte, eM_keep_56]
  have e4 : (gI σ1 121 (ix 4)).toInt = s := h4
  have a1 : (146 + 47 * gI σ1 121 (ix 4)).toInt = 146 + 47 * s := by
    simp only [ta, tm, Int32.reduceToInt, e4]
    omega
  have a1x : ix (146 + 47 * gI σ1 121 (ix 4)) = 146 + 47 * s := ix_of (by omega)
  have a2 : (146 + 47 * gI σ1 121 (ix 4) + 1).toInt = 146 + 47 * s + 1 := by rw [t1 (by omega), a1]
  have a2x : ix (146 + 47 * gI σ1 121 (ix 4) + 1) = 146 + 47 * s + 1 := ix_of (by omega)
  rw [a1x, a2x, show ix 0 = 0 from rfl, show ix 1 = 1 from rfl]
  refine ⟨⟨by decide, by decide⟩, ⟨by decide, by decide⟩, ⟨by omega, by omega⟩, ⟨by decide, by decide⟩, ⟨by omega, by omega⟩, ?_⟩
  have P0 : PwK σ1 σ1 s 0 := ⟨Fr.rf, fun _ _ => rfl, fun e he => by omega⟩
  have P1 : PwK σ1 (sI σ1 121 (146 + 47 * s + 0) (gI σ1 121 0)) s 1 := P0.put hs (by omega) rfl
  have P2 : PwK σ1 (sI (sI σ1 121 (146 + 47 * s + 0) (gI σ1 121 0)) 121 (146 + 47 * s + 1) (gI (sI σ1 121 (146 + 47 * s + 0) (gI σ1 121 0)) 121 1)) s 2 := P1.put hs (by omega) (by
    rw [gIne2 (by omega)]
    rfl)
  refine lM_keep98 hs a1 (fun σ x hP => ?_) 3 _ 0 rfl (by decide) P2
  simp only [pI, pL, pR, pV, i10, ↓reduceIte, eM_keep_128]
  refine lM_keep130 hs a1 (fun σ x v3 hP => ?_) 6 σ 0 _ rfl (by decide) hP
  simp only [pI, pL, pR, pV, i10, ↓reduceIte, eM_keep_177]
  refine lM_keep179 hs a1 (fun σ x v3 hP => ?_) 6 σ 0 _ rfl (by decide) hP
  simp only [pI, pL, pR, pV, i10, ↓reduceIte, eM_keep_227]
  exact ⟨⟨by decide, by decide⟩, ⟨by decide, by decide⟩, h σ hP⟩
theorem lM_shift {d : Nat} {Φ : Po} {σ0 : Sg} (h : ∀ (σ : Sg) (x : Int32), Fr [(121, 4, 5), (121, 146, 1556)] σ0 σ → (∀ k, k < 1363 → rd σ 121 (146 + k) = rd σ0 121 (193 + k)) → rd σ 121 4 = rd σ0 121 4 → bM_keep_46 true NOB (wp true d) Φ (kM_keep d Φ) [.ref 120, .int x, .retAddr 0, .retAddr 0] [] σ) :
    ∀ (n : Nat) (σ : Sg) (x : Int32), x.toInt + n = 1363 → 0 ≤ x.toInt → Fr [(121, 4, 5), (121, 146, 1556)] σ0 σ → (∀ k : Nat, k < 1363 → (k : Int) < x.toInt → rd σ 121 (146 + k) = rd σ0 121 (193 + k)) → (∀ k : Nat, (k : Int) < 146 ∨ x.toInt + 146 ≤ k → rd σ 121 k = rd σ0 121 k) → bM_keep_13 true NOB (wp true d) Φ (kM_keep d Φ) [.ref 120, .int x, .retAddr 0, .retAddr 0] [] σ
  | 0, σ, x, hx, h0, hF, h1, h2 => by
    simp only [pI, pL, pR, pV, i10, ↓reduceIte, eM_keep_13]
    simp only [ile, show (1363 : Int32).toInt = 1363 from rfl]
    rw [if_pos (by omega)]
    exact h σ x hF (fun k hk => h1 k hk (by omega)) (h2 4 (Or.inl (by omega)))
  | n + 1, σ, x, hx, h0, hF, h1, h2 => by
    simp only [pI, pL, pR, pV, i10, ↓reduceIte, eM_keep_13]
    have hxx := ix_to h0
    simp only [ile, show (1363 : Int32).toInt = 1363 from rfl]
    rw [if_neg (by omega)]
    have a1 : (193 + x).toInt = 193 + x.toInt := tk (n := 193) rfl (by omega)
    have a1x : ix (193 + x) = 193 + ix x := ixk (n := 193) rfl (by omega)
    have a2 : (146 + x).toInt = 146 + x.toInt := tk (n := 146) rfl (by omega)
    have a2x : ix (146 + x) = 146 + ix x := ixk (n := 146) rfl (by omega)
    rw [a1x, a2x]
    refine ⟨⟨by omega, by omega⟩, ⟨by omega, by omega⟩, hM_keep_13 _ _ _ _ _ (lM_shift h n _ (x + 1) ?_ ?_ (hF.tr (Fr.sI (inS_r (lo := 146) (hi := 1556) (by simp) (by omega)))) (fun k hk k2 => ?_) (fun k hk => ?_))⟩
    · rw [t1 (by omega)]; omega
    · rw [t1 (by omega)]; omega
    · rw [t1 (by omega)] at k2
      by_cases e : k = ix x
      · subst e
        rw [rdeq]
        exact h2 _ (Or.inr (by omega))
      · rw [rdne2 (by omega)]
        exact h1 k hk (by omega)
    · rw [t1 (by omega)] at hk
      rw [rdne2 (by omega)]
      exact h2 k (by omega)
theorem want_of {σ σ' : Sg} (h : ∀ k, k < 146 → k ≠ 4 → rd σ' 121 k = rd σ 121 k) (e : Nat) (he : e < 47) : want σ' e = want σ e := by
  unfold want
  by_cases a1 : e < 2
  · rw [if_pos a1, if_pos a1, h _ (by omega) (by omega)]
  rw [if_neg a1, if_neg a1]
  by_cases a2 : e < 5
  · rw [if_pos a2, if_pos a2, h _ (by omega) (by omega)]
  rw [if_neg a2, if_neg a2]
  by_cases a3 : e < 35
  · rw [if_pos a3, if_pos a3, h _ (by omega) (by omega)]
  rw [if_neg a3, if_neg a3, h _ (by omega) (by omega)]
theorem sM_keep {d : Nat} {Φ : Po} {σ : Sg} (hs : 0 ≤ rd σ 121 4 ∧ rd σ 121 4 ≤ 30) (h : ∀ σ' : Sg, KeepM σ σ' → Φ none σ') : wp true (d + 2) nM_keep [.ref 120] σ Φ := by
  apply wM_keep
  simp only [pI, pL, pR, pV, i10, ↓reduceIte, eM_keep_0]
  have e4 : (gI σ 121 (ix 4)).toInt = rd σ 121 4 := rfl
  have cd : (gI σ 121 (ix 4) = 30) = (rd σ 121 4 = 30) := by rw [ieq, e4]; rfl
  simp only [cd]
  refine ⟨⟨by decide, by decide⟩, ?_⟩
  split
  next z =>
    refine lM_shift (fun σ1 x hF h1 h4 => ?_) 1363 σ 0 rfl (by decide) Fr.rf (fun k _ k2 => by rw [tl0] at k2; omega) (fun _ _ => rfl)
    simp only [pI, pL, pR, pV, i10, ↓reduceIte, eM_keep_46]
    refine ⟨⟨by decide, by decide⟩, ⟨by decide, by decide⟩, ?_⟩
    have e41 : (gI σ1 121 4).toInt = 30 := by
      show rd σ1 121 4 = 30
      rw [h4, z]
    have e5 : (gI σ1 121 4 - 1).toInt = 29 := by rw [tM (by rw [e41, tl1]; omega), e41]; rfl
    refine keep_slot (s := 29) (by omega) (by rw [show ix 4 = 4 from rfl, rdeq, e5]; rfl) (fun σ2 hP => ?_)
    obtain ⟨p1, p2, p3⟩ := hP
    have q4 : (gI σ2 121 4).toInt = 29 := by
      show rd σ2 121 4 = 29
      rw [p2 4 (by omega), show ix 4 = 4 from rfl, rdeq, e5]
    have low : ∀ k, k < 146 → k ≠ 4 → rd (sI σ1 121 (ix 4) (gI σ1 121 (ix 4) - 1)) 121 k = rd σ 121 k := fun k hk hne => by
      rw [show ix 4 = 4 from rfl, rdne2 hne]
      exact hF.rd (by
        unfold inS
        simp only [List.any_cons, List.any_nil, Bool.or_false, Bool.or_eq_false_iff, Bool.and_eq_false_iff]
        refine ⟨Or.inr ?_, Or.inr (Or.inl (nble (by omega)))⟩
        rcases Nat.lt_or_ge k 4 with g | g
        · exact Or.inl (nble g)
        · exact Or.inr (nble (by omega)))
    have n4 : (gI σ2 121 4 + 1).toInt = 30 := by rw [t1 (by omega), q4]; rfl
    refine h _ ⟨(hF.tr ((Fr.sI (by decide)).tr p1)).tr (Fr.sI (by decide)), ?_, fun j k hj hk => ?_, fun e he => ?_⟩
    · rw [rdeq, n4, z]; rfl
    · rw [rdeq, n4] at hj
      rw [rdne2 (by omega), p2 _ (by omega), show ix 4 = 4 from rfl, rdne2 (by omega), if_pos z]
      have := h1 (47 * j + k) (by omega)
      rw [show 146 + (47 * j + k) = 146 + 47 * j + k from by omega, show 193 + (47 * j + k) = 146 + 47 * (j + 1) + k from by omega] at this
      exact this
    · rw [rdeq, n4, show ((30 : Int) - 1).toNat = 29 from rfl, rdne2 (by omega), p3 e he]
      exact want_of low e he
  next z =>
    refine keep_slot (s := (rd σ 121 4).toNat) (by omega) (by omega) (fun σ2 hP => ?_)
    obtain ⟨p1, p2, p3⟩ := hP
    have q4 : (gI σ2 121 4).toInt = rd σ 121 4 := p2 4 (by omega)
    have n4 : (gI σ2 121 4 + 1).toInt = rd σ 121 4 + 1 := by rw [t1 (by omega), q4]
    refine h _ ⟨p1.tr (Fr.sI (by decide)), ?_, fun j k hj hk => ?_, fun e he => ?_⟩
    · rw [rdeq, n4]; omega
    · rw [rdeq, n4] at hj
      rw [rdne2 (by omega), p2 _ (by omega), if_neg z]
      rfl
    · rw [rdeq, n4, show (rd σ 121 4 + 1 - 1).toNat = (rd σ 121 4).toNat from by omega, rdne2 (by omega)]
      exact p3 e he
