/-! A STEP IS TAKEN BACK -/
abbrev FU : Ls := [(121, 4, 5), (121, 10, 11)] ++ FMk
def Dn (w v k : Nat) : Prop := k = 42 ∨ k = 43 ∨ k < w ∨ (6 ≤ k ∧ k < 6 + w) ∨ (12 ≤ k ∧ k < 12 + w) ∨ (18 ≤ k ∧ k < 18 + w) ∨ (24 ≤ k ∧ k < 24 + w) ∨ (30 ≤ k ∧ k < 30 + v) ∨ (36 ≤ k ∧ k < 36 + v)
/-- winds below w and villages below v are as behind taking step j back -/
def UnP (σ0 σ : Sg) (j w v : Nat) : Prop := Fr FU σ0 σ ∧ rd σ 121 4 = j ∧ rd σ 121 10 = rd σ0 121 (150 + 47 * j) ∧ (∀ k, k < 44 → Dn w v k → mc σ 121 k = ks σ0 121 j k) ∧ (∀ k, k < 44 → ¬ Dn w v k → mc σ 121 k = mc σ0 121 k)
theorem FU_in : ∀ k, k < 44 → inS FU 121 (mix k) = true := by decide
theorem FU_hi {k : Nat} (h : 84 ≤ k) : inS FU 121 k = false := not_inS (fun e he z => by
  have : ∀ e, e ∈ FU → e.2.2 ≤ 84 := by decide
  have := this e he
  omega)
theorem FU_told : ∀ w : Nat, w < 6 → inS FU 121 (12 + 8 * w) = false ∧ inS FU 121 (18 + 8 * w) = false ∧ inS FU 121 (19 + 8 * w) = false ∧ inS FU 121 (60 + 4 * w) = false ∧ inS FU 121 (63 + 4 * w) = false := by decide
theorem FU_low : ∀ k, k < 8 → k ≠ 4 → inS FU 121 k = false := by decide
/-- one core cell is set -/
theorem UnC {σ0 σ : Sg} {n k : Nat} {v : Int32} (hF : Fr FU σ0 σ) (hk : k < 44) (hn : n = mix k) : Fr FU σ0 (sI σ 121 n v) ∧ mc (sI σ 121 n v) 121 = upc (mc σ 121) k v.toInt ∧ (rd σ 121 4 = rd σ 121 4 → rd (sI σ 121 n v) 121 4 = rd σ 121 4 ∧ rd (sI σ 121 n v) 121 10 = rd σ 121 10) := by
  have m4 : ∀ k, k < 44 → mix k ≠ 4 ∧ mix k ≠ 10 := by decide
  refine ⟨hF.tr (Fr.sI (by rw [hn]; exact FU_in k hk)), mc_sI hk hn, fun _ => ⟨rdne2 ?_, rdne2 ?_⟩⟩
  · rw [hn]; exact fun e => (m4 k hk).1 e.symm
  · rw [hn]; exact fun e => (m4 k hk).2 e.symm
theorem slot_rd {σ0 σ : Sg} {j e : Nat} (hF : Fr FU σ0 σ) (hj : j < 30) (he : e < 47) : rd σ 121 (146 + 47 * j + e) = rd σ0 121 (146 + 47 * j + e) := hF.rd (FU_hi (by omega))
theorem ks_k {σ : Sg} {j k : Nat} (h : 42 ≤ k ∧ k < 44) : ks σ 121 j k = rd σ 121 (146 + 47 * j + (k - 40)) := by
  unfold ks
  rw [if_neg (by omega), if_neg (by omega), if_neg (by omega), if_neg (by omega), if_neg (by omega), if_neg (by omega), if_neg (by omega), if_pos (by omega)]
  congr 1
  omega
/-- ks by its winds and villages -/
theorem ks_tab {σ : Sg} {j : Nat} : (∀ w : Nat, w < 6 → (w : Int) < rd σ 121 (146 + 47 * j) → (ks σ 121 j (12 + w) = rd σ 121 (146 + 47 * j + (5 + 5 * w + 0)) ∧ ks σ 121 j (18 + w) = rd σ 121 (146 + 47 * j + (5 + 5 * w + 1)) ∧ ks σ 121 j w = rd σ 121 (146 + 47 * j + (5 + 5 * w + 2)) ∧ ks σ 121 j (6 + w) = rd σ 121 (146 + 47 * j + (5 + 5 * w + 3)) ∧ ks σ 121 j (24 + w) = rd σ 121 (146 + 47 * j + (5 + 5 * w + 4)))) ∧ (∀ w : Nat, w < 6 → ¬ (w : Int) < rd σ 121 (146 + 47 * j) → (ks σ 121 j (12 + w) = rd σ 121 (18 + 8 * w) ∧ ks σ 121 j (18 + w) = rd σ 121 (19 + 8 * w) ∧ ks σ 121 j w = 0 ∧ ks σ 121 j (6 + w) = 0 ∧ ks σ 121 j (24 + w) = 0)) ∧ (∀ v : Nat, v < 6 → ((v : Int) < rd σ 121 (147 + 47 * j) → ks σ 121 j (30 + v) = rd σ 121 (146 + 47 * j + (35 + 2 * v)) ∧ ks σ 121 j (36 + v) = rd σ 121 (146 + 47 * j + (36 + 2 * v))) ∧ (¬ (v : Int) < rd σ 121 (147 + 47 * j) → ks σ 121 j (30 + v) = rd σ 121 (63 + 4 * v) ∧ ks σ 121 j (36 + v) = 0)) ∧ ks σ 121 j 42 = rd σ 121 (146 + 47 * j + 2) ∧ ks σ 121 j 43 = rd σ 121 (146 + 47 * j + 3) := by
  refine ⟨fun w hw q => ?_, fun w hw q => ?_, fun v hv => ⟨fun q => ?_, fun q => ?_⟩, ?_, ?_⟩
  · refine ⟨?_, ?_, ?_, ?_, ?_⟩ <;> unfold ks
    · rw [if_neg (by omega), if_neg (by omega), if_pos (by omega), show 12 + w - 12 = w from by omega, if_pos q]; congr 1; omega
    · rw [if_neg (by omega), if_neg (by omega), if_neg (by omega), if_pos (by omega), show 18 + w - 18 = w from by omega, if_pos q]; congr 1; omega
    · rw [if_pos (by omega), if_pos q]; congr 1; omega
    · rw [if_neg (by omega), if_pos (by omega), show 6 + w - 6 = w from by omega, if_pos q]; congr 1; omega
    · rw [if_neg (by omega), if_neg (by omega), if_neg (by omega), if_neg (by omega), if_pos (by omega), show 24 + w - 24 = w from by omega, if_pos q]; congr 1; omega
  · refine ⟨?_, ?_, ?_, ?_, ?_⟩ <;> unfold ks
    · rw [if_neg (by omega), if_neg (by omega), if_pos (by omega), show 12 + w - 12 = w from by omega, if_neg q]
    · rw [if_neg (by omega), if_neg (by omega), if_neg (by omega), if_pos (by omega), show 18 + w - 18 = w from by omega, if_neg q]
    · rw [if_pos (by omega), if_neg q]
    · rw [if_neg (by omega), if_pos (by omega), show 6 + w - 6 = w from by omega, if_neg q]
    · rw [if_neg (by omega), if_neg (by omega), if_neg (by omega), if_neg (by omega), if_pos (by omega), show 24 + w - 24 = w from by omega, if_neg q]
  · refine ⟨?_, ?_⟩ <;> unfold ks
    · rw [if_neg (by omega), if_neg (by omega), if_neg (by omega), if_neg (by omega), if_neg (by omega), if_pos (by omega), show 30 + v - 30 = v from by omega, if_pos q]; congr 1; omega
    · rw [if_neg (by omega), if_neg (by omega), if_neg (by omega), if_neg (by omega), if_neg (by omega), if_neg (by omega), if_pos (by omega), show 36 + v - 36 = v from by omega, if_pos q]; congr 1; omega
  · refine ⟨?_, ?_⟩ <;> unfold ks
    · rw [if_neg (by omega), if_neg (by omega), if_neg (by omega), if_neg (by omega), if_neg (by omega), if_pos (by omega), show 30 + v - 30 = v from by omega, if_neg q]
    · rw [if_neg (by omega), if_neg (by omega), if_neg (by omega), if_neg (by omega), if_neg (by omega), if_neg (by omega), if_pos (by omega), show 36 + v - 36 = v from by omega, if_neg q]
  · exact ks_k (by omega)
  · exact ks_k (by omega)
/-- five cells of a wind are set -/
theorem Un5 {σ0 σ σ' : Sg} {j w v : Nat} (hw : w < 6) (h : UnP σ0 σ j w v) (hF : Fr FU σ0 σ') (h4 : rd σ' 121 4 = rd σ 121 4 ∧ rd σ' 121 10 = rd σ 121 10) (hs : ∀ k, k < 44 → (k = 12 + w ∨ k = 18 + w ∨ k = w ∨ k = 6 + w ∨ k = 24 + w) → mc σ' 121 k = ks σ0 121 j k) (ho : ∀ k, k < 44 → ¬ (k = 12 + w ∨ k = 18 + w ∨ k = w ∨ k = 6 + w ∨ k = 24 + w) → mc σ' 121 k = mc σ 121 k) : UnP σ0 σ' j (w + 1) v := by
  obtain ⟨h1, h2, h3, h5, h6⟩ := h
  refine ⟨hF, by rw [h4.1]; exact h2, by rw [h4.2]; exact h3, fun k hk q => ?_, fun k hk q => ?_⟩
  · by_cases z : k = 12 + w ∨ k = 18 + w ∨ k = w ∨ k = 6 + w ∨ k = 24 + w
    · exact hs k hk z
    · rw [ho k hk z]
      refine h5 k hk ?_
      unfold Dn at *
      omega
  · have z : ¬ (k = 12 + w ∨ k = 18 + w ∨ k = w ∨ k = 6 + w ∨ k = 24 + w) := by
      unfold Dn at q
      omega
    rw [ho k hk z]
    refine h6 k hk ?_
    unfold Dn at *
    omega
theorem un96 {d : Nat} {Φ : Po} {σ0 σ : Sg} {j w f cell : Nat} {x1 x2 x3 : Int32} (hj : j < 30) (hx1 : x1.toInt = 146 + 47 * j) (hx2 : x2.toInt = w) (hw : w < 6) (hx3 : x3.toInt = f) (hf : f < 5) (hF : Fr FU σ0 σ) (hn : (w : Int) < rd σ0 121 (146 + 47 * j)) (hc : cell < 44) (hm : 13 + 8 * w + f = mix cell) (hT : ks σ0 121 j cell = rd σ0 121 (146 + 47 * j + (5 + 5 * w + f))) (next : ∀ σ' : Sg, Fr FU σ0 σ' → (rd σ' 121 4 = rd σ 121 4 ∧ rd σ' 121 10 = rd σ 121 10) → mc σ' 121 = upc (mc σ 121) cell (ks σ0 121 j cell) → bM_undo_96 true NOB (wp true (d + 1)) Φ (kM_undo (d + 1) Φ) [.ref 120, .int x1, .int x2, .int (x3 + 1)] [] σ') : bM_undo_96 true NOB (wp true (d + 1)) Φ (kM_undo (d + 1) Φ) [.ref 120, .int x1, .int x2, .int x3] [] σ := by
  simp only [pI, pL, pR, pV, i10, ↓reduceIte, eM_undo_96]
  have e0 : ix x1 = 146 + 47 * j := ix_of (by omega)
  have es : (gI σ 121 (146 + 47 * j)).toInt = rd σ0 121 (146 + 47 * j) := slot_rd (e := 0) hF hj (by omega)
  have a2 : (x1 + 5 + 5 * x2 + x3).toInt = 146 + 47 * j + (5 + 5 * w + f : Nat) := by
    simp only [ta, tm, Int32.reduceToInt]
    omega
  have a2x : ix (x1 + 5 + 5 * x2 + x3) = 146 + 47 * j + (5 + 5 * w + f) := ix_of (by omega)
  have xw : ix x2 = w := ix_of hx2
  rw [e0, a2x]
  simp only [ile, ile, es, hx3, hx2, show (5 : Int32).toInt = 5 from rfl]
  rw [if_neg (by omega)]
  refine ⟨⟨by omega, by omega⟩, ?_⟩
  rw [if_neg (by omega)]
  refine ⟨⟨by omega, by omega⟩, ?_⟩
  refine sM_put (13 + 8 * w + f) (j := 1 + f) (by rw [tk (n := 1) rfl (by omega)]; omega) (by rw [xw]; omega) (by omega) (by omega) ?_
  simp only [pI, pL, pR, pV, i10, ↓reduceIte, eM_undo_133]
  obtain ⟨u1, u2, u3⟩ := UnC (v := gI σ 121 (146 + 47 * j + (5 + 5 * w + f))) hF hc hm
  refine hM_undo_96 _ _ _ _ _ (next _ u1 (u3 rfl) ?_)
  rw [u2, hT]
  congr 1
  exact slot_rd hF hj (by omega)
theorem un94 {d : Nat} {Φ : Po} {σ0 σ : Sg} {j w v : Nat} {x1 x2 : Int32} {v3 : Value} (hj : j < 30) (hx1 : x1.toInt = 146 + 47 * j) (hx2 : x2.toInt = w) (hw : w < 6) (hP : UnP σ0 σ j w v) (hn : (w : Int) < rd σ0 121 (146 + 47 * j)) (next : ∀ (σ' : Sg) (x : Int32), UnP σ0 σ' j (w + 1) v → bM_undo_139 true NOB (wp true (d + 1)) Φ (kM_undo (d + 1) Φ) [.ref 120, .int x1, .int x2, .int x] [] σ') : bM_undo_94 true NOB (wp true (d + 1)) Φ (kM_undo (d + 1) Φ) [.ref 120, .int x1, .int x2, v3] [] σ := by
  simp only [pI, pL, pR, pV, i10, ↓reduceIte, eM_undo_94]
  obtain ⟨k1, k2, k3, k4, k5⟩ := ks_tab.1 w hw hn
  refine un96 (cell := 12 + w) hj hx1 hx2 hw (f := 0) rfl (by omega) hP.1 hn (by omega) (by rw [mix_w hw]; omega) k1 (fun s1 f1 q1 c1 => ?_)
  refine un96 (cell := 18 + w) hj hx1 hx2 hw (f := 1) rfl (by omega) f1 hn (by omega) (by rw [mix_d hw]; omega) k2 (fun s2 f2 q2 c2 => ?_)
  refine un96 (cell := w) hj hx1 hx2 hw (f := 2) rfl (by omega) f2 hn (by omega) (by rw [mix_o hw]; omega) k3 (fun s3 f3 q3 c3 => ?_)
  refine un96 (cell := 6 + w) hj hx1 hx2 hw (f := 3) rfl (by omega) f3 hn (by omega) (by rw [mix_f hw]; omega) k4 (fun s4 f4 q4 c4 => ?_)
  refine un96 (cell := 24 + w) hj hx1 hx2 hw (f := 4) rfl (by omega) f4 hn (by omega) (by rw [mix_g hw]; omega) k5 (fun s5 f5 q5 c5 => ?_)
  simp only [pI, pL, pR, pV, i10, ↓reduceIte, eM_undo_96]
  rw [if_pos (by decide)]
  refine next s5 _ (Un5 hw hP f5 ⟨by rw [q5.1, q4.1, q3.1, q2.1, q1.1], by rw [q5.2, q4.2, q3.2, q2.2, q1.2]⟩ (fun k hk z => ?_) (fun k hk z => ?_))
  · rw [c5, c4, c3, c2, c1]
    rcases z with rfl | rfl | rfl | rfl | rfl
    · rw [upc_ne (by omega), upc_ne (by omega), upc_ne (by omega), upc_ne (by omega), upc_eq]
    · rw [upc_ne (by omega), upc_ne (by omega), upc_ne (by omega), upc_eq]
    · rw [upc_ne (by omega), upc_ne (by omega), upc_eq]
    · rw [upc_ne (by omega), upc_eq]
    · rw [upc_eq]
  · rw [c5, c4, c3, c2, c1, upc_ne (by omega), upc_ne (by omega), upc_ne (by omega), upc_ne (by omega), upc_ne (by omega)]
theorem sM_begin {d : Nat} {Φ : Po} {σ : Sg} {w : Int32} (hw : 0 ≤ w.toInt ∧ w.toInt < 6) (h : ∀ σ' : Sg, Fr FMk σ σ' → mc σ' 121 = upc (upc (upc (upc (upc (mc σ 121) (12 + ix w) (rd σ 121 (18 + 8 * ix w))) (18 + ix w) (rd σ 121 (19 + 8 * ix w))) (ix w) 0) (6 + ix w) 0) (24 + ix w) 0 → Φ none σ') : wp true (d + 2) nM_begin [.ref 120, .int w] σ Φ := by
  have inMk : ∀ k, k < 44 → inS FMk 121 (mix k) = true := by decide
  have told : ∀ w, w < 6 → inS FMk 121 (19 + 8 * w) = false := by decide
  have hw6 := ix6 hw
  apply wM_begin
  simp only [pI, pL, pR, pV, i10, ↓reduceIte, eM_begin_0]
  refine sM_get (18 + 8 * ix w) (j := 6) rfl (by omega) hw (by omega) (fun a ha => ?_)
  simp only [pI, pL, pR, pV, i10, ↓reduceIte, eM_begin_0, eM_begin_10, eM_begin_13, eM_begin_23, eM_begin_26, eM_begin_33, eM_begin_40, eM_begin_47]
  refine sM_putW hw (fun s1 e1 c1 => ?_)
  simp only [pI, pL, pR, pV, i10, ↓reduceIte, eM_begin_0, eM_begin_10, eM_begin_13, eM_begin_23, eM_begin_26, eM_begin_33, eM_begin_40, eM_begin_47]
  refine sM_get (19 + 8 * ix w) (j := 7) rfl (by omega) hw (by omega) (fun b hb => ?_)
  simp only [pI, pL, pR, pV, i10, ↓reduceIte, eM_begin_0, eM_begin_10, eM_begin_13, eM_begin_23, eM_begin_26, eM_begin_33, eM_begin_40, eM_begin_47]
  refine sM_putD hw (fun s2 e2 c2 => ?_)
  simp only [pI, pL, pR, pV, i10, ↓reduceIte, eM_begin_0, eM_begin_10, eM_begin_13, eM_begin_23, eM_begin_26, eM_begin_33, eM_begin_40, eM_begin_47]
  refine sM_putO hw (fun s3 e3 c3 => ?_)
  simp only [pI, pL, pR, pV, i10, ↓reduceIte, eM_begin_0, eM_begin_10, eM_begin_13, eM_begin_23, eM_begin_26, eM_begin_33, eM_begin_40, eM_begin_47]
  refine sM_putF hw (fun s4 e4 c4 => ?_)
  simp only [pI, pL, pR, pV, i10, ↓reduceIte, eM_begin_0, eM_begin_10, eM_begin_13, eM_begin_23, eM_begin_26, eM_begin_33, eM_begin_40, eM_begin_47]
  refine sM_putG hw (fun s5 e5 c5 => ?_)
  simp only [pI, pL, pR, pV, i10, ↓reduceIte, eM_begin_0, eM_begin_10, eM_begin_13, eM_begin_23, eM_begin_26, eM_begin_33, eM_begin_40, eM_begin_47]
  have f1 : Fr FMk σ s1 := by rw [e1, ← mix_w hw6]; exact Fr.sI (inMk _ (by omega))
  refine h s5 ?_ ?_
  · rw [e5, e4, e3, e2, ← mix_d hw6, ← mix_o hw6, ← mix_f hw6, ← mix_g hw6]
    exact (((f1.tr (Fr.sI (inMk _ (by omega)))).tr (Fr.sI (inMk _ (by omega)))).tr (Fr.sI (inMk _ (by omega)))).tr (Fr.sI (inMk _ (by omega)))
  · rw [c5, c4, c3, c2, c1, ha, hb, f1.rd (told _ hw6)]
    rfl
theorem lM_undo69 {d : Nat} {Φ : Po} {σ0 : Sg} {j n : Nat} {x1 : Int32} (hj : j < 30) (hx1 : x1.toInt = 146 + 47 * j) (hn : rd σ0 121 0 = n ∧ n ≤ 6) (h : ∀ (σ : Sg) (x : Int32) (v3 : Value), UnP σ0 σ j n 0 → bM_undo_145 true NOB (wp true (d + 2)) Φ (kM_undo (d + 2) Φ) [.ref 120, .int x1, .int x, v3] [] σ) :
    ∀ (m w : Nat) (σ : Sg) (x : Int32) (v3 : Value), w + m = n → x.toInt = w → UnP σ0 σ j w 0 → bM_undo_69 true NOB (wp true (d + 2)) Φ (kM_undo (d + 2) Φ) [.ref 120, .int x1, .int x, v3] [] σ := by
  intro m
  induction m with
  | zero =>
    intro w σ x v3 hw hx hP
    simp only [pI, pL, pR, pV, i10, ↓reduceIte, eM_undo_69]
    have e0 : (gI σ 121 (ix 0)).toInt = n := (hP.1.rd (FU_low 0 (by omega) (by omega))).trans hn.1
    simp only [ile, e0, hx]
    rw [if_pos (by omega)]
    obtain rfl : w = n := by omega
    exact ⟨⟨by decide, by decide⟩, h σ x v3 hP⟩
  | succ m ih =>
    intro w σ x v3 hw hx hP
    simp only [pI, pL, pR, pV, i10, ↓reduceIte, eM_undo_69]
    have e0 : (gI σ 121 (ix 0)).toInt = n := (hP.1.rd (FU_low 0 (by omega) (by omega))).trans hn.1
    have ex : ix x1 = 146 + 47 * j := ix_of (by omega)
    have es : (gI σ 121 (146 + 47 * j)).toInt = rd σ0 121 (146 + 47 * j) := slot_rd (e := 0) hP.1 hj (by omega)
    have xw : ix x = w := ix_of hx
    rw [ex]
    simp only [ile, ilt, e0, es, hx]
    rw [if_neg (by omega)]
    refine ⟨⟨by decide, by decide⟩, ⟨by omega, by omega⟩, ?_⟩
    have nx : ∀ (σ' : Sg) (y : Int32), UnP σ0 σ' j (w + 1) 0 → bM_undo_139 true NOB (wp true (d + 2)) Φ (kM_undo (d + 2) Φ) [.ref 120, .int x1, .int x, .int y] [] σ' := fun σ' y hP' => by
      simp only [pI, pL, pR, pV, i10, ↓reduceIte, eM_undo_139]
      exact hM_undo_69 _ _ _ _ _ (ih (w + 1) σ' (x + 1) _ (by omega) (by rw [t1 (by omega), hx]; omega) hP')
    split
    next z => exact un94 hj hx1 hx (by omega) hP z nx
    next z =>
      refine sM_begin (by omega) (fun σ' hF hc => ?_)
      simp only [pI, pL, pR, pV, i10, ↓reduceIte, eM_undo_94, eM_undo_96]
      have hF' : Fr FU σ0 σ' := hP.1.tr (hF.mo (fun e he => List.mem_append_right _ he))
      have es' : (gI σ' 121 (146 + 47 * j)).toInt = rd σ0 121 (146 + 47 * j) := slot_rd (e := 0) hF' hj (by omega)
      rw [ex]
      simp only [ile, ile, es', hx]
      try rw [if_neg (by decide)]
      rw [if_pos (by omega)]
      refine ⟨⟨by omega, by omega⟩, nx σ' 0 ?_⟩
      rw [xw] at hc
      obtain ⟨k1, k2, k3, k4, k5⟩ := ks_tab.2.1 w (by omega) z
      have tl := FU_told w (by omega)
      rw [hP.1.rd tl.2.1, hP.1.rd tl.2.2.1] at hc
      have n4 : ∀ k, k < 11 → (k = 4 ∨ k = 10) → inS FMk 121 k = false := by decide
      refine Un5 (by omega) hP hF' ⟨hF.rd (n4 4 (by omega) (Or.inl rfl)), hF.rd (n4 10 (by omega) (Or.inr rfl))⟩ (fun k hk q => ?_) (fun k hk q => ?_)
      · rw [hc]
        rcases q with rfl | rfl | rfl | rfl | rfl
        · rw [upc_ne (by omega), upc_ne (by omega), upc_ne (by omega), upc_ne (by omega), upc_eq, k1]
        · rw [upc_ne (by omega), upc_ne (by omega), upc_ne (by omega), upc_eq, k2]
        · rw [upc_ne (by omega), upc_ne (by omega), upc_eq, k3]
        · rw [upc_ne (by omega), upc_eq, k4]
        · rw [upc_eq, k5]
      · rw [hc, upc_ne (by omega), upc_ne (by omega), upc_ne (by omega), upc_ne (by omega), upc_ne (by omega)]
theorem lM_undo147 {d : Nat} {Φ : Po} {σ0 : Sg} {j n w : Nat} {x1 : Int32} (hj : j < 30) (hx1 : x1.toInt = 146 + 47 * j) (hn : rd σ0 121 1 = n ∧ n ≤ 6) (h : ∀ (σ : Sg) (x : Int32) (v3 : Value), UnP σ0 σ j w n → bM_undo_238 true NOB (wp true (d + 2)) Φ (kM_undo (d + 2) Φ) [.ref 120, .int x1, .int x, v3] [] σ) :
    ∀ (m v : Nat) (σ : Sg) (x : Int32) (v3 : Value), v + m = n → x.toInt = v → UnP σ0 σ j w v → bM_undo_147 true NOB (wp true (d + 2)) Φ (kM_undo (d + 2) Φ) [.ref 120, .int x1, .int x, v3] [] σ := by
  intro m
  induction m with
  | zero =>
    intro v σ x v3 hv hx hP
    simp only [pI, pL, pR, pV, i10, ↓reduceIte, eM_undo_147]
    have e0 : (gI σ 121 (ix 1)).toInt = n := (hP.1.rd (FU_low 1 (by omega) (by omega))).trans hn.1
    simp only [ile, e0, hx]
    rw [if_pos (by omega)]
    obtain rfl : v = n := by omega
    exact ⟨⟨by decide, by decide⟩, h σ x v3 hP⟩
  | succ m ih =>
    intro v σ x v3 hv hx hP
    simp only [pI, pL, pR, pV, i10, ↓reduceIte, eM_undo_147]
    have e0 : (gI σ 121 (ix 1)).toInt = n := (hP.1.rd (FU_low 1 (by omega) (by omega))).trans hn.1
    have a1 : (x1 + 1).toInt = 146 + 47 * j + 1 := by rw [t1 (by omega), hx1]
    have a1x : ix (x1 + 1) = 146 + 47 * j + 1 := ix_of (by omega)
    have es : ∀ τ : Sg, Fr FU σ0 τ → (gI τ 121 (146 + 47 * j + 1)).toInt = rd σ0 121 (147 + 47 * j) := fun τ hτ => by
      have := slot_rd (e := 1) hτ hj (by omega)
      rw [show 147 + 47 * j = 146 + 47 * j + 1 from by omega]
      exact this
    have xv : ix x = v := ix_of hx
    have a2 : (x1 + 35 + 2 * x).toInt = 146 + 47 * j + (35 + 2 * v : Nat) := by
      simp only [ta, tm, Int32.reduceToInt]
      omega
    have a2x : ix (x1 + 35 + 2 * x) = 146 + 47 * j + (35 + 2 * v) := ix_of (by omega)
    have a3 : (x1 + 36 + 2 * x).toInt = 146 + 47 * j + (36 + 2 * v : Nat) := by
      simp only [ta, tm, Int32.reduceToInt]
      omega
    have a3x : ix (x1 + 36 + 2 * x) = 146 + 47 * j + (36 + 2 * v) := ix_of (by omega)
    obtain ⟨t1', t2'⟩ := ks_tab (σ := σ0) (j := j) |>.2.2.1 v (by omega)
    have hx6 : 0 ≤ x.toInt ∧ x.toInt < 6 := by omega
    have hv6 : v < 6 := by omega
    have b1 : inb (x1 + 1) 4016 := ⟨by omega, by omega⟩
    have b2 : inb (x1 + 35 + 2 * x) 4016 := ⟨by omega, by omega⟩
    have b3 : inb (x1 + 36 + 2 * x) 4016 := ⟨by omega, by omega⟩
    have m4 : ∀ k, k < 44 → mix k ≠ 4 ∧ mix k ≠ 10 := by decide
    -- the second cell
    have second : ∀ (σ1 : Sg), Fr FU σ0 σ1 → (rd σ1 121 4 = rd σ 121 4 ∧ rd σ1 121 10 = rd σ 121 10) → mc σ1 121 = upc (mc σ 121) (30 + v) (ks σ0 121 j (30 + v)) → bM_undo_197 true NOB (wp true (d + 2)) Φ (kM_undo (d + 2) Φ) [.ref 120, .int x1, .int x, v3] [] σ1 := by
      intro σ1 hF1 q1 c1
      simp only [pI, pL, pR, pV, i10, ↓reduceIte, eM_undo_197]
      rw [a1x, a3x]
      simp only [ile, es σ1 hF1, hx]
      refine ⟨b1, ?_⟩
      have last : ∀ r : Int32, r.toInt = ks σ0 121 j (36 + v) → bM_undo_229 true NOB (wp true (d + 2)) Φ (kM_undo (d + 2) Φ) [.ref 120, .int x1, .int x, v3] [.int r, .int 2, .int x, .ref 120] σ1 := by
        intro r hr
        simp only [pI, pL, pR, pV, i10, ↓reduceIte, eM_undo_229]
        refine sM_layT hx6 (fun σ2 e2 c2 => ?_)
        rw [xv] at e2 c2
        simp only [pI, pL, pR, pV, i10, ↓reduceIte, eM_undo_232]
        obtain ⟨u1, -, u3⟩ := UnC (v := r) (n := 62 + 4 * v) (k := 36 + v) hF1 (by omega) (mix_t hv6).symm
        have u3 := u3 rfl
        rw [← e2] at u1 u3
        obtain ⟨h1, h2, h3, h5, h6⟩ := hP
        refine hM_undo_147 _ _ _ _ _ (ih (v + 1) σ2 (x + 1) _ (by omega) (by rw [t1 (by omega), hx]; omega) ⟨u1, by rw [u3.1, q1.1]; exact h2, by rw [u3.2, q1.2]; exact h3, fun k hk q => ?_, fun k hk q => ?_⟩)
        · rw [c2, c1, hr]
          by_cases z1 : k = 36 + v
          · rw [z1, upc_eq]
          · rw [upc_ne z1]
            by_cases z2 : k = 30 + v
            · rw [z2, upc_eq]
            · rw [upc_ne z2]
              refine h5 k hk ?_
              unfold Dn at *
              omega
        · have z1 : k ≠ 36 + v ∧ k ≠ 30 + v := by
            unfold Dn at q
            omega
          rw [c2, c1, upc_ne z1.1, upc_ne z1.2]
          refine h6 k hk ?_
          unfold Dn at *
          omega
      split
      next z =>
        simp only [pI, pL, pR, pV, i10, ↓reduceIte, eM_undo_228]
        exact last 0 (by rw [(t2' (by omega)).2]; rfl)
      next z =>
        refine ⟨b3, last _ ?_⟩
        rw [(t1' (by omega)).2]
        exact slot_rd hF1 hj (by omega)
    have first : ∀ r : Int32, r.toInt = ks σ0 121 j (30 + v) → bM_undo_194 true NOB (wp true (d + 2)) Φ (kM_undo (d + 2) Φ) [.ref 120, .int x1, .int x, v3] [.int r, .int 1, .int x, .ref 120] σ := by
      intro r hr
      simp only [pI, pL, pR, pV, i10, ↓reduceIte, eM_undo_194]
      refine sM_layP hx6 (fun σ1 e1 c1 => ?_)
      rw [xv] at e1 c1
      obtain ⟨u1, -, u3⟩ := UnC (v := r) (n := 61 + 4 * v) (k := 30 + v) hP.1 (by omega) (mix_p hv6).symm
      have u3 := u3 rfl
      rw [← e1] at u1 u3
      rw [hr] at c1
      simp only [pI, pL, pR, pV, i10, ↓reduceIte, eM_undo_194]
      exact second σ1 u1 u3 c1
    rw [a1x, a2x]
    simp only [ile, ile, e0, es σ hP.1, hx]
    rw [if_neg (by omega)]
    refine ⟨⟨by decide, by decide⟩, b1, ?_⟩
    split
    next z =>
      simp only [pI, pL, pR, pV, i10, ↓reduceIte, eM_undo_188]
      refine sM_of (63 + 4 * v) (j := 3) rfl (by omega) hx6 (by omega) (fun r hr => ?_)
      simp only [pI, pL, pR, pV, i10, ↓reduceIte, eM_undo_188]
      exact first r (by rw [hr, (t2' (by omega)).1, hP.1.rd (FU_told v hv6).2.2.2.2])
    next z =>
      refine ⟨b2, first _ ?_⟩
      rw [(t1' (by omega)).1]
      exact slot_rd hP.1 hj (by omega)
