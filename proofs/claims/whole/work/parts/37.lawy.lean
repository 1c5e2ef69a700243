theorem sT_hasLaw {d : Nat} {Φ : Po} {σ : Sg} {t : Nat} (ht : t < 4) {l : Int32} (hl : 0 ≤ l.toInt ∧ l.toInt < 5) (h1 : rd σ (90 + 5 * t) (ix l) ≠ -1 → Φ (some (.int 1)) σ) (h0 : rd σ (90 + 5 * t) (ix l) = -1 → Φ (some (.int 0)) σ) : wp true (d + 1) nT_hasLaw [.ref (88 + 5 * t), .int l] σ Φ := by
  apply wT_hasLaw
  have e : ∀ (call : Cl) (k : Nat → Ct), bT_hasLaw_0 true NOB call Φ k [.ref (88 + 5 * t), .int l] [] σ = (if l < 0 then bT_hasLaw_23 true NOB call Φ k [.ref (88 + 5 * t), .int l] [] σ else if (5 : Int32) ≤ l then bT_hasLaw_23 true NOB call Φ k [.ref (88 + 5 * t), .int l] [] σ else (inb l 5 ∧ bT_hasLaw_15 true NOB call Φ k [.ref (88 + 5 * t), .int l] [.int (gI σ (90 + 5 * t) (ix l))] σ)) := by
    intro call k
    have : t = 0 ∨ t = 1 ∨ t = 2 ∨ t = 3 := by omega
    rcases this with rfl | rfl | rfl | rfl <;> rfl
  rw [e]
  simp only [pI, pL, pR, pV, i10, ↓reduceIte, eT_hasLaw_15, eT_hasLaw_23, eT_hasLaw_24]
  try simp only [cond, zB_1, zB_0, lg_cmp_ge, lg_cmp_le, lg_cmp_gt, lg_cmp_lt, lg_cmp_eq]
  try simp only [ne_eq, not_false_eq_true, true_and, and_true, ↓reduceIte, ile, ilt, ieq, jle, jlt, jeq, Int32.toInt_toInt64, Int32.reduceToInt, Int64.reduceToInt, Int.reduceNeg, Int.reduceEq, Int.reduceLT, Int.reduceLE, and_self, and_false, false_and]
  rw [if_neg (by omega), if_neg (by omega)]
  refine ⟨⟨by omega, by omega⟩, ?_⟩
  split
  · exact h0 (by assumption)
  · exact h1 (by assumption)
/-- the text that rules on law l, or none -/
theorem sL_rulingOn {d : Nat} {Φ : Po} {σ : Sg} {E : En} (hE : CE σ E) {lI : Int32} {l : Nat} (hl : lI.toInt = l ∧ l < 5) (h0 : eL E l = none → Φ (some (.ref NUL)) σ) (h1 : ∀ (t : Nat) (ops : List (Int × Int)), t < 4 → eL E l = some ops → TxL σ t l (some ops) → Φ (some (.ref (88 + 5 * t))) σ) : wp true (d + 2) nL_rulingOn [.ref 108, .int lI] σ Φ := by
  apply wL_rulingOn
  simp only [pI, pL, pR, pV, i10, ↓reduceIte, eL_rulingOn_0]
  obtain ⟨g1, g2, g3, g4, ⟨g5, g6, g7, g8⟩, g9⟩ := hE
  refine sW_isText (fun q => ?_) (fun q => ?_)
  · simp only [pI, pL, pR, pV, i10, ↓reduceIte, eL_rulingOn_14]
    have hr : (gI σ 1 10).toInt = rd σ 1 10 := rfl
    try rw [if_neg (by decide)]
    try simp only [cond, zB_1, zB_0, lg_cmp_ge, lg_cmp_le, lg_cmp_gt, lg_cmp_lt, lg_cmp_eq]
    try simp only [ne_eq, not_false_eq_true, true_and, and_true, ↓reduceIte, ile, ilt, ieq, jle, jlt, jeq, Int32.toInt_toInt64, Int32.reduceToInt, Int64.reduceToInt, Int.reduceNeg, Int.reduceEq, Int.reduceLT, Int.reduceLE, and_self, and_false, false_and]
    rw [hr, if_pos (by omega)]
    have hq : 0 ≤ rd σ 1 10 ∧ rd σ 1 10 < rd σ 1 9 := q
    have hrt : ix (gI σ 1 10) < 4 := by unfold ix; omega
    have hrI : rd σ 1 10 = (ix (gI σ 1 10) : Nat) := by unfold ix; omega
    have ht8 := g8 (ix (gI σ 1 10)) hrt hrI l hl.2
    have hlx : ix lI = l := ix_of hl.1
    simp only [pI, pL, pR, pV, i10, ↓reduceIte, eL_rulingOn_34]
    refine ⟨⟨by omega, by omega⟩, ?_⟩
    generalize ix (gI σ 1 10) = t at hrt hrI ht8
    have e1 : rfx true σ 81 t = 88 + 5 * t := by
      have : t = 0 ∨ t = 1 ∨ t = 2 ∨ t = 3 := by omega
      rcases this with rfl | rfl | rfl | rfl <;> rfl
    have e2 : (isO 7 (88 + 5 * t) && lvx true σ (88 + 5 * t)) = true := by
      have : t = 0 ∨ t = 1 ∨ t = 2 ∨ t = 3 := by omega
      rcases this with rfl | rfl | rfl | rfl <;> rfl
    rw [e1, e2]
    refine sT_hasLaw hrt (by omega) (fun z => ?_) (fun z => ?_)
    · simp only [pI, pL, pR, pV, i10, ↓reduceIte, eL_rulingOn_52, eL_rulingOn_60]
      try rw [if_neg (by decide)]
      rw [hlx] at z
      unfold TxL at ht8
      split at ht8
      next hx => exact absurd ht8 z
      next ops hx => exact h1 t ops hrt hx ht8
    · simp only [pI, pL, pR, pV, i10, ↓reduceIte, eL_rulingOn_52, eL_rulingOn_59, eL_rulingOn_60]
      try rw [if_pos rfl]
      rw [hlx] at z
      unfold TxL at ht8
      split at ht8
      next hx => exact h0 hx
      next ops hx => omega
  · simp only [pI, pL, pR, pV, i10, ↓reduceIte, eL_rulingOn_14, eL_rulingOn_32]
    try rw [if_pos rfl]
    refine h0 (g7 ?_ l)
    have hr : (gI σ 1 10).toInt = rd σ 1 10 := rfl
    omega
theorem evl_len {E : En} {c : Co} {w v f : Int} {l a' b' : Nat} : ∀ (ops : List (Int × Int)) (a b : Nat) (s1 s2 : List Int), Wf l ops a b a' b' → s1.length = a → s2.length = b → (evl E c w v f ops (s1, s2)).1.length = a' ∧ (evl E c w v f ops (s1, s2)).2.length = b'
  | [], a, b, s1, s2, hW, ha, hb => by
    obtain ⟨rfl, rfl⟩ := hW
    exact ⟨ha, hb⟩
  | (o, u) :: r, a, b, s1, s2, hW, ha, hb => by
    have st : ∀ a2 b2, Wf l r a2 b2 a' b' → (stp E c w v f o u (s1, s2)).1.length = a2 → (stp E c w v f o u (s1, s2)).2.length = b2 → (evl E c w v f ((o, u) :: r) (s1, s2)).1.length = a' ∧ (evl E c w v f ((o, u) :: r) (s1, s2)).2.length = b' :=
      fun a2 b2 h1 h2 h3 => evl_len r a2 b2 (stp E c w v f o u (s1, s2)).1 (stp E c w v f o u (s1, s2)).2 h1 h2 h3
    rcases hW with ⟨rfl, q1, q2, q3, hW⟩ | ⟨rfl, q1, q2, q4, q3, hW⟩ | ⟨qo, q1, hW⟩ | ⟨q1, q2, q3, hW⟩ | ⟨q1, q2, q3, hW⟩ | ⟨rfl, q1, q2, hW⟩ | ⟨qo, q1, q2, hW⟩
    · exact st _ _ hW (by simp [stp, ha]) (by simp [stp, hb])
    · exact st _ _ hW (by simp [stp, ha]) (by simp [stp, hb])
    · refine st _ _ hW ?_ ?_
      · rcases qo with rfl | rfl <;> simp [stp] <;> omega
      · rcases qo with rfl | rfl <;> simp [stp] <;> omega
    · have e : stp E c w v f o u (s1, s2) = (clip (tw o (s1.tail.headD 0) (s1.headD 0)) :: s1.tail.tail, s2) := by
        unfold stp
        rw [if_neg (by omega), if_neg (by omega), if_neg (by omega), if_neg (by omega), if_pos (by omega)]
      refine st _ _ hW ?_ ?_
      · rw [e]; simp; omega
      · rw [e]; exact hb
    · have e : stp E c w v f o u (s1, s2) = (s1.tail.tail, bi (cmq o (s1.tail.headD 0) (s1.headD 0)) :: s2) := by
        unfold stp
        rw [if_neg (by omega), if_neg (by omega), if_neg (by omega), if_neg (by omega), if_neg (by omega), if_pos (by omega)]
      refine st _ _ hW ?_ ?_
      · rw [e]; simp; omega
      · rw [e]; simp; omega
    · obtain rfl : s1 = [] := List.length_eq_zero_iff.mp (by omega)
      refine st _ _ hW rfl ?_
      simp [stp]
      omega
    · obtain rfl : s1 = [] := List.length_eq_zero_iff.mp (by omega)
      refine st _ _ hW ?_ ?_
      · rcases qo with rfl | rfl <;> rfl
      · rcases qo with rfl | rfl <;> simp [stp] <;> omega
theorem evl_law {E : En} {c : Co} {w v f : Int} {l : Nat} {ops : List (Int × Int)} (h : Wf l ops 0 0 (if l = 0 then 0 else 1) (if l = 0 then 1 else 0)) : ((evl E c w v f ops ([], [])).1 ++ (evl E c w v f ops ([], [])).2).headD 0 = lawE E c l w v f ops := by
  have hl := evl_len (E := E) (c := c) (w := w) (v := v) (f := f) ops 0 0 [] [] h rfl rfl
  unfold lawE
  generalize evl E c w v f ops ([], []) = q at hl ⊢
  obtain ⟨q1, q2⟩ := q
  split
  next h0 =>
    rw [if_pos h0] at hl
    have : q1 = [] := List.length_eq_zero_iff.mp hl.1
    subst this
    rfl
  next h0 =>
    rw [if_neg h0] at hl
    match q1, hl.1 with
    | [x], _ => rfl
theorem reck_all {d : Nat} {Φ : Po} {E : En} {c : Co} {l t : Nat} {lI w v f : Int32} {σ : Sg} {ops : List (Int × Int)} (ht : t < 4) (hl : lI.toInt = l ∧ l < 5) (hO : Ok E c) (hE : CE σ E) (hc : rc σ 2 = c) (hw : w.toInt = -1 ∨ (0 ≤ w.toInt ∧ w.toInt < eN E)) (hv : v.toInt = -1 ∨ (0 ≤ v.toInt ∧ v.toInt < eV E)) (hf : 0 ≤ f.toInt ∧ f.toInt ≤ 9) (ho : eL E l = some ops) (hT : TxL σ t l (some ops)) (h : ∀ (σ' : Sg) (r : Int32), Fr F109 σ σ' → r.toInt = lawE E c l w.toInt v.toInt f.toInt ops → Φ (some (.int r)) σ') : wp true (d + 4) nL_reckoned [.ref 108, .ref (88 + 5 * t), .int lI, .int w, .int v, .int f] σ Φ := by
  have hLw := hE.2.2.2.2.2 l ops hl.2 ho
  obtain ⟨b1, b2, b3, b4⟩ := hT
  have hlx : ix lI = l := ix_of hl.1
  apply wL_reckoned
  rw [q_reck0 ht, hlx]
  refine ⟨⟨by omega, by omega⟩, ?_⟩
  have hfrom : (gI σ (90 + 5 * t) l).toInt = rd σ (90 + 5 * t) l := rfl
  exact lL_reckoned (d := d) (Φ := Φ) (E := E) (c := c) (l := l) (t := t) (lI := lI) (w := w) (v := v) (f := f) (σ0 := σ) ht hl hO hE hc hw hv hf b3 (a' := if l = 0 then 0 else 1) (b' := if l = 0 then 1 else 0) (by split <;> rfl) ops 0 0 [] [] σ 0 (gI σ (90 + 5 * t) l) (.retAddr 0) (.retAddr 0) hLw.2 rfl rfl (by omega) (fun _ h => by cases h) (fun _ h => by cases h) trivial rfl b4 (by omega) (by omega) Fr.rf (fun σ' r hF hr => h σ' r hF (by rw [hr]; exact evl_law hLw.2))
theorem sL_comesOf {d : Nat} {Φ : Po} {E : En} {c : Co} {σ : Sg} {w : Int32} (hO : Ok E c) (hE : CE σ E) (hc : rc σ 2 = c) (hw : 0 ≤ w.toInt ∧ w.toInt < eN E) (h : ∀ (σ' : Sg) (r : Int32), Fr F109 σ σ' → r.toInt = bi (comesF E c (ix w)) → Φ (some (.int r)) σ') : wp true (d + 5) nL_comesOf [.ref 108, .int w] σ Φ := by
  apply wL_comesOf
  simp only [pI, pL, pR, pV, i10, ↓reduceIte, eL_comesOf_0]
  have hw6 : ix w < 6 := by have := hO.1; unfold ix; omega
  have hwn : ix w < eN E := by unfold ix; omega
  have hi : ix (6 + w) = 6 + ix w := ixk rfl (by have := hO.1; omega)
  have hcw : (gI σ 2 (6 + ix w)).toInt = c (6 + ix w) := by rw [← hc]; exact (rc_at (by omega)).symm
  unfold comesF at h
  refine sL_rulingOn hE (l := 0) ⟨rfl, by omega⟩ (fun q => ?_) (fun t ops ht q hT => ?_)
  · simp only [pI, pL, pR, pV, i10, ↓reduceIte, eL_comesOf_5, eL_comesOf_33, eL_comesOf_38]
    try simp only [cond, zB_1, zB_0, lg_cmp_ge, lg_cmp_le, lg_cmp_gt, lg_cmp_lt, lg_cmp_eq]
    try simp only [ne_eq, not_false_eq_true, true_and, and_true, ↓reduceIte, ile, ilt, ieq, jle, jlt, jeq, Int32.toInt_toInt64, Int32.reduceToInt, Int64.reduceToInt, Int.reduceNeg, Int.reduceEq, Int.reduceLT, Int.reduceLE, and_self, and_false, false_and]
    exact h _ _ Fr.rf (by rw [q]; rfl)
  · simp only [pI, pL, pR, pV, i10, ↓reduceIte, eL_comesOf_5]
    rw [if_neg (by have : NUL = 99999 := rfl; omega), hi]
    refine ⟨inb_k (n := 6) rfl (by have := hO.1; omega) (by have := hO.1; omega), ?_⟩
    refine reck_all ht (l := 0) ⟨rfl, by omega⟩ hO hE hc (Or.inr hw) (Or.inl rfl) (by have := (hO.2.2.2.2.1 _ hwn).2.2.1; omega) q hT (fun σ' r hF hr => ?_)
    simp only [pI, pL, pR, pV, i10, ↓reduceIte, eL_comesOf_30, eL_comesOf_33, eL_comesOf_37, eL_comesOf_38]
    try simp only [cond, zB_1, zB_0, lg_cmp_ge, lg_cmp_le, lg_cmp_gt, lg_cmp_lt, lg_cmp_eq]
    try simp only [ne_eq, not_false_eq_true, true_and, and_true, ↓reduceIte, ile, ilt, ieq, jle, jlt, jeq, Int32.toInt_toInt64, Int32.reduceToInt, Int64.reduceToInt, Int.reduceNeg, Int.reduceEq, Int.reduceLT, Int.reduceLE, and_self, and_false, false_and]
    have hr : r.toInt = lawE E c 0 (ix w : Nat) (-1) (c (6 + ix w)) ops := by rw [hr, hcw, ix_to hw.1]; rfl
    split
    next z => exact h _ _ hF (by rw [q]; show _ = bi (decide _); rw [← hr, decide_eq_false (by omega)]; rfl)
    next z => exact h _ _ hF (by rw [q]; show _ = bi (decide _); rw [← hr, decide_eq_true (by omega)]; rfl)
theorem sL_blowsOf {d : Nat} {Φ : Po} {E : En} {c : Co} {σ : Sg} {w : Int32} (hO : Ok E c) (hE : CE σ E) (hc : rc σ 2 = c) (hw : 0 ≤ w.toInt ∧ w.toInt < eN E) (h : ∀ (σ' : Sg) (r : Int32), Fr F109 σ σ' → r.toInt = blowsF E c (ix w) → Φ (some (.int r)) σ') : wp true (d + 5) nL_blowsOf [.ref 108, .int w] σ Φ := by
  apply wL_blowsOf
  simp only [pI, pL, pR, pV, i10, ↓reduceIte, eL_blowsOf_0]
  have hw6 : ix w < 6 := by have := hO.1; unfold ix; omega
  have hwn : ix w < eN E := by unfold ix; omega
  have hi : ix (6 + w) = 6 + ix w := ixk rfl (by have := hO.1; omega)
  have hi0 : ix (0 + w) = ix w := by rw [ixk (n := 0) rfl (by have := hO.1; omega)]; omega
  have hcw : (gI σ 2 (6 + ix w)).toInt = c (6 + ix w) := by rw [← hc]; exact (rc_at (by omega)).symm
  have hco : (gI σ 2 (ix w)).toInt = c (ix w) := by rw [← hc]; exact (rc_at (by omega)).symm
  unfold blowsF at h
  refine sL_rulingOn hE (l := 1) ⟨rfl, by omega⟩ (fun q => ?_) (fun t ops ht q hT => ?_)
  · simp only [pI, pL, pR, pV, i10, ↓reduceIte, eL_blowsOf_5, eL_blowsOf_47]
    try rw [if_pos rfl]
    rw [hi0]
    refine ⟨inb_k (n := 0) rfl (by have := hO.1; omega) (by have := hO.1; omega), by decide, ?_⟩
    refine sL_within (by decide) (fun r hr => ?_)
    simp only [pI, pL, pR, pV, i10, ↓reduceIte, eL_blowsOf_54]
    refine h _ _ Fr.rf ?_
    rw [hr, q, tDt (by decide), hco]
    rfl
  · simp only [pI, pL, pR, pV, i10, ↓reduceIte, eL_blowsOf_5, eL_blowsOf_27]
    rw [if_neg (by have : NUL = 99999 := rfl; omega), hi]
    refine ⟨inb_k (n := 6) rfl (by have := hO.1; omega) (by have := hO.1; omega), ?_⟩
    refine reck_all ht (l := 1) ⟨rfl, by omega⟩ hO hE hc (Or.inr hw) (Or.inl rfl) (by have := (hO.2.2.2.2.1 _ hwn).2.2.1; omega) q hT (fun σ' r hF hr => ?_)
    simp only [pI, pL, pR, pV, i10, ↓reduceIte, eL_blowsOf_47]
    refine sL_within (by decide) (fun r2 hr2 => ?_)
    simp only [pI, pL, pR, pV, i10, ↓reduceIte, eL_blowsOf_54]
    refine h _ _ hF ?_
    rw [hr2, q, hr, hcw, ← ix_to hw.1]
    rfl
theorem sL_duesOf {d : Nat} {Φ : Po} {E : En} {c : Co} {σ : Sg} {w : Int32} (hO : Ok E c) (hE : CE σ E) (hc : rc σ 2 = c) (hw : 0 ≤ w.toInt ∧ w.toInt < eN E) (h : ∀ (σ' : Sg) (r : Int32), Fr F109 σ σ' → r.toInt = duesF E c (ix w) → Φ (some (.int r)) σ') : wp true (d + 5) nL_duesOf [.ref 108, .int w] σ Φ := by
  apply wL_duesOf
  simp only [pI, pL, pR, pV, i10, ↓reduceIte, eL_duesOf_0]
  have hw6 : ix w < 6 := by have := hO.1; unfold ix; omega
  have hwn : ix w < eN E := by unfold ix; omega
  have hi : ix (6 + w) = 6 + ix w := ixk rfl (by have := hO.1; omega)
  have hi0 : ix (18 + w) = 18 + ix w := ixk rfl (by have := hO.1; omega)
  have hcw : (gI σ 2 (6 + ix w)).toInt = c (6 + ix w) := by rw [← hc]; exact (rc_at (by omega)).symm
  have hco : (gI σ 2 (18 + ix w)).toInt = c (18 + ix w) := by rw [← hc]; exact (rc_at (by omega)).symm
  unfold duesF at h
  refine sL_rulingOn hE (l := 4) ⟨rfl, by omega⟩ (fun q => ?_) (fun t ops ht q hT => ?_)
  · simp only [pI, pL, pR, pV, i10, ↓reduceIte, eL_duesOf_0, eL_duesOf_5, eL_duesOf_25, eL_duesOf_45, eL_duesOf_52]
    try rw [if_pos rfl]
    rw [hi0]
    refine ⟨inb_k (n := 18) rfl (by have := hO.1; omega) (by have := hO.1; omega), ?_⟩
    refine sL_within (by decide) (fun r hr => ?_)
    simp only [pI, pL, pR, pV, i10, ↓reduceIte, eL_duesOf_0, eL_duesOf_5, eL_duesOf_25, eL_duesOf_45, eL_duesOf_52]
    refine h _ _ Fr.rf ?_
    rw [hr, q, hco]
    rfl
  · simp only [pI, pL, pR, pV, i10, ↓reduceIte, eL_duesOf_0, eL_duesOf_5, eL_duesOf_25, eL_duesOf_45, eL_duesOf_52]
    rw [if_neg (by have : NUL = 99999 := rfl; omega), hi]
    refine ⟨inb_k (n := 6) rfl (by have := hO.1; omega) (by have := hO.1; omega), ?_⟩
    refine reck_all ht (l := 4) ⟨rfl, by omega⟩ hO hE hc (Or.inr hw) (Or.inl rfl) (by have := (hO.2.2.2.2.1 _ hwn).2.2.1; omega) q hT (fun σ' r hF hr => ?_)
    simp only [pI, pL, pR, pV, i10, ↓reduceIte, eL_duesOf_0, eL_duesOf_5, eL_duesOf_25, eL_duesOf_45, eL_duesOf_52]
    refine sL_within (by decide) (fun r2 hr2 => ?_)
    simp only [pI, pL, pR, pV, i10, ↓reduceIte, eL_duesOf_0, eL_duesOf_5, eL_duesOf_25, eL_duesOf_45, eL_duesOf_52]
    refine h _ _ hF ?_
    rw [hr2, q, hr, hcw, ← ix_to hw.1]
    rfl
theorem sL_takesOf {d : Nat} {Φ : Po} {E : En} {c : Co} {σ : Sg} {w v f : Int32} (hO : Ok E c) (hE : CE σ E) (hc : rc σ 2 = c) (hw : 0 ≤ w.toInt ∧ w.toInt < eN E) (hv : 0 ≤ v.toInt ∧ v.toInt < eV E) (hf : 0 ≤ f.toInt ∧ f.toInt ≤ 9) (h : ∀ (σ' : Sg) (r : Int32), Fr F109 σ σ' → r.toInt = takesF E c (ix w) (ix v) f.toInt → Φ (some (.int r)) σ') : wp true (d + 5) nL_takesOf [.ref 108, .int w, .int v, .int f] σ Φ := by
  apply wL_takesOf
  simp only [pI, pL, pR, pV, i10, ↓reduceIte, eL_takesOf_0]
  have hn := hO.1
  have hnv := hO.2.1
  have hv6 : ix v < 6 := by unfold ix; omega
  have hvn : ix v < eV E := by unfold ix; omega
  have hro : (gI σ 35 (ix v)).toInt = eR E (ix v) := hE.2.2.2.1 _ hv6
  have hrb := (hO.2.2.2.2.2 _ hvn).1
  unfold takesF at h
  refine sL_rulingOn hE (l := 2) ⟨rfl, by omega⟩ (fun q => ?_) (fun t ops ht q hT => ?_)
  · simp only [pI, pL, pR, pV, i10, ↓reduceIte, eL_takesOf_5, eL_takesOf_36]
    try rw [if_pos rfl]
    refine ⟨⟨by omega, by omega⟩, ?_⟩
    refine sL_within (by decide) (fun r hr => ?_)
    simp only [pI, pL, pR, pV, i10, ↓reduceIte, eL_takesOf_45]
    refine h _ _ Fr.rf ?_
    rw [hr, q, tM (by omega), hro]
    rfl
  · simp only [pI, pL, pR, pV, i10, ↓reduceIte, eL_takesOf_5, eL_takesOf_26]
    rw [if_neg (by have : NUL = 99999 := rfl; omega)]
    refine reck_all ht (l := 2) ⟨rfl, by omega⟩ hO hE hc (Or.inr hw) (Or.inr hv) hf q hT (fun σ' r hF hr => ?_)
    simp only [pI, pL, pR, pV, i10, ↓reduceIte, eL_takesOf_36]
    refine sL_within (by decide) (fun r2 hr2 => ?_)
    simp only [pI, pL, pR, pV, i10, ↓reduceIte, eL_takesOf_45]
    refine h _ _ hF ?_
    rw [hr2, q, hr, ← ix_to hw.1, ← ix_to hv.1]
    rfl
theorem sL_catchOf {d : Nat} {Φ : Po} {E : En} {c : Co} {σ : Sg} {w v f : Int32} (hO : Ok E c) (hE : CE σ E) (hc : rc σ 2 = c) (hw : w.toInt = -1 ∨ (0 ≤ w.toInt ∧ w.toInt < eN E)) (hv : 0 ≤ v.toInt ∧ v.toInt < eV E) (hf : 0 ≤ f.toInt ∧ f.toInt ≤ 9) (h : ∀ (σ' : Sg) (r : Int32), Fr F109 σ σ' → r.toInt = catchF E c w.toInt (ix v) f.toInt → Φ (some (.int r)) σ') : wp true (d + 5) nL_catchOf [.ref 108, .int w, .int v, .int f] σ Φ := by
  apply wL_catchOf
  simp only [pI, pL, pR, pV, i10, ↓reduceIte, eL_catchOf_0]
  have hn := hO.1
  have hnv := hO.2.1
  have hvn : ix v < eV E := by unfold ix; omega
  unfold catchF at h
  have cn : (w = -1) = (w.toInt = -1) := by rw [ieq]; rfl
  refine sL_rulingOn hE (l := 3) ⟨rfl, by omega⟩ (fun q => ?_) (fun t ops ht q hT => ?_)
  · simp only [pI, pL, pR, pV, i10, ↓reduceIte, eL_catchOf_5, eL_catchOf_16, eL_catchOf_17, eL_catchOf_39]
    simp only [cn]
    split
    next z =>
      try rw [if_pos rfl]
      refine sL_within (by decide) (fun r hr => ?_)
      simp only [pI, pL, pR, pV, i10, ↓reduceIte, eL_catchOf_44]
      refine h _ _ Fr.rf ?_
      rw [hr, q]
      show _ = clamp 0 99 (if _ then _ else _)
      rw [if_pos z]
      rfl
    next z =>
      try rw [if_pos rfl]
      refine sL_within (by decide) (fun r hr => ?_)
      simp only [pI, pL, pR, pV, i10, ↓reduceIte, eL_catchOf_44]
      refine h _ _ Fr.rf ?_
      rw [hr, q]
      show _ = clamp 0 99 (if _ then _ else _)
      rw [if_neg z]
      rfl
  · simp only [pI, pL, pR, pV, i10, ↓reduceIte, eL_catchOf_5, eL_catchOf_16, eL_catchOf_17, eL_catchOf_29]
    have nn : ¬ (88 + 5 * t = NUL) := by have : NUL = 99999 := rfl; omega
    simp only [nn, ↓reduceIte]
    have fin : ∀ z : Int32, wp true (d + 4) nL_reckoned [.ref 108, .ref (88 + 5 * t), .int 3, .int w, .int v, .int f] σ (fun v_1 σ => match v_1 with | some (.int x) => bL_catchOf_39 true NOB (wp true (d + 4)) Φ (kL_catchOf (d + 4) Φ) [.ref 108, .int w, .int v, .int f, .ref (88 + 5 * t), .int z] [.int x] σ | _ => False) := by
      intro z
      refine reck_all ht (l := 3) ⟨rfl, by omega⟩ hO hE hc hw (Or.inr hv) hf q hT (fun σ' r hF hr => ?_)
      simp only [pI, pL, pR, pV, i10, ↓reduceIte, eL_catchOf_39]
      refine sL_within (by decide) (fun r2 hr2 => ?_)
      simp only [pI, pL, pR, pV, i10, ↓reduceIte, eL_catchOf_44]
      refine h _ _ hF ?_
      rw [hr2, q, hr, ← ix_to hv.1]
      rfl
    split
    · exact fin 0
    · exact fin 3
