def VlL (σ : Sg) : List Int → Prop
  | [] => True
  | x :: r => (gL σ 127 r.length).toInt = x ∧ VlL σ r
def TrL (σ : Sg) : List Int → Prop
  | [] => True
  | x :: r => rd σ 128 r.length = x ∧ TrL σ r
theorem gLne {σ : Sg} {a k : Nat} {v : Int64} {x y : Nat} (h : y ≠ k) : gL (sL σ a k v) x y = gL σ x y := by
  rw [gL_sL, if_neg (fun q => h q.2)]
theorem gLeq {σ : Sg} {a k : Nat} {v : Int64} : gL (sL σ a k v) a k = v := by
  rw [gL_sL, if_pos ⟨rfl, rfl⟩]
theorem VlL_keep {σ : Sg} {n : Nat} {v : Int64} : ∀ (l : List Int), l.length ≤ n → VlL σ l → VlL (sL σ 127 n v) l
  | [], _, _ => trivial
  | x :: r, h, ⟨h1, h2⟩ => ⟨by rw [gLne (by simp at h; omega)]; exact h1, VlL_keep r (by simp at h; omega) h2⟩
theorem VlL_push {σ : Sg} {n : Nat} {v : Int64} {l : List Int} (h : l.length = n) (g : VlL σ l) : VlL (sL σ 127 n v) (v.toInt :: l) :=
  ⟨by rw [h, gLeq], VlL_keep l (by omega) g⟩
theorem VlL_sI {σ : Sg} {n : Nat} {v : Int32} : ∀ (l : List Int), VlL σ l → VlL (sI σ 128 n v) l
  | [], _ => trivial
  | _ :: r, ⟨h1, h2⟩ => ⟨h1, VlL_sI r h2⟩
theorem TrL_keep {σ : Sg} {n : Nat} {v : Int32} : ∀ (l : List Int), l.length ≤ n → TrL σ l → TrL (sI σ 128 n v) l
  | [], _, _ => trivial
  | x :: r, h, ⟨h1, h2⟩ => ⟨(rdne2 (by simp at h; omega)).trans h1, TrL_keep r (by simp at h; omega) h2⟩
theorem TrL_push {σ : Sg} {n : Nat} {v : Int32} {l : List Int} (h : l.length = n) (g : TrL σ l) : TrL (sI σ 128 n v) (v.toInt :: l) :=
  ⟨by rw [h, rdeq], TrL_keep l (by omega) g⟩
theorem TrL_sL {σ : Sg} {n : Nat} {v : Int64} : ∀ (l : List Int), TrL σ l → TrL (sL σ 127 n v) l
  | [], _ => trivial
  | _ :: r, ⟨h1, h2⟩ => ⟨h1, TrL_sL r h2⟩
theorem NmL.sI {σ : Sg} {E : En} {c : Co} {w v f : Int} {m n : Nat} {x : Int32} (h : NmL σ E c w v f m) : NmL (sI σ 128 n x) E c w v f m := fun j hj => (rdne (by omega)).trans (h j hj)
theorem NmL.sL {σ : Sg} {E : En} {c : Co} {w v f : Int} {m n : Nat} {x : Int64} (h : NmL σ E c w v f m) : NmL (sL σ 127 n x) E c w v f m := fun j hj => h j hj
theorem m1t {p : Int32} {n : Nat} (h : p.toInt = n + 1) : (p + (-1)).toInt = n := by
  have := trng p
  rw [tP (by rw [tlm]; omega), tlm]
  omega
theorem m2t {p : Int32} {n : Nat} (h : p.toInt = n + 2) : (p + (-2)).toInt = n := by
  have := trng p
  rw [tP (by rw [show (-2 : Int32).toInt = -2 from rfl]; omega), show (-2 : Int32).toInt = -2 from rfl]
  omega
theorem s1t {p : Int32} {n : Nat} (h : p.toInt = n + 1) : (p - 1).toInt = n := by
  have := trng p
  rw [tM (by rw [tl1]; omega), tl1]
  omega
theorem a1t {p : Int32} {n : Nat} (h : p.toInt = n) (hn : n < 1000) : (p + 1).toInt = n + 1 := by
  rw [t1 (by omega), h]
theorem ex_i (x : Int32) : ∃ y : Int32, y = x := ⟨x, rfl⟩
theorem inb_n {x : Int32} {n N : Nat} (h : x.toInt = n) (hn : n < N) : inb x N := ⟨by omega, by omega⟩
theorem wk_two {d : Nat} {Φ : Po} {K : Nat → Ct} {σ : Sg} {x1 x2 x3 p q i oI uI : Int32} {o X Y : Int} {R : List Int} (hS : VlL σ (Y :: X :: R)) (hp : p.toInt = R.length + 2) (hR : R.length ≤ 58) (hX : -1000000 ≤ X ∧ X ≤ 1000000) (hY : -1000000 ≤ Y ∧ Y ≤ 1000000) (co : oI.toInt = o) (ho : 4 ≤ o ∧ o ≤ 8) (h : ∀ (r : Int64) (p' : Int32), p'.toInt = (R.length + 1 : Nat) → r.toInt = clip (tw o X Y) → K 47 [.ref 120, .int x1, .int x2, .int x3, .int p', .int q, .int (i + 1), .int oI, .int uI] [] (sL σ 127 R.length r)) : bM_work_126 true NOB (wp true (d + 3)) Φ K [.ref 120, .int x1, .int x2, .int x3, .int p, .int q, .int i, .int oI, .int uI] [] σ := by
  simp only [pI, pL, pR, pV, i10, ↓reduceIte, eM_work_126, eM_work_176]
  try simp only [cond, zB_1, zB_0, lg_cmp_ge, lg_cmp_le, lg_cmp_gt, lg_cmp_lt, lg_cmp_eq]
  try simp only [ne_eq, not_false_eq_true, true_and, and_true, ↓reduceIte, ile, ilt, ieq, jle, jlt, jeq, Int32.toInt_toInt64, Int32.reduceToInt, Int64.reduceToInt, Int.reduceNeg, Int.reduceEq, Int.reduceLT, Int.reduceLE, and_self, and_false, false_and]
  have e1 : (p + (-1)).toInt = (R.length + 1 : Nat) := m1t (by omega)
  generalize p + (-1) = p1 at e1 ⊢
  have e1x : ix p1 = R.length + 1 := ix_of e1
  have e2 : (p1 - 1).toInt = R.length := s1t (by omega)
  generalize hp2 : p1 - 1 = p2 at e2 ⊢
  have e2x : ix p2 = R.length := ix_of e2
  obtain ⟨s1, s2, s3⟩ := hS
  have s1 : (gL σ 127 (R.length + 1)).toInt = Y := s1
  rw [co, if_pos (by omega), if_neg (by omega), e1x, e2x]
  have fin : ∀ z : Int64, z.toInt = clip (tw o X Y) → bM_work_254 true NOB (wp true (d + 3)) Φ K [.ref 120, .int x1, .int x2, .int x3, .int p1, .int q, .int i, .int oI, .int uI] [.long z, .int p2, .ref 127] σ := by
    intro z hz
    simp only [pI, pL, pR, pV, i10, ↓reduceIte, eM_work_254, eM_work_371]
    rw [e2x]
    exact ⟨inb_n e2 (by omega), h z p1 e1 hz⟩
  by_cases h8 : o = 8
  · rw [if_pos h8]
    refine ⟨inb_n e2 (by omega), inb_n e1 (by omega), ?_⟩
    refine sM_rounded (by rw [s2]; exact hX) (by rw [s1]; exact hY) (fun z hz => ?_)
    simp only [pI, pL, pR, pV, i10, ↓reduceIte, eM_work_220]
    refine sM_cut (by decide) (fun z2 hz2 => ?_)
    simp only [pI, pL, pR, pV, i10, ↓reduceIte, eM_work_229]
    refine fin _ ?_
    rw [Int32.toInt_toInt64, hz2, hz, s1, s2, h8]
    rfl
  · rw [if_neg h8]
    simp only [pI, pL, pR, pV, i10, ↓reduceIte, eM_work_233]
    rw [hp2, e1x, e2x]
    refine ⟨inb_n e2 (by omega), inb_n e1 (by omega), ?_⟩
    refine sM_two co (by omega) (by rw [s2]; exact hX) (by rw [s1]; exact hY) (fun z hz => ?_)
    simp only [pI, pL, pR, pV, i10, ↓reduceIte, eM_work_233]
    exact fin _ (by rw [hz, s1, s2])
theorem wk_cmp {d : Nat} {Φ : Po} {K : Nat → Ct} {σ : Sg} {x1 x2 x3 p q i oI uI : Int32} {o X Y : Int} {b : Nat} (hS : VlL σ [Y, X]) (hp : p.toInt = 2) (hq : q.toInt = b) (hb : b < 100) (co : oI.toInt = o) (ho : 10 ≤ o ∧ o ≤ 15) (h : ∀ (r p' : Int32), p'.toInt = 0 → r.toInt = bi (cmq o X Y) → K 47 [.ref 120, .int x1, .int x2, .int x3, .int p', .int (q + 1), .int (i + 1), .int oI, .int uI] [] (sI σ 128 b r)) : bM_work_126 true NOB (wp true (d + 3)) Φ K [.ref 120, .int x1, .int x2, .int x3, .int p, .int q, .int i, .int oI, .int uI] [] σ := by
  simp only [pI, pL, pR, pV, i10, ↓reduceIte, eM_work_126, eM_work_176, eM_work_258]
  try simp only [cond, zB_1, zB_0, lg_cmp_ge, lg_cmp_le, lg_cmp_gt, lg_cmp_lt, lg_cmp_eq]
  try simp only [ne_eq, not_false_eq_true, true_and, and_true, ↓reduceIte, ile, ilt, ieq, jle, jlt, jeq, Int32.toInt_toInt64, Int32.reduceToInt, Int64.reduceToInt, Int.reduceNeg, Int.reduceEq, Int.reduceLT, Int.reduceLE, and_self, and_false, false_and]
  have e1 : (p + (-2)).toInt = (0 : Nat) := m2t (by omega)
  generalize p + (-2) = p1 at e1 ⊢
  have e1x : ix p1 = 0 := ix_of e1
  have e2 : (p1 + 1).toInt = (0 : Nat) + 1 := a1t e1 (by omega)
  have e2x : ix (p1 + 1) = 1 := ix_of (by omega)
  generalize p1 + 1 = p2 at e2 e2x ⊢
  obtain ⟨s1, s2, s3⟩ := hS
  have s1 : (gL σ 127 1).toInt = Y := s1
  have s2 : (gL σ 127 0).toInt = X := s2
  rw [co, if_pos (by omega), if_pos (by omega), if_neg (by omega), e1x, e2x]
  refine ⟨inb_n e1 (by omega), inb_n (n := 1) (by omega) (by omega), ?_⟩
  refine sM_isAsked co ho (fun z hz => ?_)
  simp only [pI, pL, pR, pV, i10, ↓reduceIte, eM_work_295, eM_work_371]
  rw [s1, s2] at hz
  rw [zB_v (by rw [hz]; exact bi_r _), ix_of hq]
  exact ⟨inb_n hq (by omega), h z p1 e1 hz⟩
theorem wk_not {d : Nat} {Φ : Po} {K : Nat → Ct} {σ : Sg} {x1 x2 x3 p q i oI uI : Int32} {X : Int} {R : List Int} (hT : TrL σ (X :: R)) (hX : X = 0 ∨ X = 1) (hq : q.toInt = R.length + 1) (hR : R.length < 100) (co : oI.toInt = 20) (h : ∀ r : Int32, r.toInt = 1 - X → K 47 [.ref 120, .int x1, .int x2, .int x3, .int p, .int q, .int (i + 1), .int oI, .int uI] [] (sI σ 128 R.length r)) : bM_work_126 true NOB (wp true (d + 3)) Φ K [.ref 120, .int x1, .int x2, .int x3, .int p, .int q, .int i, .int oI, .int uI] [] σ := by
  have e1 : (q - 1).toInt = R.length := s1t hq
  have e1x : ix (q - 1) = R.length := ix_of e1
  obtain ⟨t1, t2⟩ := hT
  have t1 : (gI σ 128 R.length).toInt = X := t1
  have fin : ∀ z : Int32, z.toInt = 1 - X → bM_work_334 true NOB (wp true (d + 3)) Φ K [.ref 120, .int x1, .int x2, .int x3, .int p, .int q, .int i, .int oI, .int uI] [.int z, .int (q - 1), .ref 128] σ := by
    intro z hz
    simp only [pI, pL, pR, pV, i10, ↓reduceIte, eM_work_334, eM_work_371]
    rw [zB_v (by omega), e1x]
    exact ⟨inb_n e1 (by omega), h z hz⟩
  simp only [pI, pL, pR, pV, i10, ↓reduceIte, eM_work_126, eM_work_176, eM_work_258, eM_work_302, eM_work_333]
  try simp only [cond, zB_1, zB_0, lg_cmp_ge, lg_cmp_le, lg_cmp_gt, lg_cmp_lt, lg_cmp_eq]
  try simp only [ne_eq, not_false_eq_true, true_and, and_true, ↓reduceIte, ile, ilt, ieq, jle, jlt, jeq, Int32.toInt_toInt64, Int32.reduceToInt, Int64.reduceToInt, Int.reduceNeg, Int.reduceEq, Int.reduceLT, Int.reduceLE, and_self, and_false, false_and]
  rw [co, if_pos (by omega), if_pos (by omega), if_pos (by omega)]
  try rw [if_pos rfl]
  rw [e1x, t1]
  refine ⟨inb_n e1 (by omega), ?_⟩
  split
  · exact fin 1 (by rw [tl1]; omega)
  · exact fin 0 (by rw [tl0]; omega)
theorem wk_join {d : Nat} {Φ : Po} {K : Nat → Ct} {σ : Sg} {x1 x2 x3 p q i oI uI : Int32} {o X Y : Int} {R : List Int} (hT : TrL σ (Y :: X :: R)) (hX : X = 0 ∨ X = 1) (hY : Y = 0 ∨ Y = 1) (hq : q.toInt = R.length + 2) (hR : R.length < 100) (co : oI.toInt = o) (ho : o = 21 ∨ o = 22) (h : ∀ r q' : Int32, q'.toInt = (R.length + 1 : Nat) → r.toInt = (if o = 21 then min X Y else max X Y) → K 47 [.ref 120, .int x1, .int x2, .int x3, .int p, .int q', .int (i + 1), .int oI, .int uI] [] (sI σ 128 R.length r)) : bM_work_126 true NOB (wp true (d + 3)) Φ K [.ref 120, .int x1, .int x2, .int x3, .int p, .int q, .int i, .int oI, .int uI] [] σ := by
  simp only [pI, pL, pR, pV, i10, ↓reduceIte, eM_work_126, eM_work_176, eM_work_258, eM_work_302, eM_work_338]
  try simp only [cond, zB_1, zB_0, lg_cmp_ge, lg_cmp_le, lg_cmp_gt, lg_cmp_lt, lg_cmp_eq]
  try simp only [ne_eq, not_false_eq_true, true_and, and_true, ↓reduceIte, ile, ilt, ieq, jle, jlt, jeq, Int32.toInt_toInt64, Int32.reduceToInt, Int64.reduceToInt, Int.reduceNeg, Int.reduceEq, Int.reduceLT, Int.reduceLE, and_self, and_false, false_and]
  have e1 : (q + (-1)).toInt = (R.length + 1 : Nat) := m1t (by omega)
  generalize q + (-1) = p1 at e1 ⊢
  have e1x : ix p1 = R.length + 1 := ix_of e1
  have e2 : (p1 - 1).toInt = R.length := s1t (by omega)
  generalize p1 - 1 = p2 at e2 ⊢
  have e2x : ix p2 = R.length := ix_of e2
  obtain ⟨t1, t2, t3⟩ := hT
  have t1 : (gI σ 128 (R.length + 1)).toInt = Y := t1
  have t2 : (gI σ 128 R.length).toInt = X := t2
  rw [co, if_pos (by omega), if_pos (by omega), if_pos (by omega), if_neg (by omega), e1x, e2x]
  refine ⟨inb_n e2 (by omega), inb_n e1 (by omega), ?_⟩
  refine sM_joined (by rw [co]; exact ho) (by rw [t2]; exact hX) (by rw [t1]; exact hY) (fun z hz => ?_)
  simp only [pI, pL, pR, pV, i10, ↓reduceIte, eM_work_370, eM_work_371]
  rw [t1, t2, co] at hz
  have hzb : z.toInt = 0 ∨ z.toInt = 1 := by rw [hz]; split <;> omega
  rw [zB_v hzb, e2x]
  exact ⟨inb_n e2 (by omega), h z p1 e1 hz⟩
theorem wk_neg {d : Nat} {Φ : Po} {K : Nat → Ct} {σ : Sg} {x1 x2 x3 p q i oI uI : Int32} {o X : Int} {R : List Int} {E : En} {c : Co} (hO : Ok E c) (hE : ME σ E) (hc : mc σ 121 = c) (hS : VlL σ (X :: R)) (hp : p.toInt = R.length + 1) (hR : R.length < 100) (hX : -1000000 ≤ X ∧ X ≤ 1000000) (co : oI.toInt = o) (ho : o = 2 ∨ o = 3) (h : ∀ r : Int64, r.toInt = (if o = 2 then dbt E c X else -X) → K 47 [.ref 120, .int x1, .int x2, .int x3, .int p, .int q, .int (i + 1), .int oI, .int uI] [] (sL σ 127 R.length r)) : bM_work_126 true NOB (wp true (d + 3)) Φ K [.ref 120, .int x1, .int x2, .int x3, .int p, .int q, .int i, .int oI, .int uI] [] σ := by
  have e1 : (p - 1).toInt = R.length := s1t hp
  have e1x : ix (p - 1) = R.length := ix_of e1
  obtain ⟨t1, t2⟩ := hS
  rcases ho with rfl | rfl
  · simp only [pI, pL, pR, pV, i10, ↓reduceIte, eM_work_126, eM_work_159]
    try simp only [cond, zB_1, zB_0, lg_cmp_ge, lg_cmp_le, lg_cmp_gt, lg_cmp_lt, lg_cmp_eq]
    try simp only [ne_eq, not_false_eq_true, true_and, and_true, ↓reduceIte, ile, ilt, ieq, jle, jlt, jeq, Int32.toInt_toInt64, Int32.reduceToInt, Int64.reduceToInt, Int.reduceNeg, Int.reduceEq, Int.reduceLT, Int.reduceLE, and_self, and_false, false_and]
    rw [co]
    try rw [if_neg (by decide)]
    try rw [if_neg (by decide)]
    rw [e1x]
    refine ⟨inb_n e1 (by omega), ?_⟩
    refine sM_debtOf hO hE hc (by rw [t1]; exact hX) (fun z hz => ?_)
    simp only [pI, pL, pR, pV, i10, ↓reduceIte, eM_work_172, eM_work_371]
    rw [e1x]
    rw [t1] at hz
    exact ⟨inb_n e1 (by omega), h z hz⟩
  · simp only [pI, pL, pR, pV, i10, ↓reduceIte, eM_work_126, eM_work_172, eM_work_371]
    try simp only [cond, zB_1, zB_0, lg_cmp_ge, lg_cmp_le, lg_cmp_gt, lg_cmp_lt, lg_cmp_eq]
    try simp only [ne_eq, not_false_eq_true, true_and, and_true, ↓reduceIte, ile, ilt, ieq, jle, jlt, jeq, Int32.toInt_toInt64, Int32.reduceToInt, Int64.reduceToInt, Int.reduceNeg, Int.reduceEq, Int.reduceLT, Int.reduceLE, and_self, and_false, false_and]
    rw [co]
    try rw [if_neg (by decide)]
    try rw [if_pos rfl]
    rw [e1x]
    exact ⟨inb_n e1 (by omega), inb_n e1 (by omega), h _ (by rw [jN (by rw [t1]; omega), t1]; rfl)⟩
theorem lM_work {d : Nat} {Φ : Po} {E : En} {c : Co} {l t k : Nat} {w v f : Int} {x1 x2 x3 : Int32} {σ0 : Sg} (ht : t < 4) (hO : Ok E c) (hE : ME σ0 E) (hc : mc σ0 121 = c) (hw : w = -1 ∨ (0 ≤ w ∧ w < eN E)) (hv : v = -1 ∨ (0 ≤ v ∧ v < eV E)) (hf : 0 ≤ f ∧ f ≤ 9) (hk : k < 24) (h2 : x2.toInt = 705 * t + 1 + 4 * k) (h3 : x3.toInt = 705 * t + 97) (hto : rd σ0 123 (705 * t + 3 + 4 * k) ≤ 300) {a' b' : Nat} :
    ∀ (ops : List (Int × Int)) (a b : Nat) (s1 s2 : List Int) (σ : Sg) (p q i : Int32) (v7 v8 : Value), Wf l ops a b a' b' → s1.length = a → s2.length = b → a + b ≤ 60 → Bv s1 → Bt s2 → VlL σ s1 → TrL σ s2 → p.toInt = a → q.toInt = b → MCode σ0 t (ix i) ops → rd σ0 123 (705 * t + 3 + 4 * k) = i.toInt + ops.length → 0 ≤ i.toInt → Fr FML σ0 σ → NmL σ E c w v f (if l = 2 ∨ l = 3 then 8 else 6) →
    (∀ (σ' : Sg), Fr FML σ0 σ' → VlL σ' (evl E c w v f ops (s1, s2)).1 → TrL σ' (evl E c w v f ops (s1, s2)).2 → Bt (evl E c w v f ops (s1, s2)).2 → Φ none σ') →
    bM_work_47 true NOB (wp true (d + 3)) Φ (kM_work (d + 3) Φ) [.ref 120, .int x1, .int x2, .int x3, .int p, .int q, .int i, v7, v8] [] σ
  | [], a, b, s1, s2, σ, p, q, i, v7, v8, hW, ha, hb, hab60, hBv, hBt, hS, hT, hp, hq, hC, hi, hi0, hF, hN, h => by
    obtain ⟨rfl, rfl⟩ := hW
    simp only [pI, pL, pR, pV, i10, ↓reduceIte, eM_work_47, eM_work_377]
    have e2 : (x2 + 2).toInt = 705 * t + 3 + 4 * k := by rw [tP (by rw [show (2 : Int32).toInt = 2 from rfl]; omega), show (2 : Int32).toInt = 2 from rfl]; omega
    have e2x : ix (x2 + 2) = 705 * t + 3 + 4 * k := ix_of (by omega)
    have hrd : (gI σ 123 (705 * t + 3 + 4 * k)).toInt = i.toInt := by
      show rd σ 123 _ = _
      rw [fml_rd hF (by omega), hi]
      simp
    rw [e2x]
    simp only [ile, hrd]
    rw [if_pos (Int.le_refl _)]
    exact ⟨⟨by omega, by omega⟩, h σ hF hS hT hBt⟩
  | (o, u) :: r, a, b, s1, s2, σ, p, q, i, v7, v8, hW, ha, hb, hab60, hBv, hBt, hS, hT, hp, hq, hC, hi, hi0, hF, hN, h => by
    simp only [pI, pL, pR, pV, i10, ↓reduceIte, eM_work_47]
    have e2 : (x2 + 2).toInt = 705 * t + 3 + 4 * k := by rw [tP (by rw [show (2 : Int32).toInt = 2 from rfl]; omega), show (2 : Int32).toInt = 2 from rfl]; omega
    have e2x : ix (x2 + 2) = 705 * t + 3 + 4 * k := ix_of (by omega)
    have hlen : (((o, u) :: r).length : Int) = r.length + 1 := by simp
    have hrd : (gI σ 123 (705 * t + 3 + 4 * k)).toInt = i.toInt + (r.length + 1) := by
      show rd σ 123 _ = _
      rw [fml_rd hF (by omega), hi, hlen]
    have hixi := ix_to hi0
    have f1 : (x3 + 2 * i).toInt = 705 * t + 97 + 2 * i.toInt := by
      have : (2 * i).toInt = 2 * i.toInt := by rw [tX (by rw [show (2 : Int32).toInt = 2 from rfl]; omega)]; rfl
      rw [tP (by rw [this]; omega), this, h3]
    have f1x : ix (x3 + 2 * i) = 705 * t + 97 + 2 * ix i := ix_of (by omega)
    have f2 : (x3 + 2 * i + 1).toInt = 705 * t + 98 + 2 * i.toInt := by rw [tP (by rw [f1, tl1]; omega), f1, tl1]; omega
    have f2x : ix (x3 + 2 * i + 1) = 705 * t + 98 + 2 * ix i := ix_of (by omega)
    have co : (gI σ 123 (705 * t + 97 + 2 * ix i)).toInt = o := by
      show rd σ 123 _ = _
      rw [fml_rd hF (by omega)]
      exact hC.1.1
    have cu : (gI σ 123 (705 * t + 98 + 2 * ix i)).toInt = u := by
      show rd σ 123 _ = _
      rw [fml_rd hF (by omega)]
      exact hC.1.2
    rw [e2x, f1x, f2x]
    simp only [ile, hrd]
    rw [if_neg (by omega)]
    refine ⟨⟨by omega, by omega⟩, ⟨by omega, by omega⟩, ⟨by omega, by omega⟩, ?_⟩
    generalize gI σ 123 (705 * t + 97 + 2 * ix i) = oI at co
    generalize gI σ 123 (705 * t + 98 + 2 * ix i) = uI at cu
    have hi1 : (i + 1).toInt = i.toInt + 1 := t1 (by omega)
    have hi1x : ix (i + 1) = ix i + 1 := ix1 (by omega)
    have hC2 : MCode σ0 t (ix (i + 1)) r := by rw [hi1x]; exact hC.2
    have hi2 : rd σ0 123 (705 * t + 3 + 4 * k) = (i + 1).toInt + r.length := by rw [hi1]; omega
    have hpx : ix p = a := ix_of hp
    have hqx : ix q = b := ix_of hq
    have hpp : (p + 1).toInt = (a + 1 : Nat) := by rw [t1 (by omega)]; omega
    have hqq : (q + 1).toInt = (b + 1 : Nat) := by rw [t1 (by omega)]; omega
    have hE' := fml_ME hF hE
    have hc' : mc σ 121 = c := (fml_mc hF).trans hc
    have IH := fun a b s1 s2 σ p q v7 v8 => lM_work (d := d) (Φ := Φ) (t := t) (x1 := x1) (l := l) (a' := a') (b' := b') ht hO hE hc hw hv hf hk h2 h3 hto r a b s1 s2 σ p q (i + 1) v7 v8
    rcases hW with ⟨rfl, q1, q2, q3, hW⟩ | ⟨rfl, q1, q2, q4, q3, hW⟩ | ⟨qo, q1, hW⟩ | ⟨q1, q2, q3, hW⟩ | ⟨q1, q2, q3, hW⟩ | ⟨rfl, q1, q2, hW⟩ | ⟨qo, q1, q2, hW⟩
    · simp only [ilt, ieq, co, tl1, tl0]
      rw [if_neg (by omega)]
      try rw [if_pos rfl]
      simp only [pI, pL, pR, pV, i10, ↓reduceIte, eM_work_119, eM_work_371]
      rw [hpx]
      refine ⟨⟨by omega, by omega⟩, ?_⟩
      apply hM_work_47
      refine IH (a + 1) b (u :: s1) s2 _ _ _ _ _ hW (by simp [ha]) hb (by omega) (Bv.cons (by omega) hBv) hBt ?_ (TrL_sL _ hT) hpp hq hC2 hi2 (by omega) (hF.tr (f127 (by omega))) hN.sL h
      rw [← cu, ← Int32.toInt_toInt64]
      exact VlL_push ha hS
    · simp only [ilt, ieq, co, tl1, tl0]
      rw [if_neg (by omega), if_neg (by omega)]
      simp only [pI, pL, pR, pV, i10, ↓reduceIte, eM_work_111, eM_work_119, eM_work_371]
      have hux : ix uI = u.toNat := by unfold ix; rw [cu]
      rw [hpx, hux]
      refine ⟨⟨by omega, by omega⟩, ⟨by omega, by omega⟩, ?_⟩
      have hnm : (gI σ 126 u.toNat).toInt = nmv E c w v f u := by
        have := hN u.toNat (by split <;> omega)
        rw [show ((u.toNat : Nat) : Int) = u from by omega] at this
        exact this
      apply hM_work_47
      refine IH (a + 1) b (nmv E c w v f u :: s1) s2 _ _ _ _ _ hW (by simp [ha]) hb (by omega) (Bv.cons (nmv_r hO hw hv hf) hBv) hBt ?_ (TrL_sL _ hT) hpp hq hC2 hi2 (by omega) (hF.tr (f127 (by omega))) hN.sL h
      rw [← hnm, ← Int32.toInt_toInt64]
      exact VlL_push ha hS
    · obtain ⟨x, xs, rfl⟩ : ∃ x xs, s1 = x :: xs := by
        cases s1 with
        | nil => simp at ha; omega
        | cons x xs => exact ⟨x, xs, rfl⟩
      have hl1 : xs.length + 1 = a := by simpa using ha
      simp only [ilt, co, tl1]
      rw [if_pos (by omega)]
      refine wk_neg hO hE' hc' hS (by omega) (by omega) (hBv x List.mem_cons_self) co qo (fun z hz => ?_)
      apply hM_work_47
      refine IH a b (z.toInt :: xs) s2 _ _ _ _ _ hW ha hb hab60 (Bv.cons ?_ (fun y hy => hBv y (List.mem_cons_of_mem _ hy))) hBt (VlL_push rfl hS.2) (TrL_sL _ hT) hp hq hC2 hi2 (by omega) (hF.tr (f127 (by omega))) hN.sL ?_
      · rw [hz]
        have := hBv x List.mem_cons_self
        split
        · exact dbt_r hO _
        · omega
      · have e : stp E c w v f o u (x :: xs, s2) = (z.toInt :: xs, s2) := by
          rw [hz]
          rcases qo with rfl | rfl <;> rfl
        have e' : evl E c w v f ((o, u) :: r) (x :: xs, s2) = evl E c w v f r (z.toInt :: xs, s2) := by rw [← e]; rfl
        rw [e'] at h
        exact h
    · obtain ⟨y, x, xs, rfl⟩ : ∃ y x xs, s1 = y :: x :: xs := by
        match s1, ha with
        | [], ha => simp at ha; omega
        | [_], ha => simp at ha; omega
        | y :: x :: xs, _ => exact ⟨y, x, xs, rfl⟩
      have hl1 : xs.length + 2 = a := by simpa using ha
      simp only [ilt, co, tl1]
      rw [if_pos (by omega)]
      refine wk_two hS (by omega) (by omega) (hBv x (List.mem_cons_of_mem _ List.mem_cons_self)) (hBv y List.mem_cons_self) co ⟨q1, q2⟩ (fun z p' hp' hz => ?_)
      apply hM_work_47
      refine IH (a - 1) b (z.toInt :: xs) s2 _ _ _ _ _ hW (by simp; omega) hb (by omega) (Bv.cons (by rw [hz]; exact clip_r _) (fun y hy => hBv y (List.mem_cons_of_mem _ (List.mem_cons_of_mem _ hy)))) hBt (VlL_push rfl hS.2.2) (TrL_sL _ hT) (by omega) hq hC2 hi2 (by omega) (hF.tr (f127 (by omega))) hN.sL ?_
      have e : stp E c w v f o u (y :: x :: xs, s2) = (z.toInt :: xs, s2) := by
        rw [hz]
        have j : o = 4 ∨ o = 5 ∨ o = 6 ∨ o = 7 ∨ o = 8 := by omega
        rcases j with rfl | rfl | rfl | rfl | rfl <;> rfl
      have e' : evl E c w v f ((o, u) :: r) (y :: x :: xs, s2) = evl E c w v f r (z.toInt :: xs, s2) := by rw [← e]; rfl
      rw [e'] at h
      exact h
    · obtain ⟨y, x, rfl⟩ : ∃ y x, s1 = [y, x] := by
        match s1, ha with
        | [], ha => simp at ha; omega
        | [_], ha => simp at ha; omega
        | [y, x], _ => exact ⟨y, x, rfl⟩
        | _ :: _ :: _ :: _, ha => simp at ha; omega
      simp only [ilt, co, tl1]
      rw [if_pos (by omega)]
      refine wk_cmp hS (by omega) hq (by omega) co ⟨q1, q2⟩ (fun z p' hp' hz => ?_)
      apply hM_work_47
      refine IH 0 (b + 1) [] (z.toInt :: s2) _ _ _ _ _ hW rfl (by simp [hb]) (by omega) (fun _ h => by cases h) (Bt.cons (by rw [hz]; exact bi_r _) hBt) trivial (TrL_push hb hT) hp' hqq hC2 hi2 (by omega) (hF.tr (f128 (by omega))) hN.sI ?_
      have e : stp E c w v f o u ([y, x], s2) = ([], z.toInt :: s2) := by
        rw [hz]
        have j : o = 10 ∨ o = 11 ∨ o = 12 ∨ o = 13 ∨ o = 14 ∨ o = 15 := by omega
        rcases j with rfl | rfl | rfl | rfl | rfl | rfl <;> rfl
      have e' : evl E c w v f ((o, u) :: r) ([y, x], s2) = evl E c w v f r ([], z.toInt :: s2) := by rw [← e]; rfl
      rw [e'] at h
      exact h
    · obtain rfl : s1 = [] := List.length_eq_zero_iff.mp (by omega)
      obtain ⟨x, xs, rfl⟩ : ∃ x xs, s2 = x :: xs := by
        cases s2 with
        | nil => simp at hb; omega
        | cons x xs => exact ⟨x, xs, rfl⟩
      have hl1 : xs.length + 1 = b := by simpa using hb
      simp only [ilt, co, tl1]
      rw [if_pos (by omega)]
      have hx01 := hBt x List.mem_cons_self
      refine wk_not hT hx01 (by omega) (by omega) co (fun z hz => ?_)
      apply hM_work_47
      refine IH 0 b [] (z.toInt :: xs) _ _ _ _ _ hW rfl hb (by omega) (fun _ h => by cases h) (Bt.cons (by omega) (fun y hy => hBt y (List.mem_cons_of_mem _ hy))) trivial (TrL_push rfl hT.2) (by omega) hq hC2 hi2 (by omega) (hF.tr (f128 (by omega))) hN.sI ?_
      rw [hz]
      exact h
    · obtain rfl : s1 = [] := List.length_eq_zero_iff.mp (by omega)
      obtain ⟨y, x, xs, rfl⟩ : ∃ y x xs, s2 = y :: x :: xs := by
        match s2, hb with
        | [], hb => simp at hb; omega
        | [_], hb => simp at hb; omega
        | y :: x :: xs, _ => exact ⟨y, x, xs, rfl⟩
      have hl1 : xs.length + 2 = b := by simpa using hb
      simp only [ilt, co, tl1]
      rw [if_pos (by omega)]
      have hx01 := hBt x (List.mem_cons_of_mem _ List.mem_cons_self)
      have hy01 := hBt y List.mem_cons_self
      refine wk_join hT hx01 hy01 (by omega) (by omega) co qo (fun z q' hq' hz => ?_)
      apply hM_work_47
      refine IH 0 (b - 1) [] (z.toInt :: xs) _ _ _ _ _ hW rfl (by simp; omega) (by omega) (fun _ h => by cases h) (Bt.cons (by rw [hz]; split <;> omega) (fun y hy => hBt y (List.mem_cons_of_mem _ (List.mem_cons_of_mem _ hy)))) trivial (TrL_push rfl hT.2.2) (by omega) (by omega) hC2 hi2 (by omega) (hF.tr (f128 (by omega))) hN.sI ?_
      have e : stp E c w v f o u ([], y :: x :: xs) = ([], z.toInt :: xs) := by
        rw [hz]
        rcases qo with rfl | rfl <;> rfl
      have e' : evl E c w v f ((o, u) :: r) ([], y :: x :: xs) = evl E c w v f r ([], z.toInt :: xs) := by rw [← e]; rfl
      rw [e'] at h
      exact h
theorem ME.cnt {σ : Sg} {E : En} (h : ME σ E) {t : Nat} (ht : t < 4) (hr : rd σ 121 3 = t) : 0 ≤ rd σ 123 (705 * t) ∧ rd σ 123 (705 * t) ≤ 24 := (h.2.2.2.2.1.2.2 t ht hr).1
theorem lM_clauseOf {d : Nat} {Φ : Po} {σ : Sg} {E : En} {l t : Nat} {lI : Int32} (hE : ME σ E) (hl : lI.toInt = l ∧ l < 5) (ht : t < 4) (hr : rd σ 121 3 = t) (h0 : eL E l = none → ∀ v : Int32, v.toInt = -1 → Φ (some (.int v)) σ) (h1 : ∀ (k : Nat) (v : Int32) (ops : List (Int × Int)), v.toInt = k → k < 24 → eL E l = some ops → (0 ≤ rd σ 123 (705 * t + 2 + 4 * k) ∧ rd σ 123 (705 * t + 3 + 4 * k) = rd σ 123 (705 * t + 2 + 4 * k) + ops.length ∧ rd σ 123 (705 * t + 3 + 4 * k) ≤ 300 ∧ MCode σ t (rd σ 123 (705 * t + 2 + 4 * k)).toNat ops) → Φ (some (.int v)) σ) :
    ∀ (n : Nat) (x : Int32), x.toInt + n = 24 → 0 ≤ x.toInt → (∀ j : Nat, (j : Int) < x.toInt → rd σ 123 (705 * t + 1 + 4 * j) ≠ l) → bM_clauseOf_2 true NOB (wp true d) Φ (kM_clauseOf d Φ) [.ref 120, .int lI, .int x] [] σ := by
  obtain ⟨c0, c1⟩ := hE.cnt ht hr
  obtain ⟨q1, q2⟩ := hE.2.2.2.2.1.2.2 t ht hr
  have q2 := q2 l hl.2
  have er : (gI σ 121 (ix 3)).toInt = t := hr
  have e7 : (705 * gI σ 121 (ix 3)).toInt = 705 * t := by rw [tX (by rw [er, show (705 : Int32).toInt = 705 from rfl]; omega), er]; rfl
  have e7x : ix (705 * gI σ 121 (ix 3)) = 705 * t := ix_of (by omega)
  have ec : (gI σ 123 (705 * t)).toInt = rd σ 123 (705 * t) := rfl
  have fin0 : ∀ x : Int32, 0 ≤ x.toInt → rd σ 123 (705 * t) ≤ x.toInt → (∀ j : Nat, (j : Int) < x.toInt → rd σ 123 (705 * t + 1 + 4 * j) ≠ l) → Φ (some (.int (-1))) σ := by
    intro x hx0 hx hj
    refine h0 ?_ _ rfl
    cases hx : eL E l with
    | none => rfl
    | some ops =>
      rw [hx] at q2
      obtain ⟨k, k1, k2, -⟩ := q2
      exact absurd k2 (hj k (by omega))
  intro n
  induction n with
  | zero =>
    intro x hx hx0 hj
    simp only [pI, pL, pR, pV, i10, ↓reduceIte, eM_clauseOf_2, eM_clauseOf_63]
    simp only [ilt, er]
    rw [if_neg (by rw [tl0]; omega), e7x]
    simp only [ile, ec]
    rw [if_pos (by omega)]
    exact ⟨⟨by decide, by decide⟩, ⟨by decide, by decide⟩, ⟨by omega, by omega⟩, fin0 x hx0 (by omega) hj⟩
  | succ n ih =>
    intro x hx hx0 hj
    simp only [pI, pL, pR, pV, i10, ↓reduceIte, eM_clauseOf_2, eM_clauseOf_63]
    have e8 : (705 * gI σ 121 (ix 3) + 1 + 4 * x).toInt = 705 * t + 1 + 4 * x.toInt := by
      have a1 : (4 * x).toInt = 4 * x.toInt := by rw [tX (by rw [show (4 : Int32).toInt = 4 from rfl]; omega)]; rfl
      have a2 : (705 * gI σ 121 (ix 3) + 1).toInt = 705 * t + 1 := by rw [tP (by rw [e7, tl1]; omega), e7, tl1]
      rw [tP (by rw [a1, a2]; omega), a1, a2]
    have hxx := ix_to hx0
    have e8x : ix (705 * gI σ 121 (ix 3) + 1 + 4 * x) = 705 * t + 1 + 4 * ix x := ix_of (by omega)
    simp only [ilt, er]
    rw [if_neg (by rw [tl0]; omega), e7x]
    simp only [ile, ec]
    refine ⟨⟨by decide, by decide⟩, ⟨by decide, by decide⟩, ⟨by omega, by omega⟩, ?_⟩
    split
    next z => exact fin0 x hx0 z hj
    next z =>
      rw [e8x]
      refine ⟨⟨by decide, by decide⟩, ⟨by omega, by omega⟩, ?_⟩
      have es : (gI σ 123 (705 * t + 1 + 4 * ix x)).toInt = rd σ 123 (705 * t + 1 + 4 * ix x) := rfl
      simp only [ieq, es, hl.1]
      split
      next y =>
        cases hx' : eL E l with
        | none =>
          rw [hx'] at q2
          exact absurd y (q2 (ix x) (by omega))
        | some ops =>
          have q3 := q2
          rw [hx'] at q3
          obtain ⟨k, k1, k2, k3, k4⟩ := q3
          have : k = ix x := by
            rcases Nat.lt_trichotomy k (ix x) with g | g | g
            · exact absurd k2 (hj k (by omega))
            · exact g
            · exact absurd y (k3 _ g)
          subst this
          exact h1 (ix x) x ops (by omega) (by omega) hx' k4
      next y =>
        simp only [pI, pL, pR, pV, i10, ↓reduceIte, eM_clauseOf_57]
        refine hM_clauseOf_2 _ _ _ _ _ (ih (x + 1) ?_ ?_ ?_)
        · rw [t1 (by omega)]; omega
        · rw [t1 (by omega)]; omega
        · intro j hjx
          rw [t1 (by omega)] at hjx
          by_cases e : j = ix x
          · subst e; exact y
          · exact hj j (by omega)
theorem sM_clauseOf {d : Nat} {Φ : Po} {σ : Sg} {E : En} {l : Nat} {lI : Int32} (hE : ME σ E) (hl : lI.toInt = l ∧ l < 5) (h0 : eL E l = none → ∀ v : Int32, v.toInt = -1 → Φ (some (.int v)) σ) (h1 : ∀ (t k : Nat) (v : Int32) (ops : List (Int × Int)), t < 4 → rd σ 121 3 = t → v.toInt = k → k < 24 → eL E l = some ops → (0 ≤ rd σ 123 (705 * t + 2 + 4 * k) ∧ rd σ 123 (705 * t + 3 + 4 * k) = rd σ 123 (705 * t + 2 + 4 * k) + ops.length ∧ rd σ 123 (705 * t + 3 + 4 * k) ≤ 300 ∧ MCode σ t (rd σ 123 (705 * t + 2 + 4 * k)).toNat ops) → Φ (some (.int v)) σ) : wp true (d + 1) nM_clauseOf [.ref 120, .int lI] σ Φ := by
  apply wM_clauseOf
  simp only [pI, pL, pR, pV, i10, ↓reduceIte, eM_clauseOf_0]
  obtain ⟨g1, g2, g3⟩ := hE.2.2.2.2.1
  by_cases hr : rd σ 121 3 = -1
  · simp only [pI, pL, pR, pV, i10, ↓reduceIte, eM_clauseOf_2, eM_clauseOf_63]
    have er : (gI σ 121 (ix 3)).toInt = -1 := hr
    simp only [ilt, er]
    rw [if_pos (by decide)]
    exact ⟨⟨by decide, by decide⟩, h0 (g2 hr l) _ rfl⟩
  · have hrt : rd σ 121 3 = ((rd σ 121 3).toNat : Nat) := by omega
    exact lM_clauseOf hE hl (t := (rd σ 121 3).toNat) (by omega) hrt h0 (fun k v ops a b c e => h1 _ k v ops (by omega) hrt a b c e) 24 0 rfl (by decide) (fun j hj => by rw [tl0] at hj; omega)
/-- what a law says, its names being told -/
theorem work_ok {d : Nat} {Φ : Po} {E : En} {c : Co} {l t k : Nat} {w v f : Int} {kI : Int32} {σ : Sg} {ops : List (Int × Int)} (hl : l < 5) (ht : t < 4) (hr : rd σ 121 3 = t) (hO : Ok E c) (hE : ME σ E) (hc : mc σ 121 = c) (hw : w = -1 ∨ (0 ≤ w ∧ w < eN E)) (hv : v = -1 ∨ (0 ≤ v ∧ v < eV E)) (hf : 0 ≤ f ∧ f ≤ 9) (hkI : kI.toInt = k) (hk : k < 24) (ho : eL E l = some ops) (hM : 0 ≤ rd σ 123 (705 * t + 2 + 4 * k) ∧ rd σ 123 (705 * t + 3 + 4 * k) = rd σ 123 (705 * t + 2 + 4 * k) + ops.length ∧ rd σ 123 (705 * t + 3 + 4 * k) ≤ 300 ∧ MCode σ t (rd σ 123 (705 * t + 2 + 4 * k)).toNat ops) (hN : NmL σ E c w v f (if l = 2 ∨ l = 3 then 8 else 6)) (h : ∀ σ' : Sg, Fr FML σ σ' → (if l = 0 then rd σ' 128 0 = lawE E c l w v f ops ∧ (rd σ' 128 0 = 0 ∨ rd σ' 128 0 = 1) else (gL σ' 127 0).toInt = lawE E c l w v f ops) → Φ none σ') : wp true (d + 4) nM_work [.ref 120, .int kI] σ Φ := by
  obtain ⟨m1, m2, m3, m4⟩ := hM
  have hLw := hE.2.2.2.2.2 l ops hl ho
  apply wM_work
  simp only [pI, pL, pR, pV, i10, ↓reduceIte, eM_work_0]
  have er : (gI σ 121 (ix 3)).toInt = t := hr
  have e7 : (705 * gI σ 121 (ix 3)).toInt = 705 * t := by rw [tX (by rw [er, show (705 : Int32).toInt = 705 from rfl]; omega), er]; rfl
  have e8 : (705 * gI σ 121 (ix 3) + 1 + 4 * kI).toInt = 705 * t + 1 + 4 * k := by
    have a1 : (4 * kI).toInt = 4 * k := by rw [tX (by rw [show (4 : Int32).toInt = 4 from rfl]; omega), hkI]; rfl
    have a2 : (705 * gI σ 121 (ix 3) + 1).toInt = 705 * t + 1 := by rw [tP (by rw [e7, tl1]; omega), e7, tl1]
    rw [tP (by rw [a1, a2]; omega), a1, a2]
  have e9 : (705 * gI σ 121 (ix 3) + 97).toInt = 705 * t + 97 := by rw [tP (by rw [e7, show (97 : Int32).toInt = 97 from rfl]; omega), e7]; rfl
  have e10 : (705 * gI σ 121 (ix 3) + 1 + 4 * kI + 1).toInt = 705 * t + 2 + 4 * k := by rw [tP (by rw [e8, tl1]; omega), e8, tl1]; omega
  have e10x : ix (705 * gI σ 121 (ix 3) + 1 + 4 * kI + 1) = 705 * t + 2 + 4 * k := ix_of (by omega)
  rw [e10x]
  refine ⟨⟨by decide, by decide⟩, ⟨by decide, by decide⟩, ⟨by omega, by omega⟩, ?_⟩
  have efr : (gI σ 123 (705 * t + 2 + 4 * k)).toInt = rd σ 123 (705 * t + 2 + 4 * k) := rfl
  refine lM_work (d := d) (Φ := Φ) (l := l) ht hO hE hc hw hv hf hk e8 e9 m3 ops 0 0 [] [] σ 0 0 _ _ _ hLw.2 rfl rfl (by omega) (fun _ h => by cases h) (fun _ h => by cases h) trivial trivial rfl rfl m4 (by omega) (by omega) Fr.rf hN (fun σ' hF hV hT hBt => h σ' hF ?_)
  have hlen := evl_len (E := E) (c := c) (w := w) (v := v) (f := f) ops 0 0 [] [] hLw.2 rfl rfl
  unfold lawE
  generalize evl E c w v f ops ([], []) = q at hlen hV hT hBt ⊢
  obtain ⟨p1, p2⟩ := q
  split
  next z =>
    simp only [if_pos z] at hlen
    match p2, hlen.2, hT, hBt with
    | [x], _, hT, hBt =>
      have e : rd σ' 128 0 = x := hT.1
      refine ⟨e, ?_⟩
      rw [e]
      exact hBt x List.mem_cons_self
  next z =>
    simp only [if_neg z] at hlen
    match p1, hlen.1, hV with
    | [x], _, hV => exact hV.1
theorem sM_says {d : Nat} {Φ : Po} {E : En} {c : Co} {l : Nat} {w v f : Int} {lI wo tp : Int32} {σ : Sg} (hl : lI.toInt = l ∧ l < 5) (hl0 : l ≠ 0) (hO : Ok E c) (hE : ME σ E) (hc : mc σ 121 = c) (hw : w = -1 ∨ (0 ≤ w ∧ w < eN E)) (hv : v = -1 ∨ (0 ≤ v ∧ v < eV E)) (hf : 0 ≤ f ∧ f ≤ 9) (hN : NmL σ E c w v f (if l = 2 ∨ l = 3 then 8 else 6)) (htp : 0 ≤ tp.toInt) (h : ∀ (σ' : Sg) (r : Int32), Fr FML σ σ' → r.toInt = clamp 0 tp.toInt (match eL E l with | none => wo.toInt | some ops => lawE E c l w v f ops) → Φ (some (.int r)) σ') : wp true (d + 5) nM_says [.ref 120, .int lI, .int wo, .int tp] σ Φ := by
  apply wM_says
  simp only [pI, pL, pR, pV, i10, ↓reduceIte, eM_says_0]
  refine sM_clauseOf hE hl (fun ho x hx => ?_) (fun t k x ops ht hr hx hk ho hM => ?_)
  · simp only [pI, pL, pR, pV, i10, ↓reduceIte, eM_says_5, eM_says_18, eM_says_34]
    try simp only [cond, zB_1, zB_0, lg_cmp_ge, lg_cmp_le, lg_cmp_gt, lg_cmp_lt, lg_cmp_eq]
    try simp only [ne_eq, not_false_eq_true, true_and, and_true, ↓reduceIte, ile, ilt, ieq, jle, jlt, jeq, Int32.toInt_toInt64, Int32.reduceToInt, Int64.reduceToInt, Int.reduceNeg, Int.reduceEq, Int.reduceLT, Int.reduceLE, and_self, and_false, false_and]
    rw [hx, if_pos (by decide)]
    try rw [if_neg (by decide)]
    refine sM_cut (by rw [tl0]; omega) (fun r hr => ?_)
    simp only [pI, pL, pR, pV, i10, ↓reduceIte, eM_says_39]
    refine h _ _ Fr.rf ?_
    rw [hr, ho, Int32.toInt_toInt64]
    rfl
  · simp only [pI, pL, pR, pV, i10, ↓reduceIte, eM_says_5]
    try simp only [cond, zB_1, zB_0, lg_cmp_ge, lg_cmp_le, lg_cmp_gt, lg_cmp_lt, lg_cmp_eq]
    try simp only [ne_eq, not_false_eq_true, true_and, and_true, ↓reduceIte, ile, ilt, ieq, jle, jlt, jeq, Int32.toInt_toInt64, Int32.reduceToInt, Int64.reduceToInt, Int.reduceNeg, Int.reduceEq, Int.reduceLT, Int.reduceLE, and_self, and_false, false_and]
    rw [hx, if_neg (by omega)]
    refine work_ok hl.2 ht hr hO hE hc hw hv hf hx hk ho hM hN (fun σ' hF hres => ?_)
    rw [if_neg hl0] at hres
    simp only [pI, pL, pR, pV, i10, ↓reduceIte, eM_says_18, eM_says_28, eM_says_34]
    try simp only [cond, zB_1, zB_0, lg_cmp_ge, lg_cmp_le, lg_cmp_gt, lg_cmp_lt, lg_cmp_eq]
    try simp only [ne_eq, not_false_eq_true, true_and, and_true, ↓reduceIte, ile, ilt, ieq, jle, jlt, jeq, Int32.toInt_toInt64, Int32.reduceToInt, Int64.reduceToInt, Int.reduceNeg, Int.reduceEq, Int.reduceLT, Int.reduceLE, and_self, and_false, false_and]
    rw [hx, if_pos (by omega)]
    refine ⟨⟨by decide, by decide⟩, ?_⟩
    refine sM_cut (by rw [tl0]; omega) (fun r hr => ?_)
    simp only [pI, pL, pR, pV, i10, ↓reduceIte, eM_says_39]
    refine h _ _ hF ?_
    rw [hr, ho]
    show clamp 0 tp.toInt (gL σ' 127 0).toInt = _
    rw [hres]
theorem sM_isComing {d : Nat} {Φ : Po} {E : En} {c : Co} {σ : Sg} {w : Int32} (hO : Ok E c) (hE : ME σ E) (hc : mc σ 121 = c) (hw : 0 ≤ w.toInt ∧ w.toInt < eN E) (h : ∀ (σ' : Sg) (r : Int32), Fr FML σ σ' → r.toInt = bi (comesF E c (ix w)) → Φ (some (.int r)) σ') : wp true (d + 5) nM_isComing [.ref 120, .int w] σ Φ := by
  apply wM_isComing
  simp only [pI, pL, pR, pV, i10, ↓reduceIte, eM_isComing_0]
  have hn := hO.1
  have hw' : 0 ≤ w.toInt ∧ w.toInt < 6 := by omega
  have hwn : ix w < eN E := by unfold ix; omega
  have hwt := ix_to hw.1
  unfold comesF at h
  refine sM_clauseOf hE (l := 0) ⟨rfl, by omega⟩ (fun ho x hx => ?_) (fun t k x ops ht hr hx hk ho hM => ?_)
  · simp only [pI, pL, pR, pV, i10, ↓reduceIte, eM_isComing_5]
    try simp only [cond, zB_1, zB_0, lg_cmp_ge, lg_cmp_le, lg_cmp_gt, lg_cmp_lt, lg_cmp_eq]
    try simp only [ne_eq, not_false_eq_true, true_and, and_true, ↓reduceIte, ile, ilt, ieq, jle, jlt, jeq, Int32.toInt_toInt64, Int32.reduceToInt, Int64.reduceToInt, Int.reduceNeg, Int.reduceEq, Int.reduceLT, Int.reduceLE, and_self, and_false, false_and]
    rw [hx]
    try rw [if_neg (by decide)]
    exact h _ _ Fr.rf (by rw [ho]; rfl)
  · simp only [pI, pL, pR, pV, i10, ↓reduceIte, eM_isComing_5, eM_isComing_12]
    try simp only [cond, zB_1, zB_0, lg_cmp_ge, lg_cmp_le, lg_cmp_gt, lg_cmp_lt, lg_cmp_eq]
    try simp only [ne_eq, not_false_eq_true, true_and, and_true, ↓reduceIte, ile, ilt, ieq, jle, jlt, jeq, Int32.toInt_toInt64, Int32.reduceToInt, Int64.reduceToInt, Int.reduceNeg, Int.reduceEq, Int.reduceLT, Int.reduceLE, and_self, and_false, false_and]
    rw [hx, if_pos (by omega)]
    refine sM_getO hw' (fun o h1 => ?_)
    simp only [pI, pL, pR, pV, i10, ↓reduceIte, eM_isComing_20]
    refine sM_getF hw' (fun f h2 => ?_)
    simp only [pI, pL, pR, pV, i10, ↓reduceIte, eM_isComing_26]
    rw [hc] at h1 h2
    refine sM_name hO hE hc hw h1 (-1) (fun σ1 hF1 hN _ => ?_)
    simp only [pI, pL, pR, pV, i10, ↓reduceIte, eM_isComing_29]
    have hfb := (hO.2.2.2.2.1 _ hwn).2.2.1
    refine work_ok (l := 0) (f := f.toInt) (by omega) ht ((fml_rd hF1 (by omega)).trans hr) hO (fml_ME hF1 hE) ((fml_mc hF1).trans hc) (Or.inr hw) (Or.inl rfl) (by rw [h2]; exact hfb) hx hk ho ?_ (by simpa using hN) (fun σ' hF hres => ?_)
    · rw [fml_rd hF1 (by omega), fml_rd hF1 (by omega)]
      exact ⟨hM.1, hM.2.1, hM.2.2.1, MCode.fr hF1 (fun _ => inS3 (by omega)) _ _ hM.2.2.2⟩
    · rw [if_pos rfl] at hres
      simp only [pI, pL, pR, pV, i10, ↓reduceIte, eM_isComing_34]
      have e : (gI σ' 128 (ix 0)).toInt = lawE E c 0 w.toInt (-1) f.toInt ops := hres.1
      have hz : zB (gI σ' 128 (ix 0)) = true := zB_v hres.2
      rw [hz]
      refine ⟨⟨by decide, by decide⟩, h _ _ (hF1.tr hF) ?_⟩
      rw [ho]
      show _ = bi (decide _)
      rw [hwt, ← h2]
      have h01 : (gI σ' 128 (ix 0)).toInt = 0 ∨ (gI σ' 128 (ix 0)).toInt = 1 := hres.2
      rw [← e]
      rcases h01 with g | g <;> rw [g] <;> rfl
theorem sM_blowsOf {d : Nat} {Φ : Po} {E : En} {c : Co} {σ : Sg} {w o f : Int32} (hO : Ok E c) (hE : ME σ E) (hc : mc σ 121 = c) (hw : 0 ≤ w.toInt ∧ w.toInt < eN E) (ho : o.toInt = c (ix w)) (hf : 0 ≤ f.toInt ∧ f.toInt ≤ 9) (h : ∀ (σ' : Sg) (r : Int32), Fr FML σ σ' → r.toInt = clamp 0 9 (match eL E 1 with | none => (c (ix w)).tdiv 10 | some ops => lawE E c 1 w.toInt (-1) f.toInt ops) → Φ (some (.int r)) σ') : wp true (d + 6) nM_blowsOf [.ref 120, .int w, .int o, .int f] σ Φ := by
  apply wM_blowsOf
  simp only [pI, pL, pR, pV, i10, ↓reduceIte, eM_blowsOf_0]
  refine sM_name hO hE hc hw ho (-1) (fun σ1 hF1 hN _ => ?_)
  simp only [pI, pL, pR, pV, i10, ↓reduceIte, eM_blowsOf_7]
  refine ⟨by decide, ?_⟩
  refine sM_says (l := 1) ⟨rfl, by omega⟩ (by omega) hO (fml_ME hF1 hE) ((fml_mc hF1).trans hc) (Or.inr hw) (Or.inl rfl) hf (by simpa using hN) (by decide) (fun σ2 r hF2 hr => ?_)
  simp only [pI, pL, pR, pV, i10, ↓reduceIte, eM_blowsOf_18]
  refine h _ _ (hF1.tr hF2) ?_
  rw [hr, tDt (by decide), ho]
  rfl
theorem sM_blowsNow {d : Nat} {Φ : Po} {E : En} {c : Co} {σ : Sg} {w : Int32} (hO : Ok E c) (hE : ME σ E) (hc : mc σ 121 = c) (hw : 0 ≤ w.toInt ∧ w.toInt < eN E) (h : ∀ (σ' : Sg) (r : Int32), Fr FML σ σ' → r.toInt = blowsF E c (ix w) → Φ (some (.int r)) σ') : wp true (d + 7) nM_blowsNow [.ref 120, .int w] σ Φ := by
  apply wM_blowsNow
  simp only [pI, pL, pR, pV, i10, ↓reduceIte, eM_blowsNow_0]
  have hn := hO.1
  have hw' : 0 ≤ w.toInt ∧ w.toInt < 6 := by omega
  have hwn : ix w < eN E := by unfold ix; omega
  have hwt := ix_to hw.1
  refine sM_getO hw' (fun o h1 => ?_)
  simp only [pI, pL, pR, pV, i10, ↓reduceIte, eM_blowsNow_8]
  refine sM_getF hw' (fun f h2 => ?_)
  simp only [pI, pL, pR, pV, i10, ↓reduceIte, eM_blowsNow_14]
  rw [hc] at h1 h2
  have hfb := (hO.2.2.2.2.1 _ hwn).2.2.1
  refine sM_blowsOf hO hE hc hw h1 (by rw [h2]; exact hfb) (fun σ' r hF hr => ?_)
  simp only [pI, pL, pR, pV, i10, ↓reduceIte, eM_blowsNow_17]
  refine h _ _ hF ?_
  rw [hr, h2, ← hwt]
  rfl
theorem sM_duesOf {d : Nat} {Φ : Po} {E : En} {c : Co} {σ : Sg} {w : Int32} (hO : Ok E c) (hE : ME σ E) (hc : mc σ 121 = c) (hw : 0 ≤ w.toInt ∧ w.toInt < eN E) (h : ∀ (σ' : Sg) (r : Int32), Fr FML σ σ' → r.toInt = duesF E c (ix w) → Φ (some (.int r)) σ') : wp true (d + 6) nM_duesOf [.ref 120, .int w] σ Φ := by
  apply wM_duesOf
  simp only [pI, pL, pR, pV, i10, ↓reduceIte, eM_duesOf_0]
  have hn := hO.1
  have hw' : 0 ≤ w.toInt ∧ w.toInt < 6 := by omega
  have hwn : ix w < eN E := by unfold ix; omega
  have hwt := ix_to hw.1
  refine sM_getO hw' (fun o h1 => ?_)
  simp only [pI, pL, pR, pV, i10, ↓reduceIte, eM_duesOf_8]
  refine sM_getF hw' (fun f h2 => ?_)
  simp only [pI, pL, pR, pV, i10, ↓reduceIte, eM_duesOf_14]
  rw [hc] at h1 h2
  have hfb := (hO.2.2.2.2.1 _ hwn).2.2.1
  refine sM_name hO hE hc hw h1 (-1) (fun σ1 hF1 hN _ => ?_)
  simp only [pI, pL, pR, pV, i10, ↓reduceIte, eM_duesOf_17]
  refine sM_getD hw' (fun u h3 => ?_)
  simp only [pI, pL, pR, pV, i10, ↓reduceIte, eM_duesOf_25]
  refine sM_says (l := 4) (f := f.toInt) ⟨rfl, by omega⟩ (by omega) hO (fml_ME hF1 hE) ((fml_mc hF1).trans hc) (Or.inr hw) (Or.inl rfl) (by rw [h2]; exact hfb) (by simpa using hN) (by decide) (fun σ2 r hF2 hr => ?_)
  simp only [pI, pL, pR, pV, i10, ↓reduceIte, eM_duesOf_30]
  refine h _ _ (hF1.tr hF2) ?_
  rw [hr, h3, fml_mc hF1, hc, h2, ← hwt]
  rfl
theorem sM_takesOf {d : Nat} {Φ : Po} {E : En} {c : Co} {σ : Sg} {w v f : Int32} (hO : Ok E c) (hE : ME σ E) (hc : mc σ 121 = c) (hw : 0 ≤ w.toInt ∧ w.toInt < eN E) (hv : 0 ≤ v.toInt ∧ v.toInt < eV E) (hf : 0 ≤ f.toInt ∧ f.toInt ≤ 9) (h : ∀ (σ' : Sg) (r : Int32), Fr FML σ σ' → r.toInt = takesF E c (ix w) (ix v) f.toInt → Φ (some (.int r)) σ') : wp true (d + 6) nM_takesOf [.ref 120, .int w, .int v, .int f] σ Φ := by
  apply wM_takesOf
  simp only [pI, pL, pR, pV, i10, ↓reduceIte, eM_takesOf_0]
  have hn := hO.1
  have hnv := hO.2.1
  have hvw : 0 ≤ v.toInt ∧ v.toInt < 6 := by omega
  have hwt := ix_to hw.1
  have hvt := ix_to hv.1
  have hvn : ix v < eV E := by unfold ix; omega
  refine sM_nameVillage hO hE hc (Or.inr hw) hv (by omega) (fun σ1 hF1 hN => ?_)
  simp only [pI, pL, pR, pV, i10, ↓reduceIte, eM_takesOf_7]
  refine sM_of (60 + 4 * ix v) (j := 0) rfl (by omega) hvw (by omega) (fun y1 h1 => ?_)
  simp only [pI, pL, pR, pV, i10, ↓reduceIte, eM_takesOf_16]
  have hE1 := fml_ME hF1 hE
  have h1 : y1.toInt = eR E (ix v) := by rw [h1]; exact hE1.2.2.2.1 _ (ix6 hvw)
  have hrb := (hO.2.2.2.2.2 _ hvn).1
  refine sM_says (l := 2) ⟨rfl, by omega⟩ (by omega) hO hE1 ((fml_mc hF1).trans hc) (Or.inr hw) (Or.inr hv) hf (by simpa using hN) (by decide) (fun σ2 r hF2 hr => ?_)
  simp only [pI, pL, pR, pV, i10, ↓reduceIte, eM_takesOf_22]
  refine h _ _ (hF1.tr hF2) ?_
  rw [hr, tM (by omega), h1]
  unfold takesF
  rw [hwt, hvt]
  rfl
theorem sM_catchOf {d : Nat} {Φ : Po} {E : En} {c : Co} {σ : Sg} {w v f : Int32} (hO : Ok E c) (hE : ME σ E) (hc : mc σ 121 = c) (hw : w.toInt = -1 ∨ (0 ≤ w.toInt ∧ w.toInt < eN E)) (hf0 : w.toInt = -1 → f.toInt = 0) (hv : 0 ≤ v.toInt ∧ v.toInt < eV E) (hf : 0 ≤ f.toInt ∧ f.toInt ≤ 9) (h : ∀ (σ' : Sg) (r : Int32), Fr FML σ σ' → r.toInt = catchF E c w.toInt (ix v) f.toInt → Φ (some (.int r)) σ') : wp true (d + 6) nM_catchOf [.ref 120, .int w, .int v, .int f] σ Φ := by
  apply wM_catchOf
  simp only [pI, pL, pR, pV, i10, ↓reduceIte, eM_catchOf_0]
  have hvt := ix_to hv.1
  refine sM_nameVillage hO hE hc hw hv hf0 (fun σ1 hF1 hN => ?_)
  simp only [pI, pL, pR, pV, i10, ↓reduceIte, eM_catchOf_7, eM_catchOf_18, eM_catchOf_19]
  have cn : (w = -1) = (w.toInt = -1) := by rw [ieq]; rfl
  simp only [cn]
  have hE1 := fml_ME hF1 hE
  unfold catchF at h
  split
  next z =>
    refine sM_says (l := 3) ⟨rfl, by omega⟩ (by omega) hO hE1 ((fml_mc hF1).trans hc) hw (Or.inr hv) hf (by simpa using hN) (by decide) (fun σ2 r hF2 hr => ?_)
    simp only [pI, pL, pR, pV, i10, ↓reduceIte, eM_catchOf_24]
    refine h _ _ (hF1.tr hF2) ?_
    rw [hr, if_pos z, hvt]
    rfl
  next z =>
    refine sM_says (l := 3) ⟨rfl, by omega⟩ (by omega) hO hE1 ((fml_mc hF1).trans hc) hw (Or.inr hv) hf (by simpa using hN) (by decide) (fun σ2 r hF2 hr => ?_)
    simp only [pI, pL, pR, pV, i10, ↓reduceIte, eM_catchOf_24]
    refine h _ _ (hF1.tr hF2) ?_
    rw [hr, if_neg z, hvt]
    rfl
