/-! PLAYED: a clause in the class -/
def CanY (n : Int) (x1 x2 x3 : Int32) : Prop := (0 ≤ x1.toInt ∧ x1.toInt < n) ∧ (0 ≤ x2.toInt ∧ x2.toInt < n) ∧ x1.toInt ≠ x2.toInt ∧ (0 ≤ x3.toInt ∧ x3.toInt ≤ 99)
def wayC (s : Sg) (x1 x2 x3 : Int32) : Sg := sI (sI s 36 (6 * ix x1 + ix x2) x3) 36 (6 * ix x2 + ix x1) x3
theorem sW_tellWay {d : Nat} {Φ : Po} {σ : Sg} {x1 x2 x3 : Int32} (hb : 0 ≤ rd σ 1 6 ∧ rd σ 1 6 ≤ 6) (h0 : ¬ CanY (rd σ 1 6) x1 x2 x3 → Φ (some (.int 0)) σ) (h1 : CanY (rd σ 1 6) x1 x2 x3 → Φ (some (.int 1)) (wayC σ x1 x2 x3)) : wp true (d + 2) nW_tellWay [.ref 1, .int x1, .int x2, .int x3] σ Φ := by
  have l99 : (99 : Int32).toInt = 99 := rfl
  unfold CanY wayC at *
  have no : ¬ ((0 ≤ x1.toInt ∧ x1.toInt < rd σ 1 6) ∧ (0 ≤ x2.toInt ∧ x2.toInt < rd σ 1 6) ∧ x1.toInt ≠ x2.toInt ∧ (0 ≤ x3.toInt ∧ x3.toInt ≤ 99)) → bW_tellWay_31 true NOB (wp true (d + 1)) Φ (kW_tellWay (d + 1) Φ) [.ref 1, .int x1, .int x2, .int x3] [] σ := fun q => by
    simp only [pI, pL, pR, pV, i10, ↓reduceIte, eW_tellWay_31]
    exact h0 q
  apply wW_tellWay
  simp only [pI, pL, pR, pV, i10, ↓reduceIte, eW_tellWay_0]
  refine sW_isVillage (fun q1 => ?_) (fun q1 => ?_)
  rotate_left
  · simp only [pI, pL, pR, pV, i10, ↓reduceIte, eW_tellWay_5]
    exact no (by omega)
  simp only [pI, pL, pR, pV, i10, ↓reduceIte, eW_tellWay_5]
  try rw [if_neg (by decide)]
  refine sW_isVillage (fun q2 => ?_) (fun q2 => ?_)
  rotate_left
  · simp only [pI, pL, pR, pV, i10, ↓reduceIte, eW_tellWay_13]
    exact no (by omega)
  simp only [pI, pL, pR, pV, i10, ↓reduceIte, eW_tellWay_13]
  simp only [ieq, ilt, ile, tl0, l99]
  split
  next => exact no (by omega)
  next q3 =>
    split
    next => exact no (by omega)
    next q4 =>
      split
      next q5 =>
        have h1 := h1 ⟨q1, q2, q3, by omega, q5⟩
        simp only [pI, pL, pR, pV, i10, ↓reduceIte, eW_tellWay_33]
        have hx1 := ix_to q1.1
        have hx2 := ix_to q2.1
        have l6 : (6 : Int32).toInt = 6 := rfl
        have y1 : (x1 * 6).toInt = 6 * ix x1 := by rw [tX (by rw [l6]; omega), l6]; omega
        have y2 : (x2 * 6).toInt = 6 * ix x2 := by rw [tX (by rw [l6]; omega), l6]; omega
        have u1 : (x1 * 6 + x2).toInt = (6 * ix x1 + ix x2 : Nat) := by rw [tP (by omega), y1]; omega
        have u2 : (x2 * 6 + x1).toInt = (6 * ix x2 + ix x1 : Nat) := by rw [tP (by omega), y2]; omega
        have i1 : ix (x1 * 6 + x2) = 6 * ix x1 + ix x2 := ix_of u1
        have i2 : ix (x2 * 6 + x1) = 6 * ix x2 + ix x1 := ix_of u2
        rw [i1, i2]
        exact ⟨⟨by omega, by omega⟩, ⟨by omega, by omega⟩, h1⟩
      next q5 => exact no (by omega)
/-- what a clause does to the class's store -/
def EvP (lws : Lws) (x1 x2 x3 x4 : Int32) (s s' : Sg) (ok : Bool) : Prop :=
  (x1.toInt = 5 ∧ ((CanW (rd s 1 4) x2 x3 x4 ∧ ok = true ∧ TelC s s' (rd s 1 4).toNat x2.toInt x3.toInt x4.toInt) ∨ (¬ CanW (rd s 1 4) x2 x3 x4 ∧ ok = false ∧ s' = s))) ∨
  (x1.toInt = 6 ∧ ((CanV (rd s 1 6) x2 x3 ∧ ok = true ∧ TlvC s s' (rd s 1 6).toNat x2.toInt x3.toInt) ∨ (¬ CanV (rd s 1 6) x2 x3 ∧ ok = false ∧ s' = s))) ∨
  (x1.toInt = 7 ∧ ((CanY (rd s 1 6) x2 x3 x4 ∧ ok = true ∧ s' = wayC s x2 x3 x4) ∨ (¬ CanY (rd s 1 6) x2 x3 x4 ∧ ok = false ∧ s' = s))) ∨
  (x1.toInt = 8 ∧ ((CanP (EC lws s) (rc s 2) x2 x3 x4 ∧ ok = true ∧ (∃ a, KCi s a ∧ Ei [(2, 0, 44)] a s') ∧ rc s' 2 = payF (rc s 2) (ix x2) (ix x3) x4.toInt) ∨ (¬ CanP (EC lws s) (rc s 2) x2 x3 x4 ∧ ok = false ∧ s' = s))) ∨
  (x1.toInt = 9 ∧ ((CanM (EC lws s) (rc s 2) x2 x3 ∧ ok = true ∧ (∃ a, KCi s a ∧ Ei [(2, 0, 44)] a s') ∧ rc s' 2 = mergF (rc s 2) (ix x2) (ix x3)) ∨ (¬ CanM (EC lws s) (rc s 2) x2 x3 ∧ ok = false ∧ s' = s))) ∨
  (x1.toInt = 10 ∧ ∃ m N : Nat, x2.toInt = N ∧ N ≤ 60 ∧ DaysC (EC lws s) m s s' ∧ (m : Int) ≤ 9999 - rc s 2 42 ∧ (ok = true ∧ m = N ∨ ok = false ∧ m < N ∧ pasN (EC lws s) (rc s 2) m 42 = 9999)) ∨
  ((x1.toInt < 5 ∨ 10 < x1.toInt) ∧ ok = true ∧ s' = s)
abbrev FPl : Ls := FX ++ (FTc ++ (FVc ++ [(36, 0, 36)]))
theorem FPl_hi : ∀ e, e ∈ FPl → e.1 < 88 ∨ e.1 = 109 ∨ e.1 = 110 := by decide +kernel
theorem FPx {σ σ' : Sg} (h : Fr FX σ σ') : Fr FPl σ σ' := h.mo (fun e he => List.mem_append_left _ he)
theorem FPw {σ σ' : Sg} (h : Fr FTc σ σ') : Fr FPl σ σ' := h.mo (fun e he => List.mem_append_right _ (List.mem_append_left _ he))
theorem FPv {σ σ' : Sg} (h : Fr FVc σ σ') : Fr FPl σ σ' := h.mo (fun e he => List.mem_append_right _ (List.mem_append_right _ (List.mem_append_left _ he)))
theorem FPy {σ σ' : Sg} (h : Fr [(36, 0, 36)] σ σ') : Fr FPl σ σ' := h.mo (fun e he => List.mem_append_right _ (List.mem_append_right _ (List.mem_append_right _ he)))
theorem CI.way {lws : Lws} {s : Sg} {x1 x2 x3 : Int32} (g : CI lws s) (hq : CanY (rd s 1 6) x1 x2 x3) : Fr [(36, 0, 36)] s (wayC s x1 x2 x3) ∧ CI lws (wayC s x1 x2 x3) := by
  obtain ⟨q1, q2, -⟩ := hq
  obtain ⟨hE, hO, hT, hk, h44, hb⟩ := g
  have hF : Fr [(36, 0, 36)] s (wayC s x1 x2 x3) := by
    unfold wayC
    have hx1 := ix_to q1.1
    have hx2 := ix_to q2.1
    exact (Fr.sI (inS_r (lo := 0) (hi := 36) (by simp) (by omega))).tr (Fr.sI (inS_r (lo := 0) (hi := 36) (by simp) (by omega)))
  have e : ∀ a j, a ≠ 36 → rd (wayC s x1 x2 x3) a j = rd s a j := fun a j ha => hF.rd (not_inS (fun e he z => by
    rw [List.mem_singleton] at he
    subst he
    exact ha z.1.symm))
  have eE : EC lws (wayC s x1 x2 x3) = EC lws s := EC_of (e _ _ (by omega)) (e _ _ (by omega)) (e _ _ (by omega)) (fun k => e _ _ (by omega)) (fun k => e _ _ (by omega))
  have er : rc (wayC s x1 x2 x3) 2 = rc s 2 := by
    funext k
    unfold rc
    rw [e _ _ (by omega)]
  refine ⟨hF, ?_, ?_, ?_, ?_, ?_, ?_⟩
  · rw [eE]
    exact CE.ei ⟨e _ _ (by omega), e _ _ (by omega), e _ _ (by omega), e _ _ (by omega)⟩ (fun a k ha => e _ _ (by omega)) hE
  · rw [eE, er]; exact hO
  · rw [eE, er]; exact hT
  · rw [e _ _ (by omega), e _ _ (by omega)]; exact hk
  · rw [e _ _ (by omega), er]; exact h44
  · rw [e _ _ (by omega), e _ _ (by omega)]; exact hb
theorem cD_perform {d : Nat} {Φ : Po} {lws : Lws} {x1 x2 x3 x4 : Int32} {s : Sg} (g : CI lws s) (hB : x1.toInt = 10 → 0 ≤ x2.toInt ∧ x2.toInt ≤ 60) (h : ∀ (s' : Sg) (ok : Bool), Fr FPl s s' → CI lws s' → EvP lws x1 x2 x3 x4 s s' ok → Φ (some (.int (cond ok 1 0))) s') : wp true (d + 7) nD_perform [.ref 110, .int x1, .int x2, .int x3, .int x4] s Φ := by
  have hb := g.2.2.2.2.2
  have km1 : (-1 : Int32).toInt = -1 := rfl
  have km3 : (-1000 : Int32).toInt = -1000 := rfl
  apply wD_perform
  simp only [pI, pL, pR, pV, i10, ↓reduceIte, eD_perform_0]
  split
  next c5 =>
    simp only [pI, pL, pR, pV, i10, ↓reduceIte, eD_perform_40]
    refine sW_tellWind hb.1 (fun q => ?_) (fun q s' v hv hF hk => ?_)
    · simp only [pI, pL, pR, pV, i10, ↓reduceIte, eD_perform_51, eD_perform_59, eD_perform_60]
      simp only [zB_0, cond]
      exact h s false Fr.rf g (Or.inl ⟨c5, Or.inr ⟨q, rfl, rfl⟩⟩)
    · have hne : v ≠ -1 := fun e => by
        rw [e, km1] at hv
        omega
      simp only [pI, pL, pR, pV, i10, ↓reduceIte, eD_perform_51]
      rw [if_neg hne]
      simp only [pI, pL, pR, pV, i10, ↓reduceIte, eD_perform_60]
      simp only [zB_1, cond]
      exact h s' true (FPw hF) (g.wind q hF hk) (Or.inl ⟨c5, Or.inl ⟨q, rfl, hk⟩⟩)
  next c5 =>
  split
  next c6 =>
    simp only [pI, pL, pR, pV, i10, ↓reduceIte, eD_perform_61]
    refine sW_tellVillage hb.2 (fun q => ?_) (fun q s' v hv hF hk => ?_)
    · simp only [pI, pL, pR, pV, i10, ↓reduceIte, eD_perform_70, eD_perform_78, eD_perform_79]
      simp only [zB_0, cond]
      exact h s false Fr.rf g (Or.inr (Or.inl ⟨c6, Or.inr ⟨q, rfl, rfl⟩⟩))
    · have hne : v ≠ -1 := fun e => by
        rw [e, km1] at hv
        omega
      simp only [pI, pL, pR, pV, i10, ↓reduceIte, eD_perform_70]
      rw [if_neg hne]
      simp only [pI, pL, pR, pV, i10, ↓reduceIte, eD_perform_79]
      simp only [zB_1, cond]
      exact h s' true (FPv hF) (g.vil q hF hk) (Or.inr (Or.inl ⟨c6, Or.inl ⟨q, rfl, hk⟩⟩))
  next c6 =>
  split
  next c7 =>
    simp only [pI, pL, pR, pV, i10, ↓reduceIte, eD_perform_80]
    refine sW_tellWay hb.2 (fun q => ?_) (fun q => ?_)
    · simp only [pI, pL, pR, pV, i10, ↓reduceIte, eD_perform_91]
      simp only [zB_0, cond]
      exact h s false Fr.rf g (Or.inr (Or.inr (Or.inl ⟨c7, Or.inr ⟨q, rfl, rfl⟩⟩)))
    · simp only [pI, pL, pR, pV, i10, ↓reduceIte, eD_perform_91]
      simp only [zB_1, cond]
      obtain ⟨w1, w2⟩ := g.way q
      exact h _ true (FPy w1) w2 (Or.inr (Or.inr (Or.inl ⟨c7, Or.inl ⟨q, rfl, rfl⟩⟩)))
  next c7 =>
  split
  next c8 =>
    simp only [pI, pL, pR, pV, i10, ↓reduceIte, eD_perform_92]
    refine cD_pay g (fun q s' r hF hC hk hc hr => ?_) (fun q => ?_)
    · have hne : r ≠ -1000 := fun e => hr (by rw [e]; rfl)
      simp only [pI, pL, pR, pV, i10, ↓reduceIte, eD_perform_100]
      rw [if_neg hne]
      simp only [pI, pL, pR, pV, i10, ↓reduceIte, eD_perform_111]
      simp only [zB_1, cond]
      exact h s' true (FPx hF) hC (Or.inr (Or.inr (Or.inr (Or.inl ⟨c8, Or.inl ⟨q, rfl, hk, hc⟩⟩))))
    · simp only [pI, pL, pR, pV, i10, ↓reduceIte, eD_perform_100, eD_perform_110, eD_perform_111]
      simp only [zB_0, cond]
      exact h s false Fr.rf g (Or.inr (Or.inr (Or.inr (Or.inl ⟨c8, Or.inr ⟨q, rfl, rfl⟩⟩))))
  next c8 =>
  split
  next c9 =>
    simp only [pI, pL, pR, pV, i10, ↓reduceIte, eD_perform_112]
    refine cD_merge g (fun q s' r hF hC hk hc hr => ?_) (fun q => ?_)
    · have hne : r ≠ -1000 := fun e => hr (by rw [e]; rfl)
      simp only [pI, pL, pR, pV, i10, ↓reduceIte, eD_perform_118]
      rw [if_neg hne]
      simp only [pI, pL, pR, pV, i10, ↓reduceIte, eD_perform_129]
      simp only [zB_1, cond]
      exact h s' true (FPx hF) hC (Or.inr (Or.inr (Or.inr (Or.inr (Or.inl ⟨c9, Or.inl ⟨q, rfl, hk, hc⟩⟩)))))
    · simp only [pI, pL, pR, pV, i10, ↓reduceIte, eD_perform_118, eD_perform_128, eD_perform_129]
      simp only [zB_0, cond]
      exact h s false Fr.rf g (Or.inr (Or.inr (Or.inr (Or.inr (Or.inl ⟨c9, Or.inr ⟨q, rfl, rfl⟩⟩)))))
  next c9 =>
  split
  next c10 =>
    have hB := hB c10
    have hix := ix_to hB.1
    have o42 := g.2.1.2.2.1
    simp only [pI, pL, pR, pV, i10, ↓reduceIte, eD_perform_130]
    refine lD_days g rfl rfl hix.symm (by omega) (fun s' m ok hF hC hD hm hok => ?_) (ix x2) 0 s 0 (by omega) rfl (by omega) Fr.rf rfl g rfl
    exact h s' ok (FPx hF) hC (Or.inr (Or.inr (Or.inr (Or.inr (Or.inr (Or.inl ⟨c10, m, ix x2, hix.symm, by omega, hD, hm, hok⟩))))))
  next c10 =>
    simp only [pI, pL, pR, pV, i10, ↓reduceIte, eD_perform_170]
    exact h s true Fr.rf g (Or.inr (Or.inr (Or.inr (Or.inr (Or.inr (Or.inr ⟨by omega, rfl, rfl⟩))))))
theorem ald_tx {t : Nat} (ht : t < 4) {c : Ct} {ls r : List Value} {j : Int32} {σ : Sg} : o_iald true c ls (.int j :: .ref (92 + 5 * t) :: r) σ = (inb j 96 ∧ c ls (.int (gI σ (92 + 5 * t) (ix j)) :: r) σ) := by
  have : t = 0 ∨ t = 1 ∨ t = 2 ∨ t = 3 := by omega
  rcases this with rfl | rfl | rfl | rfl <;> rfl
theorem txt_o {t : Nat} (ht : t < 4) (σ : Sg) : (isO 7 (88 + 5 * t) && lvx true σ (88 + 5 * t)) = true ∧ rfx true σ (88 + 5 * t) 4 = 92 + 5 * t ∧ rfx true σ 81 t = 88 + 5 * t := by
  have : t = 0 ∨ t = 1 ∨ t = 2 ∨ t = 3 := by omega
  rcases this with rfl | rfl | rfl | rfl <;> exact ⟨rfl, rfl, rfl⟩
/-- the clauses from k on -/
def PlC (lws : Lws) (cl : Nat → Nat → Int32) : Nat → Nat → Sg → Sg → Int → Prop
  | 0, _, s, sN, R => sN = s ∧ R = -1
  | n + 1, k, s, sN, R => ∃ (b : Sg) (ok : Bool), EvP lws (cl k 0) (cl k 1) (cl k 2) (cl k 3) s b ok ∧ ((∀ a j, 88 ≤ a → a < 108 → gI b a j = gI s a j) ∧ gI b 1 9 = gI s 1 9) ∧ (ok = true ∧ PlC lws cl n (k + 1) b sN R ∨ ok = false ∧ sN = b ∧ R = k)
theorem lD_play {d : Nat} {Φ : Po} {lws : Lws} {t N : Nat} {σ0 : Sg} (ht : t < 4) (hN : N ≤ 24) (hc0 : rd σ0 (88 + 5 * t) 5 = N) (hB : ∀ k, k < N → (gI σ0 (92 + 5 * t) (4 * k)).toInt = 10 → 0 ≤ (gI σ0 (92 + 5 * t) (4 * k + 1)).toInt ∧ (gI σ0 (92 + 5 * t) (4 * k + 1)).toInt ≤ 60) :
    ∀ (n k : Nat) (s : Sg) (x2 : Int32) (v3 v4 : Value), k + n = N → x2.toInt = k → Fr FPl σ0 s → CI lws s → (∀ (s' : Sg) (v : Int32), Fr FPl s s' → PlC lws (fun k j => gI σ0 (92 + 5 * t) (4 * k + j)) n k s s' v.toInt → Φ (some (.int v)) s') → bD_play_2 true NOB (wp true (d + 7)) Φ (kD_play (d + 7) Φ) [.ref 110, .ref (88 + 5 * t), .int x2, v3, v4] [] s := by
  have hi : ∀ (s : Sg), Fr FPl σ0 s → ∀ a j, 88 ≤ a → a < 108 → gI s a j = gI σ0 a j := fun s hF a j h1 h2 => hF.1 _ _ (not_inS (fun e he z => by
    have := FPl_hi e he
    omega))
  intro n
  induction n with
  | zero =>
    intro k s x2 v3 v4 hk h2 hF hC h
    obtain ⟨o1, o2, o3⟩ := txt_o ht s
    have hc : (gI s (88 + 5 * t) 5).toInt = N := by rw [hi s hF _ _ (by omega) (by omega)]; exact hc0
    simp only [pI, pL, pR, pV, i10, ↓reduceIte, eD_play_2]
    rw [o1]
    simp only [cond, ile, hc, h2]
    rw [if_pos (by omega)]
    simp only [pI, pL, pR, pV, i10, ↓reduceIte, eD_play_63]
    exact h s _ Fr.rf ⟨rfl, rfl⟩
  | succ n ih =>
    intro k s x2 v3 v4 hk h2 hF hC h
    obtain ⟨o1, o2, o3⟩ := txt_o ht s
    have hc : (gI s (88 + 5 * t) 5).toInt = N := by rw [hi s hF _ _ (by omega) (by omega)]; exact hc0
    have l4 : (4 : Int32).toInt = 4 := rfl
    have y0 : (x2 * 4).toInt = ((4 * k : Nat) : Int) := by rw [tX (by rw [l4, h2]; omega), l4, h2]; omega
    have yj : ∀ (z : Int32) (j : Nat), j < 4 → z.toInt = j → (x2 * 4 + z).toInt = ((4 * k + j : Nat) : Int) := fun z j hj hz => by rw [tP (by rw [y0, hz]; omega), y0, hz]; omega
    have i0 : ix (x2 * 4) = 4 * k := ix_of y0
    have i1 : ix (x2 * 4 + 1) = 4 * k + 1 := ix_of (yj 1 1 (by omega) rfl)
    have i2 : ix (x2 * 4 + 2) = 4 * k + 2 := ix_of (yj 2 2 (by omega) rfl)
    have i3 : ix (x2 * 4 + 3) = 4 * k + 3 := ix_of (yj 3 3 (by omega) rfl)
    have n0 : inb (x2 * 4) 96 := ⟨by omega, by omega⟩
    have n1 : inb (x2 * 4 + 1) 96 := by have := yj 1 1 (by omega) rfl; exact ⟨by omega, by omega⟩
    have n2 : inb (x2 * 4 + 2) 96 := by have := yj 2 2 (by omega) rfl; exact ⟨by omega, by omega⟩
    have n3 : inb (x2 * 4 + 3) 96 := by have := yj 3 3 (by omega) rfl; exact ⟨by omega, by omega⟩
    have h21 : (x2 + 1).toInt = ((k + 1 : Nat) : Int) := by rw [tq1 x2 (by omega), h2]; omega
    have hg : ∀ j, gI s (92 + 5 * t) j = gI σ0 (92 + 5 * t) j := fun j => hi s hF _ _ (by omega) (by omega)
    simp only [pI, pL, pR, pV, i10, ↓reduceIte, eD_play_2]
    rw [o1, o2]
    simp only [cond, ile, hc, h2]
    rw [if_neg (by omega), ald_tx ht, i0]
    refine ⟨n0, ?_⟩
    simp only [pI, pL, pR, pV, i10, ↓reduceIte, eD_play_20]
    rw [o1, o2]
    simp only [cond]
    rw [ald_tx ht, i1]
    refine ⟨n1, ?_⟩
    simp only [pI, pL, pR, pV, i10, ↓reduceIte, eD_play_33]
    rw [o1, o2]
    simp only [cond]
    rw [ald_tx ht, i2]
    refine ⟨n2, ?_⟩
    simp only [pI, pL, pR, pV, i10, ↓reduceIte, eD_play_41]
    rw [o1, o2]
    simp only [cond]
    rw [ald_tx ht, i3]
    refine ⟨n3, ?_⟩
    simp only [pI, pL, pR, pV, i10, ↓reduceIte, eD_play_49]
    rw [hg, hg, hg, hg]
    refine cD_perform hC (hB k (by omega)) (fun s1 ok hF1 hC1 ev => ?_)
    have e19 : inS FPl 1 9 = false := by decide +kernel
    have kp : (∀ a j, 88 ≤ a → a < 108 → gI s1 a j = gI s a j) ∧ gI s1 1 9 = gI s 1 9 := ⟨fun a j h1 h2 => hF1.1 _ _ (not_inS (fun e he z => by
      have := FPl_hi e he
      omega)), hF1.1 _ _ e19⟩
    cases ok with
    | false =>
      simp only [pI, pL, pR, pV, i10, ↓reduceIte, eD_play_52]
      simp only [cond, ↓reduceIte]
      exact h s1 x2 hF1 ⟨s1, false, ev, kp, Or.inr ⟨rfl, rfl, by rw [h2]⟩⟩
    | true =>
      simp only [pI, pL, pR, pV, i10, ↓reduceIte, eD_play_52]
      simp only [cond, i10, ↓reduceIte]
      simp only [pI, pL, pR, pV, i10, ↓reduceIte, eD_play_57]
      exact hD_play_2 _ _ _ _ _ (ih (k + 1) s1 (x2 + 1) _ _ (by omega) h21 (hF.tr hF1) hC1 (fun s' v hF2 hp => h s' v (hF1.tr hF2) ⟨s1, true, ev, kp, Or.inl ⟨rfl, hp⟩⟩))
