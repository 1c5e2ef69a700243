/-! LOOKING AHEAD -/
def Fi (S : Ls) (σ σ' : Sg) : Prop := (∀ a k, inS S a k = false → gI σ' a k = gI σ a k) ∧ ln σ' = ln σ
theorem Fr.fi {S : Ls} {σ σ' : Sg} (h : Fr S σ σ') : Fi S σ σ' := ⟨h.1, h.2.2.2⟩
theorem Fi.tr {S : Ls} {a b c : Sg} (h : Fi S a b) (g : Fi S b c) : Fi S a c := ⟨fun x k e => (g.1 x k e).trans (h.1 x k e), g.2.trans h.2⟩
theorem Fi.mo {S T : Ls} {a b : Sg} (h : Fi S a b) (hs : ∀ e, e ∈ S → e ∈ T) : Fi T a b := ⟨fun x k e => h.1 x k (inS_sub hs e), h.2⟩
theorem Fi.rd {S : Ls} {a b : Sg} (h : Fi S a b) {x k : Nat} (e : inS S x k = false) : rd b x k = rd a x k := by
  show (gI b x k).toInt = (gI a x k).toInt
  rw [h.1 x k e]
theorem Fi.eqc {S T : Ls} {σ σ' : Sg} (h : Fi T σ σ') (hd : dsj S T = true) : Eqc S σ σ' := fun _ _ q => h.rd (dsj_ok hd q)
theorem Fi.same {S T : Ls} {σ σ' : Sg} (h : Fi S σ σ') (he : ∀ a k, inS S a k = true → inS T a k = false → gI σ' a k = gI σ a k) : Fi T σ σ' := by
  refine ⟨fun a k q => ?_, h.2⟩
  cases z : inS S a k with
  | true => exact he a k z q
  | false => exact h.1 a k z
theorem Fi.sm {S : Ls} {σ σ' : Sg} (h : Fi S σ σ') (e : S.all (fun e => !(Nat.beq e.1 95000)) = true) : Sm σ σ' := by
  refine ⟨fun k => h.1 _ _ ?_, h.2⟩
  apply Bool.eq_false_iff.mpr
  intro q
  obtain ⟨f, hf, f1, f2, f3⟩ := inS_ex q
  rw [List.all_eq_true] at e
  have := e f hf
  rw [f1] at this
  exact absurd this (by decide)
theorem R.xi {lws : Lws} {σ σ' : Sg} (h : Fi XS σ σ') (g : R lws σ) : R lws σ' := R.of (h.eqc (by decide +kernel)) (h.eqc (by decide +kernel)) (h.eqc (by decide +kernel)) (h.eqc (by decide +kernel)) g
theorem R.mi {lws : Lws} {σ σ' : Sg} (h : Fi MS σ σ') (g : R lws σ) : R lws σ' := R.of (h.eqc (by decide +kernel)) (h.eqc (by decide +kernel)) (h.eqc (by decide +kernel)) (h.eqc (by decide +kernel)) g
theorem xs121 {σ σ' : Sg} (hF : Fi XS σ σ') : rd σ' 121 = rd σ 121 := by
  funext k
  exact hF.rd (by unfold inS; simp only [List.any_cons, List.any_nil, nbeq (by decide : (83 : Nat) ≠ 121), nbeq (by decide : (84 : Nat) ≠ 121), nbeq (by decide : (85 : Nat) ≠ 121), nbeq (by decide : (86 : Nat) ≠ 121), nbeq (by decide : (87 : Nat) ≠ 121), nbeq (by decide : (109 : Nat) ≠ 121), nbeq (by decide : (110 : Nat) ≠ 121), nbeq (by decide : (111 : Nat) ≠ 121), nbeq (by decide : (112 : Nat) ≠ 121), nbeq (by decide : (113 : Nat) ≠ 121), nbeq (by decide : (114 : Nat) ≠ 121), nbeq (by decide : (116 : Nat) ≠ 121), nbeq (by decide : (117 : Nat) ≠ 121), nbeq (by decide : (118 : Nat) ≠ 121), nbeq (by decide : (119 : Nat) ≠ 121), Bool.false_and, Bool.or_false])
/-- a query, ints alone kept -/
theorem qryJ {x m : Nat} {as : List Value} (Q : En → Co → (Nat → Int) → Int)
    (hx : ∀ (lws : Lws) (σ : Sg) (Φ : Po), R lws σ → (∀ (v : Int32) (σ' : Sg), Fi XS σ σ' → v.toInt = Q (EE lws σ) (mc σ 121) (rd σ 121) → Φ (some (.int v)) σ') → wp true 13 x (.ref 0 :: as) σ Φ)
    (hm : ∀ (lws : Lws) (σ : Sg) (Φ : Po), R lws σ → (∀ (v : Int32) (σ' : Sg), Fi MS σ σ' → v.toInt = Q (EE lws σ) (mc σ 121) (rd σ 121) → Φ (some (.int v)) σ') → wp true 13 m (.ref 120 :: as) σ Φ) : PairI Rel x m as := by
  intro σ hR Φ h
  obtain ⟨lws, hR⟩ := hR
  refine hx lws σ Φ hR (fun v σ' hF hv => ?_)
  refine h v σ' (hF.sm (by decide)) (fun Ψ hΨ => ?_)
  refine hm lws σ' Ψ (hR.xi hF) (fun v2 σ'' hF2 hv2 => ?_)
  have e : v2 = v := by
    refine eqv ?_
    have e121 := xs121 hF
    have emc : mc σ' 121 = mc σ 121 := by unfold mc; rw [e121]
    have eE : EE lws σ' = EE lws σ := by unfold EE; rw [e121]
    rw [hv2, hv, e121, emc, eE]
  rw [e]
  exact hΨ σ'' (hF2.sm (by decide)) ⟨lws, (hR.xi hF).mi hF2⟩
/-! days ahead -/
def pasN (E : En) (c : Co) : Nat → Co
  | 0 => c
  | n + 1 => (passF E (pasN E c n)).1
def tkN (E : En) (c : Co) : Nat → Int
  | 0 => 0
  | n + 1 => tkN E c n + (passF E (pasN E c n)).2.2.2
def canN (c : Co) (n : Nat) : Nat := min n (9999 - c 42).toNat
theorem pasN_ok {E : En} {c : Co} (hO : Ok E c) (hT : TkOk E c) : ∀ n : Nat, (n : Int) ≤ 9999 - c 42 → Ok E (pasN E c n) ∧ TkOk E (pasN E c n) ∧ pasN E c n 42 = c 42 + n ∧ (0 ≤ tkN E c n ∧ tkN E c n ≤ 594 * n)
  | 0, _ => ⟨hO, hT, by show c 42 = c 42 + 0; omega, by show (0 : Int) ≤ 0 ∧ (0 : Int) ≤ 594 * 0; omega⟩
  | n + 1, h => by
    obtain ⟨i1, i2, i3, i4⟩ := pasN_ok hO hT n (by omega)
    obtain ⟨p1, p2, p3, p4, p5, p6, p7⟩ := passF_ok i1 i2 (by omega)
    refine ⟨p1, p2, ?_, ?_⟩
    · show (passF E (pasN E c n)).1 42 = _
      rw [p3, i3]
      omega
    · show 0 ≤ tkN E c n + _ ∧ tkN E c n + _ ≤ _
      omega
theorem tkN_mono {E : En} {c : Co} (hO : Ok E c) (hT : TkOk E c) {m : Nat} : ∀ n : Nat, m ≤ n → (n : Int) ≤ 9999 - c 42 → tkN E c m ≤ tkN E c n
  | 0, h, _ => by
    have : m = 0 := by omega
    subst this
    exact Int.le_refl _
  | n + 1, h, h2 => by
    by_cases e : m = n + 1
    · subst e; exact Int.le_refl _
    · have ih := tkN_mono hO hT (m := m) n (by omega) (by omega)
      obtain ⟨i1, i2, i3, i4⟩ := pasN_ok hO hT n (by omega)
      have := (passF_ok i1 i2 (by omega)).2.2.2.2.2.1
      show _ ≤ tkN E c n + _
      omega
/-! the class's rows copied -/
theorem sW_copyRow {d : Nat} {Φ : Po} {σ : Sg} {a b n : Nat} (ha : shp a = (2, n)) (hb : shp b = (2, n)) (h1 : bB a = false ∧ Nat.beq a 94000 = false) (h2 : bB b = false ∧ Nat.beq b 94000 = false) (hn : n < 1000) (h : Φ none (cpI σ a 0 b 0 n)) : wp true (d + 2) nW_copyRow [.ref a, .ref b] σ Φ := by
  apply wW_copyRow
  rw [eW_copyRow_0]
  simp only [o_alen, h1.1, h1.2, ha, cond, lvx, Bool.true_or]
  rw [eW_copyRow_6]
  simp only [o_alen, h2.1, h2.2, hb, cond, lvx, Bool.true_or]
  rw [eW_copyRow_8]
  refine sJ_min (fun m hm => ?_)
  simp only [pI, pL, pR, pV, i10, ↓reduceIte, eW_copyRow_11]
  have en : (Int32.ofNat n).toInt = (n : Int) := toInt_of rfl (by omega)
  have em : m.toInt = n := by rw [hm, en]; omega
  have c1 : catS [] = 0 := rfl
  simp only [o_cpy, ha, hb, lvx, Bool.true_or, Bool.and_true, c1]
  have emx : ix m = n := ix_of em
  have e0 : ix 0 = 0 := rfl
  have e0t : (0 : Int32).toInt = 0 := rfl
  rw [emx, e0]
  refine ⟨⟨by decide, by decide, by omega, by omega, by omega⟩, ?_⟩
  rw [eW_copyRow_14]
  exact h
theorem cp_at {σ : Sg} {a b n k : Nat} (hk : k < n) : gI (cpI σ a 0 b 0 n) b k = gI σ a k := by
  rw [gI_cpI]
  try rw [if_pos rfl]
  rw [if_pos (by omega)]
  congr 1
  omega
theorem cp_fr {σ : Sg} {a b n : Nat} : Fr [(b, 0, n)] σ (cpI σ a 0 b 0 n) := Fr.cp (fun k _ k2 => inS_r (lo := 0) (hi := n) (by simp) ⟨Nat.zero_le _, by omega⟩)
theorem sF_keepNow {d : Nat} {Φ : Po} {σ : Sg} (h : ∀ σ' : Sg, Fr [(112, 0, 75)] σ σ' → (∀ k, k < 75 → gI σ' 112 k = gI σ 2 k) → Φ none σ') : wp true (d + 3) nF_keepNow [.ref 111] σ Φ := by
  apply wF_keepNow
  simp only [pI, pL, pR, pV, i10, ↓reduceIte, eF_keepNow_0]
  refine sW_copyRow (n := 75) rfl rfl ⟨rfl, rfl⟩ ⟨rfl, rfl⟩ (by omega) ?_
  simp only [pI, pL, pR, pV, i10, ↓reduceIte, eF_keepNow_14]
  exact h _ cp_fr (fun k hk => cp_at hk)
theorem sF_giveBack {d : Nat} {Φ : Po} {σ : Sg} (h : ∀ σ' : Sg, Fr [(2, 0, 75)] σ σ' → (∀ k, k < 75 → gI σ' 2 k = gI σ 112 k) → Φ none σ') : wp true (d + 3) nF_giveBack [.ref 111] σ Φ := by
  apply wF_giveBack
  simp only [pI, pL, pR, pV, i10, ↓reduceIte, eF_giveBack_0]
  refine sW_copyRow (n := 75) rfl rfl ⟨rfl, rfl⟩ ⟨rfl, rfl⟩ (by omega) ?_
  simp only [pI, pL, pR, pV, i10, ↓reduceIte, eF_giveBack_14]
  exact h _ cp_fr (fun k hk => cp_at hk)
theorem sW_daysLeft {d : Nat} {Φ : Po} {σ : Sg} {c : Co} (hc : rc σ 2 = c) (hd : 0 ≤ c 42 ∧ c 42 ≤ 9999) (h : ∀ v : Int32, v.toInt = 9999 - c 42 → Φ (some (.int v)) σ) : wp true (d + 1) nW_daysLeft [.ref 1] σ Φ := by
  apply wW_daysLeft
  simp only [pI, pL, pR, pV, i10, ↓reduceIte, eW_daysLeft_0]
  have e42 : (gI σ 2 (ix 42)).toInt = c 42 := by rw [← hc]; rfl
  refine ⟨⟨by decide, by decide⟩, h _ ?_⟩
  rw [tM (by rw [e42, show (9999 : Int32).toInt = 9999 from rfl]; omega), e42]
  rfl
theorem sF_canPass {d : Nat} {Φ : Po} {σ : Sg} {c : Co} {n : Int32} (hc : rc σ 2 = c) (hd : 0 ≤ c 42 ∧ c 42 ≤ 9999) (hn : 0 ≤ n.toInt) (h : ∀ v : Int32, v.toInt = canN c (ix n) → Φ (some (.int v)) σ) : wp true (d + 2) nF_canPass [.ref 111, .int n] σ Φ := by
  apply wF_canPass
  simp only [pI, pL, pR, pV, i10, ↓reduceIte, eF_canPass_0]
  refine sW_daysLeft hc hd (fun l hl => ?_)
  simp only [pI, pL, pR, pV, i10, ↓reduceIte, eF_canPass_8]
  refine sJ_min (fun m hm => ?_)
  simp only [pI, pL, pR, pV, i10, ↓reduceIte, eF_canPass_11]
  refine h _ ?_
  have := ix_to hn
  unfold canN
  omega
/-- ahead by days: the row is σ0's own, gone on m days -/
abbrev FW : Ls := FD
theorem lF_upTo {d : Nat} {Φ : Po} {E : En} {c : Co} {x1 hI canI : Int32} {σ0 : Sg} {can : Nat} (hO : Ok E c) (hT : TkOk E c) (hE : CE σ0 E) (h44 : 0 ≤ rd σ0 2 44 ∧ rd σ0 2 44 ≤ 9999) (hcan : canI.toInt = can) (hcn : (can : Int) ≤ 9999 - c 42) (hc60 : can ≤ 60)
    (h : ∀ (σ' : Sg) (v : Int32) (m : Nat), Fr FD σ0 σ' → m ≤ can → v.toInt = tkN E c m → rc σ' 2 = pasN E c m → (m = can ∨ hI.toInt < tkN E c m) → Φ (some (.int v)) σ') :
    ∀ (n : Nat) (σ : Sg) (s x : Int32), x.toInt + n = can → 0 ≤ x.toInt → Fr FD σ0 σ → s.toInt = tkN E c (ix x) → rc σ 2 = pasN E c (ix x) → rd σ 2 44 = rd σ0 2 44 + ix x → bF_takenUpTo_12 true NOB (wp true (d + 6)) Φ (kF_takenUpTo (d + 6) Φ) [.ref 111, .int x1, .int hI, .int s, .int canI, .int x] [] σ
  | 0, σ, s, x, hx, h0, hF, hs, hc, hw => by
    simp only [pI, pL, pR, pV, i10, ↓reduceIte, eF_takenUpTo_12, eF_takenUpTo_47]
    have : ix x = can := by unfold ix; omega
    simp only [ile, hcan]
    rw [if_pos (by omega)]
    rw [this] at hs hc
    exact h σ s can hF (Nat.le_refl _) hs hc (Or.inl rfl)
  | n + 1, σ, s, x, hx, h0, hF, hs, hc, hw => by
    simp only [pI, pL, pR, pV, i10, ↓reduceIte, eF_takenUpTo_12, eF_takenUpTo_47]
    have hxx := ix_to h0
    obtain ⟨o1, o2, o3, o4⟩ := pasN_ok hO hT (ix x) (by omega)
    simp only [ile, ilt, hcan]
    rw [if_neg (by omega), hs]
    split
    next z => exact h σ s (ix x) hF (by omega) hs hc (Or.inr z)
    next z =>
      refine sD_pass o1 (CEd hF hE) hc o2 (by omega) (by rw [hw]; omega) (fun σ2 hF2 hc2 hw2 hf2 ht2 hP => ?_)
      simp only [pI, pL, pR, pV, i10, ↓reduceIte, eF_takenUpTo_31]
      have e110 : (gI σ2 110 4).toInt = (passF E (pasN E c (ix x))).2.2.2 := ht2
      have hb := (passF_ok o1 o2 (by omega)).2.2.2.2.2.1
      refine hF_takenUpTo_12 _ _ _ _ _ (lF_upTo hO hT hE h44 hcan hcn hc60 h n σ2 _ (x + 1) ?_ ?_ (hF.tr hF2) ?_ ?_ ?_)
      · rw [t1 (by omega)]; omega
      · rw [t1 (by omega)]; omega
      · rw [ix1 (by omega), tP (by rw [e110]; omega), hs, e110]
        rfl
      · rw [ix1 (by omega)]; exact hc2
      · rw [ix1 (by omega), hP.1, hw]
        omega
theorem canN_le {c : Co} {n : Nat} (h : 0 ≤ c 42 ∧ c 42 ≤ 9999) : ((canN c n : Nat) : Int) ≤ 9999 - c 42 ∧ canN c n ≤ n := by
  unfold canN
  omega
theorem sF_upTo {d : Nat} {Φ : Po} {E : En} {c : Co} {nI hI : Int32} {σ : Sg} (hO : Ok E c) (hT : TkOk E c) (hE : CE σ E) (hc : rc σ 2 = c) (h44 : 0 ≤ rd σ 2 44 ∧ rd σ 2 44 ≤ 9999) (hn : 0 ≤ nI.toInt ∧ nI.toInt ≤ 60) (h : ∀ (σ' : Sg) (v : Int32) (m : Nat), Fr FD σ σ' → m ≤ canN c (ix nI) → v.toInt = tkN E c m → rc σ' 2 = pasN E c m → (m = canN c (ix nI) ∨ hI.toInt < tkN E c m) → Φ (some (.int v)) σ') : wp true (d + 7) nF_takenUpTo [.ref 111, .int nI, .int hI] σ Φ := by
  apply wF_takenUpTo
  simp only [pI, pL, pR, pV, i10, ↓reduceIte, eF_takenUpTo_0]
  have hl := canN_le (n := ix nI) hO.2.2.1
  have hix := ix_to hn.1
  refine sF_canPass hc hO.2.2.1 hn.1 (fun k hk => ?_)
  simp only [pI, pL, pR, pV, i10, ↓reduceIte, eF_takenUpTo_7]
  exact lF_upTo hO hT hE h44 hk hl.1 (by omega) h (canN c (ix nI)) σ 0 0 (by rw [tl0]; omega) (by decide) Fr.rf rfl hc (by show _ = _ + ((0 : Nat) : Int); omega)
/-- behind the giving back all is as it was -/
theorem back_fi {σ σ1 σ2 σ3 : Sg} {S : Ls} (h1 : Fr [(112, 0, 75)] σ σ1) (h2 : ∀ k, k < 75 → gI σ1 112 k = gI σ 2 k) (h3 : Fr S σ1 σ2) (h4 : Fr [(2, 0, 75)] σ2 σ3) (h5 : ∀ k, k < 75 → gI σ3 2 k = gI σ2 112 k) (hS : ∀ e, e ∈ S → e ∈ XS ∨ e.1 = 2 ∧ e.2.2 ≤ 75) (h112 : ∀ k, k < 75 → inS S 112 k = false) : Fi XS σ σ3 := by
  refine ⟨fun a k q => ?_, by rw [h4.2.2.2, h3.2.2.2, h1.2.2.2]⟩
  by_cases e2 : a = 2 ∧ k < 75
  · obtain ⟨rfl, hk⟩ := e2
    rw [h5 k hk, h3.1 112 k (h112 k hk), h2 k hk]
  · have n4 : inS [(2, 0, 75)] a k = false := by
      apply Bool.eq_false_iff.mpr
      intro z
      obtain ⟨e, he, e1, e2', e3⟩ := inS_ex z
      rw [List.mem_singleton] at he
      subst he
      exact e2 ⟨e1.symm, e3⟩
    have n3 : inS S a k = false := by
      apply Bool.eq_false_iff.mpr
      intro z
      obtain ⟨e, he, e1, e2', e3⟩ := inS_ex z
      rcases hS e he with m | m
      · obtain ⟨x, lo, hi⟩ := e
        have e1 : x = a := e1
        subst e1
        rw [inS_r m ⟨e2', e3⟩] at q
        cases q
      · exact e2 ⟨by omega, by omega⟩
    have n1 : inS [(112, 0, 75)] a k = false := by
      apply Bool.eq_false_iff.mpr
      intro z
      obtain ⟨e, he, e1, e2', e3⟩ := inS_ex z
      rw [List.mem_singleton] at he
      subst he
      have e1 : 112 = a := e1
      subst e1
      rw [inS_r (lo := 0) (hi := 75) (by decide) ⟨e2', e3⟩] at q
      cases q
    rw [h4.1 a k n4, h3.1 a k n3, h1.1 a k n1]
theorem keep_rc {σ σ1 : Sg} (h1 : Fr [(112, 0, 75)] σ σ1) : rc σ1 2 = rc σ 2 := Fr_rc h1 (fun _ _ => rfl)
theorem keep_ce {σ σ1 : Sg} {E : En} (h1 : Fr [(112, 0, 75)] σ σ1) (g : CE σ E) : CE σ1 E := CE.fr h1 ⟨rfl, rfl, rfl, rfl⟩ (fun a k q => by
  unfold inS
  simp only [List.any_cons, List.any_nil, Bool.or_false, Bool.and_eq_false_iff]
  left
  exact nbeq (by omega)) g
theorem FDsub : ∀ e, e ∈ FD → e ∈ XS ∨ e.1 = 2 ∧ e.2.2 ≤ 75 := by decide
theorem FD112 : ∀ k, k < 75 → inS FD 112 k = false := fun k _ => inFD (by omega)
theorem R.w44 {lws : Lws} {σ : Sg} (h : R lws σ) : 0 ≤ rd σ 2 44 ∧ rd σ 2 44 ≤ 9999 := by
  have g := h.1.2.2.2.2.2.2.2.1
  have d := h.ok.2.2.1
  have e1 : rd σ 2 44 = rd σ 121 10 := g.1
  have e2 : rd σ 121 10 = rd σ 121 8 := g.2.1
  have e3 : mc σ 121 42 = rd σ 121 8 := rfl
  omega
theorem sF_taken {d : Nat} {Φ : Po} {lws : Lws} {n : Int32} {σ : Sg} (hR : R lws σ) (hn : 0 ≤ n.toInt ∧ n.toInt ≤ 60) (h : ∀ (σ' : Sg) (v : Int32), Fi XS σ σ' → v.toInt = tkN (EE lws σ) (mc σ 121) (canN (mc σ 121) (ix n)) → Φ (some (.int v)) σ') : wp true (d + 8) nF_taken [.ref 111, .int n] σ Φ := by
  apply wF_taken
  simp only [pI, pL, pR, pV, i10, ↓reduceIte, eF_taken_0]
  have hO := hR.ok
  have hT := hR.tk
  have hl := canN_le (n := ix n) hO.2.2.1
  have hix := ix_to hn.1
  refine sF_keepNow (fun σ1 h1 h2 => ?_)
  simp only [pI, pL, pR, pV, i10, ↓reduceIte, eF_taken_4]
  refine sF_upTo hO hT (keep_ce h1 hR.ce) ((keep_rc h1).trans hR.rc) (by rw [h1.rd rfl]; exact hR.w44) hn (fun σ2 v m h3 hm hv hc hq => ?_)
  simp only [pI, pL, pR, pV, i10, ↓reduceIte, eF_taken_11]
  refine sF_giveBack (fun σ3 h4 h5 => ?_)
  simp only [pI, pL, pR, pV, i10, ↓reduceIte, eF_taken_16]
  refine h _ _ (back_fi h1 h2 h3 h4 h5 FDsub FD112) ?_
  have hb := (pasN_ok hO hT m (by omega)).2.2.2
  rcases hq with q | q
  · rw [hv, q]
  · have e : (1000000 : Int32).toInt = 1000000 := rfl
    omega
theorem sF_later {d : Nat} {Φ : Po} {lws : Lws} {n p : Int32} {σ : Sg} (hR : R lws σ) (hn : 0 ≤ n.toInt ∧ n.toInt ≤ 60) (hp : 0 ≤ p.toInt ∧ p.toInt < 44) (h : ∀ (σ' : Sg) (v : Int32), Fi XS σ σ' → v.toInt = pasN (EE lws σ) (mc σ 121) (canN (mc σ 121) (ix n)) (ix p) → Φ (some (.int v)) σ') : wp true (d + 8) nF_later [.ref 111, .int n, .int p] σ Φ := by
  apply wF_later
  simp only [pI, pL, pR, pV, i10, ↓reduceIte, eF_later_0]
  have hO := hR.ok
  have hT := hR.tk
  have hl := canN_le (n := ix n) hO.2.2.1
  have hix := ix_to hn.1
  refine sF_keepNow (fun σ1 h1 h2 => ?_)
  simp only [pI, pL, pR, pV, i10, ↓reduceIte, eF_later_4]
  refine sF_upTo hO hT (keep_ce h1 hR.ce) ((keep_rc h1).trans hR.rc) (by rw [h1.rd rfl]; exact hR.w44) hn (fun σ2 v m h3 hm hv hc hq => ?_)
  simp only [pI, pL, pR, pV, i10, ↓reduceIte, eF_later_11]
  refine ⟨⟨by omega, by omega⟩, ?_⟩
  refine sF_giveBack (fun σ3 h4 h5 => ?_)
  simp only [pI, pL, pR, pV, i10, ↓reduceIte, eF_later_26]
  refine h _ _ (back_fi h1 h2 h3 h4 h5 FDsub FD112) ?_
  have hb := (pasN_ok hO hT m (by omega)).2.2.2
  have em : m = canN (mc σ 121) (ix n) := by
    rcases hq with q | q
    · exact q
    · have e : (1000000 : Int32).toInt = 1000000 := rfl
      omega
  rw [← em, ← hc]
  exact (rc_at (by unfold ix; omega)).symm
