/-! lengths, constants' fields, statics, answers -/
theorem shp_kd {a k n : Nat} (hs : shp a = (k, n)) : k ≤ 8 := by
  unfold shp at hs
  cases hb : Nat.beq a SCR with
  | true => rw [hb] at hs; have : (8 : Nat) = k := congrArg Prod.fst hs; omega
  | false =>
    rw [hb] at hs
    have hs : shpL.getD a (0, 0) = (k, n) := hs
    by_cases hl : a < shpL.length
    · have h2 : (shpL.getD a (0, 0)) ∈ shpL := by
        rw [List.getD_eq_getElem?_getD, List.getElem?_eq_getElem hl]
        exact List.getElem_mem hl
      rw [hs] at h2
      have h3 : shpL.all (fun q => Nat.ble q.1 8) = true := by decide +kernel
      exact Nat.le_of_ble_eq_true (List.all_eq_true.mp h3 _ h2)
    · rw [List.getD_eq_getElem?_getD, List.getElem?_eq_none (by omega)] at hs
      have : (0 : Nat) = k := congrArg Prod.fst hs
      omega
theorem wordFl_get {a k : Nat} (h1 : 90000 ≤ a) (h2 : a < 90042) (hk : k < 3) : ∃ q ∈ wordFl, q.1 = "OwedToWinds$Word" ∧ q.2.1 = (["clause", "code", "level"] : List String).getD k "" ∧ q.2.2.1 = "I" ∧ q.2.2.2.getD (a - 90000) 0 = wfI k a := by
  obtain ⟨i, hi, rfl⟩ : ∃ i, i < 42 ∧ a = 90000 + i := ⟨a - 90000, by omega, by omega⟩
  rw [Nat.add_sub_cancel_left]
  have key : ∀ k, ((List.range 42).map (fun i => wfI k (90000 + i))).getD i 0 = wfI k (90000 + i) := by
    intro k
    rw [List.getD_eq_getElem?_getD, List.getElem?_map, List.getElem?_range hi]
    rfl
  match k, hk with
  | 0, _ => exact ⟨_, List.mem_cons_self, rfl, rfl, rfl, key 0⟩
  | 1, _ => exact ⟨_, List.mem_cons_of_mem _ List.mem_cons_self, rfl, rfl, rfl, key 1⟩
  | 2, _ => exact ⟨_, List.mem_cons_of_mem _ (List.mem_cons_of_mem _ List.mem_cons_self), rfl, rfl, rfl, key 2⟩
theorem g_alen {cx : Bool} {cap : Nat} {call : Cl} {Φ : Po} {own mn : String} {cc : ByteArray} {nL : Nat} {ret : Option FieldType} {J : Nat → Ct} (A : Act cx cap call Φ own mn cc nL ret J) {pc : Nat} {c : Ct} (hd : decode cc pc = .ok (.arraylength, 1)) (h : LE c (J (pc + 1))) : LE (o_alen cx c) (J pc) := by
  obtain ⟨p, l, e, R, s, m, args, below, meth, cd, Q, n0, d, B0, adc, tA, D, sv, xs, L0, ⟨hx, hb, hml, hown, hts, hK, hE, hX, hXB, hB, hAO⟩, ⟨hnm, hRc, hRs, hcap, hRf, hRl, hsv, hcn⟩, hcall, hret, rfl⟩ := A
  intro ls st σ hc H locs lsM hw hS hl hn
  have hn137 := nob
  unfold o_alen at hc
  split at hc
  · rename_i a r
    show W p l e R s m args below meth cd H locs (nxx cx σ - n0) (szs (nxx cx σ) - szs n0) Q (F0 m pc lsM (va_rf (rr (adr B0 adc) a) :: r.map (vmp (adr B0 adc) sv)))
    cases hB2 : bB a with
    | true =>
      rw [hB2] at hc
      have hc : c ls (.int (Int32.ofNat (bfN a)) :: r) σ := hc
      have ha := bB_lt hB2
      rw [show rr (adr B0 adc) a = some (adc a) from rr_con (by omega) (by omega)]
      obtain ⟨-, -, -, -, hT, -⟩ := hE
      obtain ⟨-, -, -, hT⟩ := hT.1 (a - 92000) (Nat.sub_lt_left_of_lt_add ha.1 ha.2)
      dsimp only at hT
      rw [Nat.add_sub_of_le ha.1, show adr B0 adc a = adc a from adr_con (by omega)] at hT
      rw [← (bf_tab ha.1 ha.2).1] at hT
      exact va_tlen hx hb hT hS rfl hd (h _ _ _ hc H locs lsM hw hS hl hn)
    | false =>
    rw [hB2] at hc
    cases hO : Nat.beq a 94000 with
    | true =>
      rw [hO] at hc
      have hc : c ls (.int 42 :: r) σ := hc
      have ha : a = 94000 := Nat.eq_of_beq_eq_true hO
      subst ha
      rw [show rr (adr B0 adc) 94000 = some (adc 94000) from rr_con (by decide) (by decide)]
      obtain ⟨-, -, -, hT, -⟩ := hE
      rw [show adr B0 adc 94000 = adc 94000 from adr_con (by decide)] at hT
      exact va_tlen hx hb hT hS (by decide) hd (h _ _ _ hc H locs lsM hw hS hl hn)
    | false =>
      rw [hO] at hc
      have hc : (match shp a with
        | (0, _) => False
        | (1, _) => False
        | (8, _) => c ls (.int (Int32.ofNat (ln σ)) :: r) σ
        | (_, n) => cond (lvx cx σ a) (c ls (.int (Int32.ofNat n) :: r) σ) False) := hc
      obtain ⟨kd, n, hs⟩ : ∃ kd n, shp a = (kd, n) := ⟨_, _, rfl⟩
      rw [hs] at hc
      match kd, hs, hc with
      | 0, hs, hc => exact hc.elim
      | 1, hs, hc => exact hc.elim
      | 8, hs, hc =>
        have hc : c ls (.int (Int32.ofNat (ln σ)) :: r) σ := hc
        have ha : a = SCR := shp8 hs
        subst ha
        rw [show rr (adr B0 adc) SCR = some (adc SCR) from rr_con (by decide) (by decide)]
        rw [hw.2.2.1.2] at hc
        exact va_slen (A := Af B0) (H0 := s.heap) hx hb hX (by omega) (by show ¬ B0 ≤ adc SCR; omega) hS hd (h _ _ _ hc H locs lsM hw hS hl hn)
      | 2, hs, hc =>
        have hc : cond (lvx cx σ a) (c ls (.int (Int32.ofNat n) :: r) σ) False := hc
        obtain ⟨hlv, hc⟩ := cnd hc
        obtain ⟨hlt, hlt2⟩ := live hlv hs (by decide) (by decide)
        have he := wsO_at (ad := adr B0 adc) (tA := tA) hlt
        rw [ent_a2 hs] at he
        have e1 : rr (adr B0 adc) a = some (adr B0 adc a) := by rw [rr_lt (by omega), adr_lt (by omega)]
        rw [e1]
        exact va_alen hx hb hK hw.2.1 a 0 he (ty := .int) rfl rfl hd (h _ _ _ hc H locs lsM hw hS hl hn)
      | 3, hs, hc =>
        have hc : cond (lvx cx σ a) (c ls (.int (Int32.ofNat n) :: r) σ) False := hc
        obtain ⟨hlv, hc⟩ := cnd hc
        obtain ⟨hlt, hlt2⟩ := live hlv hs (by decide) (by decide)
        have he := wsO_at (ad := adr B0 adc) (tA := tA) hlt
        rw [ent_a3 hs] at he
        have e1 : rr (adr B0 adc) a = some (adr B0 adc a) := by rw [rr_lt (by omega), adr_lt (by omega)]
        rw [e1]
        exact va_alen hx hb hK hw.2.1 a 1 he (ty := .boolean) rfl rfl hd (h _ _ _ hc H locs lsM hw hS hl hn)
      | 4, hs, hc =>
        have hc : cond (lvx cx σ a) (c ls (.int (Int32.ofNat n) :: r) σ) False := hc
        obtain ⟨hlv, hc⟩ := cnd hc
        obtain ⟨hlt, hlt2⟩ := live hlv hs (by decide) (by decide)
        have he := wsO_at (ad := adr B0 adc) (tA := tA) hlt
        rw [ent_a4 hs] at he
        have e1 : rr (adr B0 adc) a = some (adr B0 adc a) := by rw [rr_lt (by omega), adr_lt (by omega)]
        rw [e1]
        exact va_alen hx hb hK hw.2.1 a 2 he (ty := .long) rfl rfl hd (h _ _ _ hc H locs lsM hw hS hl hn)
      | 5, hs, hc =>
        have hc : cond (lvx cx σ a) (c ls (.int (Int32.ofNat n) :: r) σ) False := hc
        obtain ⟨hlv, hc⟩ := cnd hc
        obtain ⟨hlt, hlt2⟩ := live hlv hs (by decide) (by decide)
        have he := wsO_at (ad := adr B0 adc) (tA := tA) hlt
        rw [ent_a5 hs] at he
        have e1 : rr (adr B0 adc) a = some (adr B0 adc a) := by rw [rr_lt (by omega), adr_lt (by omega)]
        rw [e1]
        exact va_alen hx hb hK hw.2.1 a 3 he (ty := .object "OwedToWinds$Text") rfl rfl hd (h _ _ _ hc H locs lsM hw hS hl hn)
      | 6, hs, hc =>
        have hc : cond (lvx cx σ a) (c ls (.int (Int32.ofNat n) :: r) σ) False := hc
        obtain ⟨hlv, hc⟩ := cnd hc
        obtain ⟨hlt, hlt2⟩ := live hlv hs (by decide) (by decide)
        have he := wsO_at (ad := adr B0 adc) (tA := tA) hlt
        rw [ent_a6 hs] at he
        have e1 : rr (adr B0 adc) a = some (adr B0 adc a) := by rw [rr_lt (by omega), adr_lt (by omega)]
        rw [e1]
        exact va_alen hx hb hK hw.2.1 a 4 he (ty := .object "OwedToWinds$Word") rfl rfl hd (h _ _ _ hc H locs lsM hw hS hl hn)
      | 7, hs, hc =>
        have hc : cond (lvx cx σ a) (c ls (.int (Int32.ofNat n) :: r) σ) False := hc
        obtain ⟨hlv, hc⟩ := cnd hc
        obtain ⟨hlt, hlt2⟩ := live hlv hs (by decide) (by decide)
        have he := wsO_at (ad := adr B0 adc) (tA := tA) hlt
        rw [ent_a7 hs] at he
        have e1 : rr (adr B0 adc) a = some (adr B0 adc a) := by rw [rr_lt (by omega), adr_lt (by omega)]
        rw [e1]
        exact va_alen hx hb hK hw.2.1 a 5 he (ty := .array .int) rfl rfl hd (h _ _ _ hc H locs lsM hw hS hl hn)
      | k + 9, hs, hc => exact absurd (shp_kd hs) (by omega)
  · exact hc.elim
theorem g_gfw {cx : Bool} {cap : Nat} {call : Cl} {Φ : Po} {own mn : String} {cc : ByteArray} {nL : Nat} {ret : Option FieldType} {J : Nat → Ct} (A : Act cx cap call Φ own mn cc nL ret J) {pc : Nat} {ix k : Nat} {c : Ct} (hd : decode cc pc = .ok (.getfield ix, 3)) (hk : k < 3) (hf : Cond.fieldLink own ix "OwedToWinds$Word" ((["clause", "code", "level"] : List String).getD k "") "I" ∈ gtb) (h : LE c (J (pc + 3))) : LE (o_gfw k c) (J pc) := by
  obtain ⟨p, l, e, R, s, m, args, below, meth, cd, Q, n0, d, B0, adc, tA, D, sv, xs, L0, ⟨hx, hb, hml, hown, hts, hK, hE, hX, hXB, hB, hAO⟩, ⟨hnm, hRc, hRs, hcap, hRf, hRl, hsv, hcn⟩, hcall, hret, rfl⟩ := A
  intro ls st σ hc H locs lsM hw hS hl hn
  unfold o_gfw at hc
  split at hc
  · rename_i a r
    obtain ⟨hg, hc⟩ := cnd hc
    have ha := wB_lt hg
    show W p l e R s m args below meth cd H locs (nxx cx σ - n0) (szs (nxx cx σ) - szs n0) Q (F0 m pc lsM (va_rf (rr (adr B0 adc) a) :: r.map (vmp (adr B0 adc) sv)))
    rw [rr_con (by omega) (by omega)]
    obtain ⟨q, hq, e1, e2, e3, e4⟩ := wordFl_get ha.1 ha.2 hk
    have h9 := h _ _ _ hc H locs lsM hw hS hl hn
    have h10 := va_getE (index := ix) (i := a - 90000) (own := own) (ref := "OwedToWinds$Word") (rest := r.map (vmp (adr B0 adc) sv)) hx hb hE.1 (by rw [show wordNm.length = 42 by decide +kernel]; exact Nat.sub_lt_left_of_lt_add ha.1 ha.2) hS hown hq (by rw [e2, e3]; exact hts _ hf) (fun x hx => by rw [e1] at hx; exact hx) hd (by rw [e4]; exact h9)
    rw [Nat.add_sub_of_le ha.1, adr_con (by omega)] at h10
    exact h10
  · exact hc.elim
theorem wfS_in {a : Nat} (h1 : 90000 ≤ a) (h2 : a < 90042) : 91000 ≤ wfS a ∧ wfS a < 91039 := by
  obtain ⟨i, hi, rfl⟩ : ∃ i, i < 42 ∧ a = 90000 + i := ⟨a - 90000, by omega, by omega⟩
  have h3 : ∀ i, i < 42 → 91000 ≤ wfS (90000 + i) ∧ wfS (90000 + i) < 91039 := by decide +kernel
  exact h3 i hi
theorem nat_sh {a : Nat} (h : 91000 ≤ a) : 92000 + (a - 91000) = a + 1000 := by omega
theorem tfV_eq {a : Nat} (h1 : 91000 ≤ a) (h2 : a < 91039) : tfV a = a + 1000 := by
  obtain ⟨i, hi, rfl⟩ : ∃ i, i < 39 ∧ a = 91000 + i := ⟨a - 91000, by omega, by omega⟩
  have h3 : ∀ i, i < 39 → tfV (91000 + i) = 91000 + i + 1000 := by decide +kernel
  exact h3 i hi
theorem g_gft {cx : Bool} {cap : Nat} {call : Cl} {Φ : Po} {own mn : String} {cc : ByteArray} {nL : Nat} {ret : Option FieldType} {J : Nat → Ct} (A : Act cx cap call Φ own mn cc nL ret J) {pc : Nat} {ix : Nat} {c : Ct} (hd : decode cc pc = .ok (.getfield ix, 3)) (hf : Cond.fieldLink own ix "OwedToWinds$Word" "spelling" "Ljava/lang/String;" ∈ gtb) (h : LE c (J (pc + 3))) : LE (o_gft c) (J pc) := by
  obtain ⟨p, l, e, R, s, m, args, below, meth, cd, Q, n0, d, B0, adc, tA, D, sv, xs, L0, ⟨hx, hb, hml, hown, hts, hK, hE, hX, hXB, hB, hAO⟩, ⟨hnm, hRc, hRs, hcap, hRf, hRl, hsv, hcn⟩, hcall, hret, rfl⟩ := A
  intro ls st σ hc H locs lsM hw hS hl hn
  unfold o_gft at hc
  split at hc
  · rename_i a r
    obtain ⟨hg, hc⟩ := cnd hc
    have ha := wB_lt hg
    show W p l e R s m args below meth cd H locs (nxx cx σ - n0) (szs (nxx cx σ) - szs n0) Q (F0 m pc lsM (va_rf (rr (adr B0 adc) a) :: r.map (vmp (adr B0 adc) sv)))
    rw [rr_con (by omega) (by omega)]
    have h9 := h _ _ _ hc H locs lsM hw hS hl hn
    have hsr := wfS_in ha.1 ha.2
    have h10 := va_getX (index := ix) (i := a - 90000) (own := own) (ref := "OwedToWinds$Word") (rest := r.map (vmp (adr B0 adc) sv)) (pc := pc) (ls := lsM) (cells := nxx cx σ - n0) (slots := szs (nxx cx σ) - szs n0) (Q := Q) (meth := meth) (args := args) (R := R) (e := e) (l := l) (below := below) hx hb hE.2.1 (Nat.sub_lt_left_of_lt_add ha.1 ha.2) hS hown (hts _ hf) (fun x hx => hx) hd (by
      rw [Nat.add_sub_of_le ha.1, adr_con (by omega)]
      rw [List.map_cons, show vmp (adr B0 adc) sv (.ref (wfS a)) = .ref (adc (wfS a)) by show va_rf (rr (adr B0 adc) (wfS a)) = _; rw [rr_con (by omega) (by omega)]; rfl] at h9
      exact h9)
    rw [Nat.add_sub_of_le ha.1, adr_con (by omega)] at h10
    exact h10
  · exact hc.elim
theorem g_gfv {cx : Bool} {cap : Nat} {call : Cl} {Φ : Po} {own mn : String} {cc : ByteArray} {nL : Nat} {ret : Option FieldType} {J : Nat → Ct} (A : Act cx cap call Φ own mn cc nL ret J) {pc : Nat} {ix : Nat} {c : Ct} (hd : decode cc pc = .ok (.getfield ix, 3)) (hf : Cond.fieldLink own ix "java/lang/String" "value" "[B" ∈ gtb) (h : LE c (J (pc + 3))) : LE (o_gfv c) (J pc) := by
  obtain ⟨p, l, e, R, s, m, args, below, meth, cd, Q, n0, d, B0, adc, tA, D, sv, xs, L0, ⟨hx, hb, hml, hown, hts, hK, hE, hX, hXB, hB, hAO⟩, ⟨hnm, hRc, hRs, hcap, hRf, hRl, hsv, hcn⟩, hcall, hret, rfl⟩ := A
  intro ls st σ hc H locs lsM hw hS hl hn
  unfold o_gfv at hc
  split at hc
  · rename_i a r
    obtain ⟨hg, hc⟩ := cnd hc
    have ha := tB_lt hg
    show W p l e R s m args below meth cd H locs (nxx cx σ - n0) (szs (nxx cx σ) - szs n0) Q (F0 m pc lsM (va_rf (rr (adr B0 adc) a) :: r.map (vmp (adr B0 adc) sv)))
    rw [rr_con (by omega) (by omega)]
    have h9 := h _ _ _ hc H locs lsM hw hS hl hn
    obtain ⟨-, -, -, -, hT, -⟩ := hE
    obtain ⟨-, -, hF, -⟩ := hT.1 (a - 91000) (Nat.sub_lt_left_of_lt_add ha.1 ha.2)
    dsimp only at hF
    have e2 : 92000 + (a - 91000) = a + 1000 := nat_sh ha.1
    rw [Nat.add_sub_of_le ha.1, e2, adr_con (a := a) (by omega), adr_con (by omega)] at hF
    rw [tfV_eq ha.1 ha.2, List.map_cons, show vmp (adr B0 adc) sv (.ref (a + 1000)) = .ref (adc (a + 1000)) by show va_rf (rr (adr B0 adc) (a + 1000)) = _; rw [rr_con (by omega) (by omega)]; rfl] at h9
    exact vk_getf hx hb hF hS hown (hts _ hf) (fun x hx => hx) hd h9
  · exact hc.elim
theorem g_gfc {cx : Bool} {cap : Nat} {call : Cl} {Φ : Po} {own mn : String} {cc : ByteArray} {nL : Nat} {ret : Option FieldType} {J : Nat → Ct} (A : Act cx cap call Φ own mn cc nL ret J) {pc : Nat} {ix : Nat} {c : Ct} (hd : decode cc pc = .ok (.getfield ix, 3)) (hf : Cond.fieldLink own ix "java/lang/String" "coder" "B" ∈ gtb) (h : LE c (J (pc + 3))) : LE (o_gfc c) (J pc) := by
  obtain ⟨p, l, e, R, s, m, args, below, meth, cd, Q, n0, d, B0, adc, tA, D, sv, xs, L0, ⟨hx, hb, hml, hown, hts, hK, hE, hX, hXB, hB, hAO⟩, ⟨hnm, hRc, hRs, hcap, hRf, hRl, hsv, hcn⟩, hcall, hret, rfl⟩ := A
  intro ls st σ hc H locs lsM hw hS hl hn
  unfold o_gfc at hc
  split at hc
  · rename_i a r
    obtain ⟨hg, hc⟩ := cnd hc
    have ha := tB_lt hg
    show W p l e R s m args below meth cd H locs (nxx cx σ - n0) (szs (nxx cx σ) - szs n0) Q (F0 m pc lsM (va_rf (rr (adr B0 adc) a) :: r.map (vmp (adr B0 adc) sv)))
    rw [rr_con (by omega) (by omega)]
    have h9 := h _ _ _ hc H locs lsM hw hS hl hn
    obtain ⟨-, -, -, -, hT, -⟩ := hE
    obtain ⟨-, hF, -⟩ := hT.1 (a - 91000) (Nat.sub_lt_left_of_lt_add ha.1 ha.2)
    dsimp only at hF
    rw [Nat.add_sub_of_le ha.1, adr_con (a := a) (by omega)] at hF
    exact vk_getf hx hb hF hS hown (hts _ hf) (fun x hx => hx) hd h9
  · exact hc.elim
theorem g_gstw {cx : Bool} {cap : Nat} {call : Cl} {Φ : Po} {own mn : String} {cc : ByteArray} {nL : Nat} {ret : Option FieldType} {J : Nat → Ct} (A : Act cx cap call Φ own mn cc nL ret J) {pc : Nat} {ix i : Nat} {c : Ct} (hd : decode cc pc = .ok (.getstatic ix, 3)) (hi : i < 42) (hf : Cond.fieldLink own ix "OwedToWinds$Word" (wordNm.getD i "") "LOwedToWinds$Word;" ∈ gtb) (h : LE c (J (pc + 3))) : LE (o_gst (90000 + i) c) (J pc) := by
  obtain ⟨p, l, e, R, s, m, args, below, meth, cd, Q, n0, d, B0, adc, tA, D, sv, xs, L0, ⟨hx, hb, hml, hown, hts, hK, hE, hX, hXB, hB, hAO⟩, ⟨hnm, hRc, hRs, hcap, hRf, hRl, hsv, hcn⟩, hcall, hret, rfl⟩ := A
  intro ls st σ hc H locs lsM hw hS hl hn
  have h9 := h _ _ _ hc H locs lsM hw hS hl hn
  obtain ⟨hZ, -⟩ := hE.1.1 i (by rw [show wordNm.length = 42 by decide +kernel]; exact hi)
  dsimp only at hZ
  rw [List.map_cons, show vmp (adr B0 adc) sv (.ref (90000 + i)) = .ref (adr B0 adc (90000 + i)) by show va_rf (rr (adr B0 adc) (90000 + i)) = _; rw [rr_con (by omega) (by omega), adr_con (by omega)]; rfl] at h9
  exact va_gets hx hb hZ hS hown (hts _ hf) (fun x hx => hx) hd h9
theorem g_gstA {cx : Bool} {cap : Nat} {call : Cl} {Φ : Po} {own mn : String} {cc : ByteArray} {nL : Nat} {ret : Option FieldType} {J : Nat → Ct} (A : Act cx cap call Φ own mn cc nL ret J) {pc : Nat} {ix : Nat} {host : String} {c : Ct} (hd : decode cc pc = .ok (.getstatic ix, 3)) (hf : Cond.fieldLinkNest own ix "OwedToWinds$Word" "ALL" "[LOwedToWinds$Word;" host ∈ nestL) (h : LE c (J (pc + 3))) : LE (o_gst 94000 c) (J pc) := by
  obtain ⟨p, l, e, R, s, m, args, below, meth, cd, Q, n0, d, B0, adc, tA, D, sv, xs, L0, ⟨hx, hb, hml, hown, hts, hK, hE, hX, hXB, hB, hAO⟩, ⟨hnm, hRc, hRs, hcap, hRf, hRl, hsv, hcn⟩, hcall, hret, rfl⟩ := A
  intro ls st σ hc H locs lsM hw hS hl hn
  have h9 := h _ _ _ hc H locs lsM hw hS hl hn
  obtain ⟨-, -, hZ, -⟩ := hE
  rw [List.map_cons, show vmp (adr B0 adc) sv (.ref 94000) = .ref (adr B0 adc 94000) by show va_rf (rr (adr B0 adc) 94000) = _; rw [rr_con (by decide) (by decide), adr_con (by decide)]; rfl] at h9
  exact va_getsN hx hb hZ hS hown (va_Nw.use rfl (hAO.2.2.2 _ hf)) (fun x hx => hx) hd h9
theorem g_gstO {cx : Bool} {cap : Nat} {call : Cl} {Φ : Po} {own mn : String} {cc : ByteArray} {nL : Nat} {ret : Option FieldType} {J : Nat → Ct} (A : Act cx cap call Φ own mn cc nL ret J) {pc : Nat} {ix : Nat} {c : Ct} (hd : decode cc pc = .ok (.getstatic ix, 3)) (hf : Cond.fieldLink own ix "OwedToWinds$Fraction" "ORDERS" "[I" ∈ gtb) (h : LE c (J (pc + 3))) : LE (o_gst 94001 c) (J pc) := by
  obtain ⟨p, l, e, R, s, m, args, below, meth, cd, Q, n0, d, B0, adc, tA, D, sv, xs, L0, ⟨hx, hb, hml, hown, hts, hK, hE, hX, hXB, hB, hAO⟩, ⟨hnm, hRc, hRs, hcap, hRf, hRl, hsv, hcn⟩, hcall, hret, rfl⟩ := A
  intro ls st σ hc H locs lsM hw hS hl hn
  have h9 := h _ _ _ hc H locs lsM hw hS hl hn
  obtain ⟨-, -, -, -, -, -, -, hZ, -⟩ := hE
  rw [List.map_cons, show vmp (adr B0 adc) sv (.ref 94001) = .ref (adr B0 adc 94001) by show va_rf (rr (adr B0 adc) 94001) = _; rw [rr_con (by decide) (by decide), adr_con (by decide)]; rfl] at h9
  exact va_gets hx hb hZ hS hown (hts _ hf) (fun x hx => hx) hd h9
theorem g_gsi {cx : Bool} {cap : Nat} {call : Cl} {Φ : Po} {own mn : String} {cc : ByteArray} {nL : Nat} {ret : Option FieldType} {J : Nat → Ct} (A : Act cx cap call Φ own mn cc nL ret J) {pc : Nat} {ix : Nat} {c : Ct} (hd : decode cc pc = .ok (.getstatic ix, 3)) (hf : Cond.fieldLink own ix "java/lang/String" "COMPACT_STRINGS" "Z" ∈ gtb) (h : LE c (J (pc + 3))) : LE (o_gsi 1 c) (J pc) := by
  obtain ⟨p, l, e, R, s, m, args, below, meth, cd, Q, n0, d, B0, adc, tA, D, sv, xs, L0, ⟨hx, hb, hml, hown, hts, hK, hE, hX, hXB, hB, hAO⟩, ⟨hnm, hRc, hRs, hcap, hRf, hRl, hsv, hcn⟩, hcall, hret, rfl⟩ := A
  intro ls st σ hc H locs lsM hw hS hl hn
  have h9 := h _ _ _ hc H locs lsM hw hS hl hn
  obtain ⟨-, -, -, -, -, hZ, -⟩ := hE
  exact va_gets hx hb hZ hS hown (hts _ hf) (fun x hx => hx) hd h9
theorem g_gso {cx : Bool} {cap : Nat} {call : Cl} {Φ : Po} {own mn : String} {cc : ByteArray} {nL : Nat} {ret : Option FieldType} {J : Nat → Ct} (A : Act cx cap call Φ own mn cc nL ret J) {pc : Nat} {ix : Nat} {c : Ct} (hd : decode cc pc = .ok (.getstatic ix, 3)) (hf : Cond.fieldLink own ix "jdk/internal/util/Preconditions" "SIOOBE_FORMATTER" "Ljava/util/function/BiFunction;" ∈ gtb) (h : LE c (J (pc + 3))) : LE (o_gso c) (J pc) := by
  obtain ⟨p, l, e, R, s, m, args, below, meth, cd, Q, n0, d, B0, adc, tA, D, sv, xs, L0, ⟨hx, hb, hml, hown, hts, hK, hE, hX, hXB, hB, hAO⟩, ⟨hnm, hRc, hRs, hcap, hRf, hRl, hsv, hcn⟩, hcall, hret, rfl⟩ := A
  intro ls st σ hc H locs lsM hw hS hl hn
  have h9 := h _ _ _ hc H locs lsM hw hS hl hn
  obtain ⟨-, -, -, -, -, -, hZ, -⟩ := hE
  exact va_gets hx hb hZ hS hown (hts _ hf) (fun x hx => hx) hd h9
theorem g_ir {cx : Bool} {cap : Nat} {call : Cl} {Φ : Po} {own mn : String} {cc : ByteArray} {nL : Nat} {ret : Option FieldType} {J : Nat → Ct} (A : Act cx cap call Φ own mn cc nL ret J) {pc : Nat}  (hd : decode cc pc = .ok (.ireturn, 1)) (hr : ret = some .int) : LE (o_ir Φ) (J pc) := by
  obtain ⟨p, l, e, R, s, m, args, below, meth, cd, Q, n0, d, B0, adc, tA, D, sv, xs, L0, ⟨hx, hb, hml, hown, hts, hK, hE, hX, hXB, hB, hAO⟩, ⟨hnm, hRc, hRs, hcap, hRf, hRl, hsv, hcn⟩, hcall, hret, rfl⟩ := A
  intro ls st σ hc H locs lsM hw hS hl hn
  unfold o_ir at hc
  split at hc
  · rename_i x
    exact hret .ireturn _ σ pc H locs lsM hc (Or.inl ⟨rfl, _, x, hr, rfl, rfl, Or.inl rfl⟩) hd hw hS hn
  · exact hc.elim
theorem g_zr {cx : Bool} {cap : Nat} {call : Cl} {Φ : Po} {own mn : String} {cc : ByteArray} {nL : Nat} {ret : Option FieldType} {J : Nat → Ct} (A : Act cx cap call Φ own mn cc nL ret J) {pc : Nat}  (hd : decode cc pc = .ok (.ireturn, 1)) (hr : ret = some .boolean) : LE (o_zr Φ) (J pc) := by
  obtain ⟨p, l, e, R, s, m, args, below, meth, cd, Q, n0, d, B0, adc, tA, D, sv, xs, L0, ⟨hx, hb, hml, hown, hts, hK, hE, hX, hXB, hB, hAO⟩, ⟨hnm, hRc, hRs, hcap, hRf, hRl, hsv, hcn⟩, hcall, hret, rfl⟩ := A
  intro ls st σ hc H locs lsM hw hS hl hn
  unfold o_zr at hc
  split at hc
  · rename_i x
    obtain ⟨hz, hc⟩ := cnd hc
    exact hret .ireturn _ σ pc H locs lsM hc (Or.inl ⟨rfl, _, x, hr, rfl, (zB_ok hz).1, Or.inr (Or.inl rfl)⟩) hd hw hS hn
  · exact hc.elim
theorem g_nr {cx : Bool} {cap : Nat} {call : Cl} {Φ : Po} {own mn : String} {cc : ByteArray} {nL : Nat} {ret : Option FieldType} {J : Nat → Ct} (A : Act cx cap call Φ own mn cc nL ret J) {pc : Nat} {ty : FieldType}  (hd : decode cc pc = .ok (.ireturn, 1)) (hr : ret = some ty) (hty : ty = .char ∨ ty = .byte) : LE (o_nr ty Φ) (J pc) := by
  obtain ⟨p, l, e, R, s, m, args, below, meth, cd, Q, n0, d, B0, adc, tA, D, sv, xs, L0, ⟨hx, hb, hml, hown, hts, hK, hE, hX, hXB, hB, hAO⟩, ⟨hnm, hRc, hRs, hcap, hRf, hRl, hsv, hcn⟩, hcall, hret, rfl⟩ := A
  intro ls st σ hc H locs lsM hw hS hl hn
  unfold o_nr at hc
  split at hc
  · rename_i x
    obtain ⟨hz, hc⟩ := hc
    exact hret .ireturn _ σ pc H locs lsM hc (Or.inl ⟨rfl, _, x, hr, rfl, hz, Or.inr (Or.inr hty)⟩) hd hw hS hn
  · exact hc.elim
theorem g_lr {cx : Bool} {cap : Nat} {call : Cl} {Φ : Po} {own mn : String} {cc : ByteArray} {nL : Nat} {ret : Option FieldType} {J : Nat → Ct} (A : Act cx cap call Φ own mn cc nL ret J) {pc : Nat}  (hd : decode cc pc = .ok (.lreturn, 1)) (hr : ret = some .long) : LE (o_lr Φ) (J pc) := by
  obtain ⟨p, l, e, R, s, m, args, below, meth, cd, Q, n0, d, B0, adc, tA, D, sv, xs, L0, ⟨hx, hb, hml, hown, hts, hK, hE, hX, hXB, hB, hAO⟩, ⟨hnm, hRc, hRs, hcap, hRf, hRl, hsv, hcn⟩, hcall, hret, rfl⟩ := A
  intro ls st σ hc H locs lsM hw hS hl hn
  unfold o_lr at hc
  split at hc
  · rename_i x
    exact hret .lreturn _ σ pc H locs lsM hc (Or.inr (Or.inl ⟨rfl, x, hr, rfl⟩)) hd hw hS hn
  · exact hc.elim
theorem g_ar {cx : Bool} {cap : Nat} {call : Cl} {Φ : Po} {own mn : String} {cc : ByteArray} {nL : Nat} {ret : Option FieldType} {J : Nat → Ct} (A : Act cx cap call Φ own mn cc nL ret J) {pc : Nat} {ty : FieldType}  (hd : decode cc pc = .ok (.areturn, 1)) (hr : ret = some ty) (hty : (∃ n, ty = .object n) ∨ ∃ t, ty = .array t) : LE (o_ar Φ) (J pc) := by
  obtain ⟨p, l, e, R, s, m, args, below, meth, cd, Q, n0, d, B0, adc, tA, D, sv, xs, L0, ⟨hx, hb, hml, hown, hts, hK, hE, hX, hXB, hB, hAO⟩, ⟨hnm, hRc, hRs, hcap, hRf, hRl, hsv, hcn⟩, hcall, hret, rfl⟩ := A
  intro ls st σ hc H locs lsM hw hS hl hn
  unfold o_ar at hc
  split at hc
  · rename_i x
    exact hret .areturn _ σ pc H locs lsM hc (Or.inr (Or.inr (Or.inl ⟨rfl, ty, x, hr, rfl, hty⟩))) hd hw hS hn
  · exact hc.elim
theorem g_vr {cx : Bool} {cap : Nat} {call : Cl} {Φ : Po} {own mn : String} {cc : ByteArray} {nL : Nat} {ret : Option FieldType} {J : Nat → Ct} (A : Act cx cap call Φ own mn cc nL ret J) {pc : Nat}  (hd : decode cc pc = .ok (.return_, 1)) (hr : ret = none) : LE (o_vr Φ) (J pc) := by
  obtain ⟨p, l, e, R, s, m, args, below, meth, cd, Q, n0, d, B0, adc, tA, D, sv, xs, L0, ⟨hx, hb, hml, hown, hts, hK, hE, hX, hXB, hB, hAO⟩, ⟨hnm, hRc, hRs, hcap, hRf, hRl, hsv, hcn⟩, hcall, hret, rfl⟩ := A
  intro ls st σ hc H locs lsM hw hS hl hn
  unfold o_vr at hc
  split at hc
  · exact hret .return_ none σ pc H locs lsM hc (Or.inr (Or.inr (Or.inr ⟨rfl, hr, rfl⟩))) hd hw hS hn
  · exact hc.elim
