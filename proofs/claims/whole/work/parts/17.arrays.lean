/-! arrays, statics, constants' fields, answers -/
theorem in_vp {j : Int32} {n : Nat} (h : inb j n) : vp_in j n := by
  rintro (q | q)
  · have h1 := h.1
    rw [Int32.lt_iff_toInt_lt, Int32.toInt_zero] at q
    omega
  · have h1 := h.1
    have h2 := h.2
    have e : j.toNatClampNeg = j.toInt.toNat := rfl
    rw [e] at q
    omega
theorem ent_a2 {ad : Nat → Nat} {tA : Nat → ClassId} {cx : Bool} {σ : Sg} {a n : Nat} (h : shp a = (2, n)) : ent ad tA cx σ a = .inl (tA 0, n, .inl (gI σ a)) := by unfold ent; rw [h]; rfl
theorem ent_a3 {ad : Nat → Nat} {tA : Nat → ClassId} {cx : Bool} {σ : Sg} {a n : Nat} (h : shp a = (3, n)) : ent ad tA cx σ a = .inl (tA 1, n, .inl (gI σ a)) := by unfold ent; rw [h]; rfl
theorem ent_a4 {ad : Nat → Nat} {tA : Nat → ClassId} {cx : Bool} {σ : Sg} {a n : Nat} (h : shp a = (4, n)) : ent ad tA cx σ a = .inl (tA 2, n, .inr (.inl (gL σ a))) := by unfold ent; rw [h]; rfl
theorem ent_a5 {ad : Nat → Nat} {tA : Nat → ClassId} {cx : Bool} {σ : Sg} {a n : Nat} (h : shp a = (5, n)) : ent ad tA cx σ a = .inl (tA 3, n, .inr (.inr (.inr (.inr (fun j => rr ad (rfx cx σ a j)))))) := by unfold ent; rw [h]; rfl
theorem ent_a6 {ad : Nat → Nat} {tA : Nat → ClassId} {cx : Bool} {σ : Sg} {a n : Nat} (h : shp a = (6, n)) : ent ad tA cx σ a = .inl (tA 4, n, .inr (.inr (.inr (.inr (fun j => rr ad (rfx cx σ a j)))))) := by unfold ent; rw [h]; rfl
theorem ent_a7 {ad : Nat → Nat} {tA : Nat → ClassId} {cx : Bool} {σ : Sg} {a n : Nat} (h : shp a = (7, n)) : ent ad tA cx σ a = .inl (tA 5, n, .inr (.inr (.inr (.inr (fun j => rr ad (rfx cx σ a j)))))) := by unfold ent; rw [h]; rfl
theorem rr_lt {B0 : Nat} {adc : Nat → Nat} {a : Nat} (h : a < 90000) : rr (adr B0 adc) a = some (B0 + a) := by
  have hN : NUL = 99999 := rfl
  unfold rr adr
  rw [if_neg (by omega), if_pos h]
theorem rr_con {B0 : Nat} {adc : Nat → Nat} {a : Nat} (h : 90000 ≤ a) (h2 : a < 99999) : rr (adr B0 adc) a = some (adc a) := by
  have hN : NUL = 99999 := rfl
  unfold rr adr
  rw [if_neg (by omega), if_neg (by omega)]
theorem adr_lt {B0 : Nat} {adc : Nat → Nat} {a : Nat} (h : a < 90000) : adr B0 adc a = B0 + a := by unfold adr; rw [if_pos h]
theorem adr_con {B0 : Nat} {adc : Nat → Nat} {a : Nat} (h : 90000 ≤ a) : adr B0 adc a = adc a := by unfold adr; rw [if_neg (by omega)]
theorem tB_lt {a : Nat} (h : tB a = true) : 91000 ≤ a ∧ a < 91039 := by
  obtain ⟨h1, h2⟩ := and2 h
  have h3 : Nat.ble (a + 1) 91039 = true := h2
  have h1 := Nat.le_of_ble_eq_true h1
  have h3 := Nat.le_of_ble_eq_true h3
  omega
theorem bB_lt {a : Nat} (h : bB a = true) : 92000 ≤ a ∧ a < 92039 := by
  obtain ⟨h1, h2⟩ := and2 h
  have h3 : Nat.ble (a + 1) 92039 = true := h2
  have h1 := Nat.le_of_ble_eq_true h1
  have h3 := Nat.le_of_ble_eq_true h3
  omega
theorem nob : NOB = 137 := rfl
theorem shp8 {a z : Nat} (h : shp a = (8, z)) : a = SCR := by
  unfold shp at h
  cases hs : Nat.beq a SCR with
  | true => exact Nat.eq_of_beq_eq_true hs
  | false =>
    rw [hs] at h
    have h : shpL.getD a (0, 0) = (8, z) := h
    exfalso
    by_cases hl : a < shpL.length
    · have h2 : (shpL.getD a (0, 0)) ∈ shpL := by
        rw [List.getD_eq_getElem?_getD, List.getElem?_eq_getElem hl]
        exact List.getElem_mem hl
      rw [h] at h2
      have h3 : shpL.all (fun q => Nat.blt q.1 8) = true := by decide +kernel
      have h4 := List.all_eq_true.mp h3 _ h2
      have h4 : Nat.blt 8 8 = true := h4
      exact absurd h4 (by decide)
    · rw [List.getD_eq_getElem?_getD, List.getElem?_eq_none (by omega)] at h
      cases h
theorem g_iald {cx : Bool} {cap : Nat} {call : Cl} {Φ : Po} {own mn : String} {cc : ByteArray} {nL : Nat} {ret : Option FieldType} {J : Nat → Ct} (A : Act cx cap call Φ own mn cc nL ret J) {pc : Nat} {c : Ct} (hd : decode cc pc = .ok (.iaload, 1)) (h : LE c (J (pc + 1))) : LE (o_iald cx c) (J pc) := by
  obtain ⟨p, l, e, R, s, m, args, below, meth, cd, Q, n0, d, B0, adc, tA, D, sv, xs, L0, ⟨hx, hb, hml, hown, hts, hK, hE, hX, hXB, hB, hAO⟩, ⟨hnm, hRc, hRs, hcap, hRf, hRl, hsv, hcn⟩, hcall, hret, rfl⟩ := A
  intro ls st σ hc H locs lsM hw hS hl hn
  unfold o_iald at hc
  split at hc
  · rename_i j a r
    cases hO : Nat.beq a 94001 with
    | true =>
      rw [hO] at hc
      obtain ⟨hin, hc⟩ := hc
      have ha : a = 94001 := Nat.eq_of_beq_eq_true hO
      subst ha
      show W p l e R s m args below meth cd H locs (nxx cx σ - n0) (szs (nxx cx σ) - szs n0) Q (F0 m pc lsM (.int j :: va_rf (rr (adr B0 adc) 94001) :: r.map (vmp (adr B0 adc) sv)))
      rw [show rr (adr B0 adc) 94001 = some (adc 94001) from rr_con (by decide) (by decide)]
      obtain ⟨-, -, -, -, -, -, -, -, hT⟩ := hE
      rw [show adr B0 adc 94001 = adc 94001 from adr_con (by decide)] at hT
      exact va_ti hx hb hT hS (in_vp hin) rfl hd (h _ _ _ hc H locs lsM hw hS hl hn)
    | false =>
    rw [hO] at hc
    have hc : (match shp a with
      | (2, n) => cond (lvx cx σ a) (inb j n ∧ c ls (.int (gI σ a (ix j)) :: r) σ) False
      | (8, _) => inb j (ln σ) ∧ c ls (.int (gI σ a (ix j)) :: r) σ
      | _ => False) := hc
    show W p l e R s m args below meth cd H locs (nxx cx σ - n0) (szs (nxx cx σ) - szs n0) Q (F0 m pc lsM (.int j :: va_rf (rr (adr B0 adc) a) :: r.map (vmp (adr B0 adc) sv)))
    split at hc
    · rename_i n hs
      obtain ⟨hlv, hin, hc⟩ := cnd hc
      obtain ⟨hlt, hlt2⟩ := live hlv hs (by decide) (by decide)
      have he := wsO_at (ad := adr B0 adc) (tA := tA) hlt
      rw [ent_a2 hs] at he
      have hn137 := nob
      have e1 : rr (adr B0 adc) a = some (adr B0 adc a) := by rw [rr_lt (by omega), adr_lt (by omega)]
      rw [e1]
      exact va_iald hx hb hK hw.2.1 a 0 he rfl (in_vp hin) hd (h _ _ _ hc H locs lsM hw hS hl hn)
    · rename_i z hs
      obtain ⟨hin, hc⟩ := hc
      have ha : a = SCR := shp8 hs
      subst ha
      rw [show rr (adr B0 adc) SCR = some (adc SCR) from rr_con (by decide) (by decide)]
      rw [hw.2.2.1.2] at hin
      have hv : gI σ SCR (ix j) = xs (ix j) := hw.2.2.1.1 _
      rw [hv] at hc
      have hcc : LE c (GG p l e R s m args below meth cd Q cx n0 nL B0 adc tA D sv xs L0 (pc + 1)) := h
      have h9 := h _ _ _ hc H locs lsM hw hS hl hn
      exact va_sld (A := Af B0) (H0 := s.heap) hx hb hX (by omega) (by show ¬ B0 ≤ adc SCR; omega) hS (in_vp hin) hd h9
    · exact hc.elim
  · exact hc.elim
theorem g_zald {cx : Bool} {cap : Nat} {call : Cl} {Φ : Po} {own mn : String} {cc : ByteArray} {nL : Nat} {ret : Option FieldType} {J : Nat → Ct} (A : Act cx cap call Φ own mn cc nL ret J) {pc : Nat} {c : Ct} (hd : decode cc pc = .ok (.baload, 1)) (h : LE c (J (pc + 1))) : LE (o_zald cx c) (J pc) := by
  obtain ⟨p, l, e, R, s, m, args, below, meth, cd, Q, n0, d, B0, adc, tA, D, sv, xs, L0, ⟨hx, hb, hml, hown, hts, hK, hE, hX, hXB, hB, hAO⟩, ⟨hnm, hRc, hRs, hcap, hRf, hRl, hsv, hcn⟩, hcall, hret, rfl⟩ := A
  intro ls st σ hc H locs lsM hw hS hl hn
  unfold o_zald at hc
  split at hc
  · rename_i j a r
    show W p l e R s m args below meth cd H locs (nxx cx σ - n0) (szs (nxx cx σ) - szs n0) Q (F0 m pc lsM (.int j :: va_rf (rr (adr B0 adc) a) :: r.map (vmp (adr B0 adc) sv)))
    split at hc
    · rename_i n hs
      obtain ⟨hlv, hin, hc⟩ := cnd hc
      obtain ⟨hlt, hlt2⟩ := live hlv hs (by decide) (by decide)
      have he := wsO_at (ad := adr B0 adc) (tA := tA) hlt
      rw [ent_a3 hs] at he
      have hn137 := nob
      have e1 : rr (adr B0 adc) a = some (adr B0 adc a) := by rw [rr_lt (by omega), adr_lt (by omega)]
      rw [e1]
      exact va_zald hx hb hK hw.2.1 a 1 he rfl (in_vp hin) hd (h _ _ _ hc H locs lsM hw hS hl hn)
    · exact hc.elim
  · exact hc.elim
theorem g_lald {cx : Bool} {cap : Nat} {call : Cl} {Φ : Po} {own mn : String} {cc : ByteArray} {nL : Nat} {ret : Option FieldType} {J : Nat → Ct} (A : Act cx cap call Φ own mn cc nL ret J) {pc : Nat} {c : Ct} (hd : decode cc pc = .ok (.laload, 1)) (h : LE c (J (pc + 1))) : LE (o_lald cx c) (J pc) := by
  obtain ⟨p, l, e, R, s, m, args, below, meth, cd, Q, n0, d, B0, adc, tA, D, sv, xs, L0, ⟨hx, hb, hml, hown, hts, hK, hE, hX, hXB, hB, hAO⟩, ⟨hnm, hRc, hRs, hcap, hRf, hRl, hsv, hcn⟩, hcall, hret, rfl⟩ := A
  intro ls st σ hc H locs lsM hw hS hl hn
  unfold o_lald at hc
  split at hc
  · rename_i j a r
    show W p l e R s m args below meth cd H locs (nxx cx σ - n0) (szs (nxx cx σ) - szs n0) Q (F0 m pc lsM (.int j :: va_rf (rr (adr B0 adc) a) :: r.map (vmp (adr B0 adc) sv)))
    split at hc
    · rename_i n hs
      obtain ⟨hlv, hin, hc⟩ := cnd hc
      obtain ⟨hlt, hlt2⟩ := live hlv hs (by decide) (by decide)
      have he := wsO_at (ad := adr B0 adc) (tA := tA) hlt
      rw [ent_a4 hs] at he
      have hn137 := nob
      have e1 : rr (adr B0 adc) a = some (adr B0 adc a) := by rw [rr_lt (by omega), adr_lt (by omega)]
      rw [e1]
      exact va_lald hx hb hK hw.2.1 a 2 he rfl (in_vp hin) hd (h _ _ _ hc H locs lsM hw hS hl hn)
    · exact hc.elim
  · exact hc.elim
theorem bf_tab {a : Nat} (h1 : 92000 ≤ a) (h2 : a < 92039) : bfN a = textLen.getD (a - 92000) 0 ∧ ∀ j, bfB a j = (textByt.getD (a - 92000) []).getD j 0 := by
  obtain ⟨i, hi, rfl⟩ : ∃ i, i < 39 ∧ a = 92000 + i := ⟨a - 92000, by omega, by omega⟩
  rw [Nat.add_sub_cancel_left]
  have h3 : ∀ i, i < 39 → bfL (92000 + i) = textByt.getD i [] ∧ textLen.getD i 0 = (textByt.getD i []).length := by decide +kernel
  obtain ⟨h4, h5⟩ := h3 i hi
  refine ⟨?_, fun j => ?_⟩
  · show (bfL _).length = _
    rw [h4, h5]
  · show (bfL _).getD j 0 = _
    rw [h4]
theorem g_bald {cx : Bool} {cap : Nat} {call : Cl} {Φ : Po} {own mn : String} {cc : ByteArray} {nL : Nat} {ret : Option FieldType} {J : Nat → Ct} (A : Act cx cap call Φ own mn cc nL ret J) {pc : Nat} {c : Ct} (hd : decode cc pc = .ok (.baload, 1)) (h : LE c (J (pc + 1))) : LE (o_bald c) (J pc) := by
  obtain ⟨p, l, e, R, s, m, args, below, meth, cd, Q, n0, d, B0, adc, tA, D, sv, xs, L0, ⟨hx, hb, hml, hown, hts, hK, hE, hX, hXB, hB, hAO⟩, ⟨hnm, hRc, hRs, hcap, hRf, hRl, hsv, hcn⟩, hcall, hret, rfl⟩ := A
  intro ls st σ hc H locs lsM hw hS hl hn
  unfold o_bald at hc
  split at hc
  · rename_i j a r
    obtain ⟨hB2, hin, hc⟩ := cnd hc
    have ha := bB_lt hB2
    show W p l e R s m args below meth cd H locs (nxx cx σ - n0) (szs (nxx cx σ) - szs n0) Q (F0 m pc lsM (.int j :: va_rf (rr (adr B0 adc) a) :: r.map (vmp (adr B0 adc) sv)))
    rw [show rr (adr B0 adc) a = some (adc a) from rr_con (by omega) (by omega)]
    obtain ⟨-, -, -, -, hT, -⟩ := hE
    obtain ⟨-, -, -, hT⟩ := hT.1 (a - 92000) (Nat.sub_lt_left_of_lt_add ha.1 ha.2)
    dsimp only at hT
    have e92 : 92000 + (a - 92000) = a := Nat.add_sub_of_le ha.1
    have e93 : adr B0 adc a = adc a := adr_con (Nat.le_trans (by decide) ha.1)
    rw [e92, e93] at hT
    have hb2 := bf_tab ha.1 ha.2
    rw [← hb2.1] at hT
    exact va_tb hx hb hT hS (in_vp hin) (by rw [← hb2.2]; rfl) hd (h _ _ _ hc H locs lsM hw hS hl hn)
  · exact hc.elim
theorem va_aldA {p : Program} {l : Launch} {e : Env} {R : Room} {s : State} {m : MethodId} {args : Array Value} {below : List Frame} {meth : Method} {c : Code} {H : Heap} {locs : List Loc} {cells slots : Nat} {Q : State → Prop} {cc : ByteArray} {pc : Nat} {ls : Array Slot} {rest : List Value} {D : va_G} {cl : List vw_C} {a : Nat} {tys : List (ClassId × FieldType)} {ws : va_W}
    (hexec : p.tables.exec = Jvm.exec) (hb : c.code = cc) (hK : va_K D cl tys s) (hP : va_P D cl ws H) (q0 t0 : Nat) {cA : ClassId} {t : FieldType} {n : Nat} {f : Nat → Option Nat} (ha : ws[q0]? = some (a, .inl (cA, n, .inr (.inr (.inr (.inr f)))))) (ht : tys[t0]? = some (cA, .array t)) {i : Int32} (hin : vp_in i n) (hdg : decode cc pc = .ok (.aaload, 1))
    (kk : W p l e R s m args below meth c H locs cells slots Q (F0 m (pc + 1) ls (va_rf (f i.toNatClampNeg) :: rest))) : W p l e R s m args below meth c H locs cells slots Q (F0 m pc ls (.int i :: .ref a :: rest)) := by
  have hlt : i.toNatClampNeg < n := Nat.not_le.mp fun q => hin (Or.inr q)
  exact W.aald (v := va_rf (f i.toNatClampNeg)) (ty := .array t) hexec hb (hP q0 _ ha) ((hK.2 t0 _ ht).1 n (fun j => va_rf (f j))) rfl (fun q => by cases q) (by show ¬ (i < 0 ∨ (arrV _ _ _).slots.size ≤ _); rw [arrV_size]; exact hin) (by show (arrV _ _ _).slots[_]? = _; rw [arrV_read _ _ hlt]) rfl rfl hdg kk
theorem g_aald {cx : Bool} {cap : Nat} {call : Cl} {Φ : Po} {own mn : String} {cc : ByteArray} {nL : Nat} {ret : Option FieldType} {J : Nat → Ct} (A : Act cx cap call Φ own mn cc nL ret J) {pc : Nat} {c : Ct} (hd : decode cc pc = .ok (.aaload, 1)) (h : LE c (J (pc + 1))) : LE (o_aald cx c) (J pc) := by
  obtain ⟨p, l, e, R, s, m, args, below, meth, cd, Q, n0, d, B0, adc, tA, D, sv, xs, L0, ⟨hx, hb, hml, hown, hts, hK, hE, hX, hXB, hB, hAO⟩, ⟨hnm, hRc, hRs, hcap, hRf, hRl, hsv, hcn⟩, hcall, hret, rfl⟩ := A
  intro ls st σ hc H locs lsM hw hS hl hn
  unfold o_aald at hc
  split at hc
  · rename_i j a r
    cases hO : Nat.beq a 94000 with
    | true =>
      rw [hO] at hc
      obtain ⟨hin, hc⟩ := hc
      have ha : a = 94000 := Nat.eq_of_beq_eq_true hO
      subst ha
      show W p l e R s m args below meth cd H locs (nxx cx σ - n0) (szs (nxx cx σ) - szs n0) Q (F0 m pc lsM (.int j :: va_rf (rr (adr B0 adc) 94000) :: r.map (vmp (adr B0 adc) sv)))
      rw [show rr (adr B0 adc) 94000 = some (adc 94000) from rr_con (by decide) (by decide)]
      obtain ⟨-, -, -, hT, -⟩ := hE
      rw [show adr B0 adc 94000 = adc 94000 from adr_con (by decide)] at hT
      have h9 := h _ _ _ hc H locs lsM hw hS hl hn
      have hj : ix j < 42 := by have := hin.1; have := hin.2; unfold ix; omega
      rw [List.map_cons, show vmp (adr B0 adc) sv (.ref (90000 + ix j)) = .ref (adr B0 adc (90000 + ix j)) by show va_rf (rr (adr B0 adc) (90000 + ix j)) = _; rw [rr_con (by omega) (by omega), adr_con (by omega)]; rfl] at h9
      exact vb_tq hx hb hT hS (in_vp hin) rfl hd h9
    | false =>
    rw [hO] at hc
    have hc : (match shp a with
      | (5, n) => cond (lvx cx σ a) (inb j n ∧ c ls (.ref (rfx cx σ a (ix j)) :: r) σ) False
      | (6, n) => cond (lvx cx σ a) (inb j n ∧ c ls (.ref (rfx cx σ a (ix j)) :: r) σ) False
      | (7, n) => cond (lvx cx σ a) (inb j n ∧ c ls (.ref (rfx cx σ a (ix j)) :: r) σ) False
      | _ => False) := hc
    show W p l e R s m args below meth cd H locs (nxx cx σ - n0) (szs (nxx cx σ) - szs n0) Q (F0 m pc lsM (.int j :: va_rf (rr (adr B0 adc) a) :: r.map (vmp (adr B0 adc) sv)))
    split at hc
    · rename_i n hs
      obtain ⟨hlv, hin, hc⟩ := cnd hc
      obtain ⟨hlt, hlt2⟩ := live hlv hs (by decide) (by decide)
      have he := wsO_at (ad := adr B0 adc) (tA := tA) hlt
      rw [ent_a5 hs] at he
      have hn137 := nob
      have e1 : rr (adr B0 adc) a = some (adr B0 adc a) := by rw [rr_lt (by omega), adr_lt (by omega)]
      rw [e1]
      exact va_aldq hx hb hK hw.2.1 a 3 he rfl (in_vp hin) hd (h _ _ _ hc H locs lsM hw hS hl hn)
    · rename_i n hs
      obtain ⟨hlv, hin, hc⟩ := cnd hc
      obtain ⟨hlt, hlt2⟩ := live hlv hs (by decide) (by decide)
      have he := wsO_at (ad := adr B0 adc) (tA := tA) hlt
      rw [ent_a6 hs] at he
      have hn137 := nob
      have e1 : rr (adr B0 adc) a = some (adr B0 adc a) := by rw [rr_lt (by omega), adr_lt (by omega)]
      rw [e1]
      exact va_aldq hx hb hK hw.2.1 a 4 he rfl (in_vp hin) hd (h _ _ _ hc H locs lsM hw hS hl hn)
    · rename_i n hs
      obtain ⟨hlv, hin, hc⟩ := cnd hc
      obtain ⟨hlt, hlt2⟩ := live hlv hs (by decide) (by decide)
      have he := wsO_at (ad := adr B0 adc) (tA := tA) hlt
      rw [ent_a7 hs] at he
      have hn137 := nob
      have e1 : rr (adr B0 adc) a = some (adr B0 adc a) := by rw [rr_lt (by omega), adr_lt (by omega)]
      rw [e1]
      exact va_aldA hx hb hK hw.2.1 a 5 he rfl (in_vp hin) hd (h _ _ _ hc H locs lsM hw hS hl hn)
    · exact hc.elim
  · exact hc.elim
