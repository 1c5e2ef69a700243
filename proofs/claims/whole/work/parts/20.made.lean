/-! what is made -/
theorem gI_sN (σ : Sg) (x y : Nat) : gI (sN σ) x y = if x = nx σ then 0 else gI σ x y := rfl
theorem gL_sN (σ : Sg) (x y : Nat) : gL (sN σ) x y = if x = nx σ then 0 else gL σ x y := rfl
theorem gR_sN (σ : Sg) (x y : Nat) : gR (sN σ) x y = if x = nx σ then NUL else gR σ x y := rfl
theorem wsO_new {ad : Nat → Nat} {tA : Nat → ClassId} {σ : Sg} : wsO ad tA false (sN σ) = wsO ad tA false σ ++ [(ad (nx σ), ent ad tA false (sN σ) (nx σ))] := by
  unfold wsO
  rw [show nxx false (sN σ) = nx σ + 1 from rfl, show nxx false σ = nx σ from rfl, List.range_succ, List.map_append]
  congr 1
  apply List.map_congr_left
  intro a ha
  have hlt := List.mem_range.mp ha
  have hne : a ≠ nx σ := by omega
  rw [ent_congr (σ' := sN σ) (σ := σ) (fun k => by rw [gI_sN, if_neg hne]) (fun k => by rw [gL_sN, if_neg hne]) (fun k => rfx_of (by rw [gR_sN, if_neg hne]))]
theorem wld_new {B0 : Nat} {adc : Nat → Nat} {tA : Nat → ClassId} {D : va_G} {xs : Nat → Int32} {L0 : Nat} {σ : Sg} {H H1 : Heap} (hw : Wld false B0 adc tA D xs L0 σ H) (hz : H1.size = H.size + 1) (ho : ∀ q, q < H.size → H1[q]? = H[q]?) (hb : nx σ + 1 ≤ NOB)
    (hat : va_at D cls (adr B0 adc (nx σ), ent (adr B0 adc) tA false (sN σ) (nx σ)) H1) : Wld false B0 adc tA D xs L0 (sN σ) H1 := by
  obtain ⟨hw1, hP, hw3, hw4⟩ := hw
  have hw1 := hw1 rfl
  have hn := nob
  have hS : SCR = 95000 := rfl
  refine ⟨fun _ => by rw [hz, hw1]; rfl, ?_, ⟨fun k => by rw [gI_sN, if_neg (by omega)]; exact hw3.1 k, hw3.2⟩, hb⟩
  rw [wsO_new]
  refine va_P.app (hP.kept (fun k x hx => ho x.1 ((hP k x hx).lt))) (fun k x hx => ?_)
  have hz2 : k < 1 := (List.getElem?_eq_some_iff.mp hx).1
  rw [show k = 0 by omega] at hx
  cases hx
  exact hat
theorem va_S.new {A : Nat → Prop} {H0 H H1 : Heap} {locs : List Loc} (h : va_S A H0 H locs) (z : H.size ≤ H1.size) (o : ∀ q, q < H.size → H1[q]? = H[q]?) : va_S A H0 H1 locs :=
  ⟨Nat.le_trans h.1 z, fun q h1 h2 => (o q (Nat.lt_of_lt_of_le h1 h.1)).trans (h.2.1 q h1 h2), h.2.2⟩
theorem blt_lt {a b : Nat} (h : Nat.blt a b = true) : a < b := by
  have h : Nat.ble (a + 1) b = true := h
  have := Nat.le_of_ble_eq_true h
  omega
theorem entF_new {ad : Nat → Nat} {σ : Sg} {k kd : Nat} {ty : FieldType} (h : kdOf ty = kd) (hk : kd ≠ 9) : entF ad false (sN σ) (nx σ) k kd = defaultValue ty := by
  have e1 : gI (sN σ) (nx σ) k = 0 := by rw [gI_sN, if_pos rfl]
  have e2 : gL (sN σ) (nx σ) k = 0 := by rw [gL_sN, if_pos rfl]
  have e3 : rfx false (sN σ) (nx σ) k = NUL := by show gR (sN σ) (nx σ) k = _; rw [gR_sN, if_pos rfl]
  subst h
  unfold entF
  cases ty <;> first
    | (exact absurd rfl hk)
    | (show Value.int (gI (sN σ) (nx σ) k) = _; rw [e1]; rfl)
    | (show Value.long (gL (sN σ) (nx σ) k) = _; rw [e2]; rfl)
    | (show va_rf (rr ad (rfx false (sN σ) (nx σ) k)) = _; rw [e3]; unfold rr; rw [if_pos rfl]; rfl)
/-- a class that is made -/
def NL (own : String) (ix ci : Nat) : Prop := ∃ C T N, cls[ci]? = some (C, T, N) ∧ ci ≠ 8 ∧ Cond.classLink own ix C ∈ gtb
theorem szs_s (n : Nat) : szs (n + 1) = szs n + sz n := rfl
theorem flk9 {ci : Nat} (h : 9 ∈ flk ci) : False := by
  unfold flk at h
  by_cases hl : ci < flkL.length
  · rw [List.getD_eq_getElem?_getD, List.getElem?_eq_getElem hl] at h
    have h3 : flkL.all (fun q => q.all (fun x => !(x == 9))) = true := by decide +kernel
    have h4 := List.all_eq_true.mp h3 _ (List.getElem_mem hl)
    have h5 := List.all_eq_true.mp h4 _ h
    exact absurd h5 (by decide)
  · rw [List.getD_eq_getElem?_getD, List.getElem?_eq_none (by omega)] at h
    cases h
theorem g_new {cx : Bool} {cap : Nat} {call : Cl} {Φ : Po} {own mn : String} {cc : ByteArray} {nL : Nat} {ret : Option FieldType} {J : Nat → Ct} (A : Act cx cap call Φ own mn cc nL ret J) {pc : Nat} {ix ci : Nat} {c : Ct} (hd : decode cc pc = .ok (.new ix, 3)) (hf : NL own ix ci) (h : LE c (J (pc + 3))) : LE (o_new cx cap ci c) (J pc) := by
  obtain ⟨p, l, e, R, s, m, args, below, meth, cd, Q, n0, d, B0, adc, tA, D, sv, xs, L0, ⟨hx, hb, hml, hown, hts, hK, hE, hX, hXB, hB, hAO⟩, ⟨hnm, hRc, hRs, hcap, hRf, hRl, hsv, hcn⟩, hcall, hret, rfl⟩ := A
  intro ls st σ hc H locs lsM hw hS hl hn
  unfold o_new at hc
  cases cx with
  | true => exact hc.elim
  | false =>
  have hc : cond (isO ci (nx σ) && Nat.blt (nx σ) cap) (c ls (.ref (nx σ) :: st) (sN σ)) False := hc
  obtain ⟨hg, hc⟩ := cnd hc
  obtain ⟨hO, hlt⟩ := and2 hg
  have hlt := blt_lt hlt
  have hs := isO_eq hO
  have hn2 : n0 ≤ nx σ := hn
  obtain ⟨C, T, N, hcl, h8, hlk⟩ := hf
  obtain ⟨ty0, hty, hnm2, hin, hlen, hkds, hself, hins, hini⟩ := clsF hcl h8
  have hKn := hK.1 ci _ hcl
  have hsz : sz (nx σ) = N := by unfold sz; rw [hs]; exact hlen
  have hm := szs_le (show n0 ≤ nx σ from hn2)
  have hm2 : szs (nx σ + 1) ≤ szs cap := szs_le hlt
  have hss := szs_s (nx σ)
  have hw1 := hw.1 rfl
  show W p l e R s m args below meth cd H locs (nx σ - n0) (szs (nx σ) - szs n0) Q (F0 m pc lsM (st.map (vmp (adr B0 adc) sv)))
  refine W.newcK hx hb hown (hts _ hlk) (hts _ hins) (hts _ hini) rfl hd (by omega) (by omega) hKn.2.1 rfl fun H1 kC hkC e1 z1 o1 => ?_
  have hlt3 : nx σ < NOB := by omega
  have hn137 := nob
  have ea : adr B0 adc (nx σ) = H.size := by rw [adr_lt (by omega), hw1]
  have hw2 : Wld false B0 adc tA D xs L0 (sN σ) H1 := wld_new hw z1 o1 hlt3 (by
    rw [ent_obj hs, ea]
    refine ⟨_, hcl, (u_born ty0 hts hin hKn hkC e1 hty).to (fun k hk => ?_)⟩
    have hk2 : (flk ci)[k]? = some (kdOf (ty0 k)) := by
      rw [← hkds k hk, List.getD_eq_getElem?_getD, List.getElem?_eq_getElem (by rw [hlen]; exact hk)]
      rfl
    have h9 : kdOf (ty0 k) ≠ 9 := by
      intro q
      rw [q] at hk2
      exact flk9 (List.mem_of_getElem? hk2)
    unfold vp_V
    rw [List.getD_eq_getElem?_getD, entL_get _ _ _ _ _ _ _ _ hk2, Nat.zero_add]
    exact (entF_new rfl h9).symm)
  have h9 := h _ _ _ hc H1 locs lsM hw2 (hS.new (by omega) o1) hl (by show n0 ≤ nx σ + 1; omega)
  have e2 : nxx false (sN σ) - n0 = nx σ - n0 + 1 := by show nx σ + 1 - n0 = _; omega
  have e3 : szs (nxx false (sN σ)) - szs n0 = szs (nx σ) - szs n0 + N := by show szs (nx σ + 1) - _ = _; omega
  rw [e2, e3, List.map_cons, show vmp (adr B0 adc) sv (.ref (nx σ)) = .ref H.size by show va_rf (rr (adr B0 adc) (nx σ)) = _; rw [rr_lt (by omega), hw1]; rfl] at h9
  exact h9
theorem shp_sm {a k n : Nat} (hs : shp a = (k, n)) (hk : k ≠ 0) : n < 2 ^ 14 := by
  unfold shp at hs
  cases hb : Nat.beq a SCR with
  | true => rw [hb] at hs; have : (0 : Nat) = n := congrArg Prod.snd hs; omega
  | false =>
    rw [hb] at hs
    have hs : shpL.getD a (0, 0) = (k, n) := hs
    by_cases hl : a < shpL.length
    · have h2 : (shpL.getD a (0, 0)) ∈ shpL := by
        rw [List.getD_eq_getElem?_getD, List.getElem?_eq_getElem hl]
        exact List.getElem_mem hl
      rw [hs] at h2
      have h3 : shpL.all (fun q => Nat.ble (q.2 + 1) 16384) = true := by decide +kernel
      exact Nat.le_of_ble_eq_true (List.all_eq_true.mp h3 _ h2)
    · rw [List.getD_eq_getElem?_getD, List.getElem?_eq_none (by omega)] at hs
      exact absurd (congrArg Prod.fst hs).symm hk
theorem g_newi {cx : Bool} {cap : Nat} {call : Cl} {Φ : Po} {own mn : String} {cc : ByteArray} {nL : Nat} {ret : Option FieldType} {J : Nat → Ct} (A : Act cx cap call Φ own mn cc nL ret J) {pc : Nat} {c : Ct} (hd : decode cc pc = .ok (.newarray .int, 2)) (h : LE c (J (pc + 2))) : LE (o_newa cx cap 2 c) (J pc) := by
  obtain ⟨p, l, e, R, s, m, args, below, meth, cd, Q, n0, d, B0, adc, tA, D, sv, xs, L0, ⟨hx, hb, hml, hown, hts, hK, hE, hX, hXB, hB, hAO⟩, ⟨hnm, hRc, hRs, hcap, hRf, hRl, hsv, hcn⟩, hcall, hret, rfl⟩ := A
  intro ls st σ hc H locs lsM hw hS hl hn
  unfold o_newa at hc
  split at hc
  · rename_i n r
    obtain ⟨hg, hc⟩ := cnd hc
    obtain ⟨hk, hg⟩ := and2 hg
    obtain ⟨hlt, hnn⟩ := and2 hg
    have hlt := blt_lt hlt
    have hk : (shp (nx σ)).1 = 2 := Nat.eq_of_beq_eq_true hk
    have hnn : n.toInt = ((shp (nx σ)).2 : Nat) := of_decide_eq_true hnn
    obtain ⟨N, hs⟩ : ∃ N, shp (nx σ) = (2, N) := ⟨(shp (nx σ)).2, by rw [← hk]⟩
    rw [hs] at hnn
    have hnn : n.toInt = (N : Int) := hnn
    have hn2 : n0 ≤ nx σ := hn
    have hsz : sz (nx σ) = N := by unfold sz; rw [hs]; rfl
    have hm := szs_le (show n0 ≤ nx σ from hn2)
    have hm2 : szs (nx σ + 1) ≤ szs cap := szs_le hlt
    have hss := szs_s (nx σ)
    have hw1 := hw.1 rfl
    have hN1 : n.toNatClampNeg = N := by show n.toInt.toNat = N; omega
    have hN2 : ¬ n < 0 := by rw [Int32.lt_iff_toInt_lt, Int32.toInt_zero]; omega
    have hNb : N < 2 ^ 14 := shp_sm hs (by decide)
    have hlt3 : nx σ < NOB := by omega
    have hn137 := nob
    have ea : adr B0 adc (nx σ) = H.size := by rw [adr_lt (by omega), hw1]
    show W p l e R s m args below meth cd H locs (nx σ - n0) (szs (nx σ) - szs n0) Q (F0 m pc lsM (.int n :: r.map (vmp (adr B0 adc) sv)))
    refine va_newaK hx hb (atype := .int) (hts _ (tb0 128 (by decide +kernel))) rfl hd rfl hN2 hN1 (Nat.le_trans (Nat.mul_le_mul (Nat.le_of_lt hNb) (show componentBytes _ ≤ 8 by decide)) (by decide)) (by omega) (by omega) rfl fun H1 cA e1 z1 o1 hAr hNm => ?_
    · have hA : cA = tA 0 := Option.some.inj (hNm.symm.trans (hK.2 0 _ rfl).2)
      subst hA
      have hw2 : Wld false B0 adc tA D xs L0 (sN σ) H1 := wld_new hw z1 o1 hlt3 (by
        rw [ent_a2 hs, ea]
        show H1[H.size]? = some (vp_cell _ _)
        rw [e1]
        refine congrArg some ?_
        rw [vp_cell_i]; exact congrArg (arrV (tA 0) N) (funext fun j => by rw [gI_sN, if_pos rfl]; rfl))
      have h9 := h _ _ _ hc H1 locs lsM hw2 (hS.new (by omega) o1) hl (by show n0 ≤ nx σ + 1; omega)
      have e2 : nxx false (sN σ) - n0 = nx σ - n0 + 1 := by show nx σ + 1 - n0 = _; omega
      have e3 : szs (nxx false (sN σ)) - szs n0 = szs (nx σ) - szs n0 + N := by show szs (nx σ + 1) - _ = _; omega
      rw [e2, e3, List.map_cons, show vmp (adr B0 adc) sv (.ref (nx σ)) = .ref H.size by show va_rf (rr (adr B0 adc) (nx σ)) = _; rw [rr_lt (by omega), hw1]; rfl] at h9
      exact h9
  · exact hc.elim
theorem g_newz {cx : Bool} {cap : Nat} {call : Cl} {Φ : Po} {own mn : String} {cc : ByteArray} {nL : Nat} {ret : Option FieldType} {J : Nat → Ct} (A : Act cx cap call Φ own mn cc nL ret J) {pc : Nat} {c : Ct} (hd : decode cc pc = .ok (.newarray .boolean, 2)) (h : LE c (J (pc + 2))) : LE (o_newa cx cap 3 c) (J pc) := by
  obtain ⟨p, l, e, R, s, m, args, below, meth, cd, Q, n0, d, B0, adc, tA, D, sv, xs, L0, ⟨hx, hb, hml, hown, hts, hK, hE, hX, hXB, hB, hAO⟩, ⟨hnm, hRc, hRs, hcap, hRf, hRl, hsv, hcn⟩, hcall, hret, rfl⟩ := A
  intro ls st σ hc H locs lsM hw hS hl hn
  unfold o_newa at hc
  split at hc
  · rename_i n r
    obtain ⟨hg, hc⟩ := cnd hc
    obtain ⟨hk, hg⟩ := and2 hg
    obtain ⟨hlt, hnn⟩ := and2 hg
    have hlt := blt_lt hlt
    have hk : (shp (nx σ)).1 = 3 := Nat.eq_of_beq_eq_true hk
    have hnn : n.toInt = ((shp (nx σ)).2 : Nat) := of_decide_eq_true hnn
    obtain ⟨N, hs⟩ : ∃ N, shp (nx σ) = (3, N) := ⟨(shp (nx σ)).2, by rw [← hk]⟩
    rw [hs] at hnn
    have hnn : n.toInt = (N : Int) := hnn
    have hn2 : n0 ≤ nx σ := hn
    have hsz : sz (nx σ) = N := by unfold sz; rw [hs]; rfl
    have hm := szs_le (show n0 ≤ nx σ from hn2)
    have hm2 : szs (nx σ + 1) ≤ szs cap := szs_le hlt
    have hss := szs_s (nx σ)
    have hw1 := hw.1 rfl
    have hN1 : n.toNatClampNeg = N := by show n.toInt.toNat = N; omega
    have hN2 : ¬ n < 0 := by rw [Int32.lt_iff_toInt_lt, Int32.toInt_zero]; omega
    have hNb : N < 2 ^ 14 := shp_sm hs (by decide)
    have hlt3 : nx σ < NOB := by omega
    have hn137 := nob
    have ea : adr B0 adc (nx σ) = H.size := by rw [adr_lt (by omega), hw1]
    show W p l e R s m args below meth cd H locs (nx σ - n0) (szs (nx σ) - szs n0) Q (F0 m pc lsM (.int n :: r.map (vmp (adr B0 adc) sv)))
    refine va_newaK hx hb (atype := .boolean) (hts _ (tb1 113 (by decide +kernel))) rfl hd rfl hN2 hN1 (Nat.le_trans (Nat.mul_le_mul (Nat.le_of_lt hNb) (show componentBytes _ ≤ 8 by decide)) (by decide)) (by omega) (by omega) rfl fun H1 cA e1 z1 o1 hAr hNm => ?_
    · have hA : cA = tA 1 := Option.some.inj (hNm.symm.trans (hK.2 1 _ rfl).2)
      subst hA
      have hw2 : Wld false B0 adc tA D xs L0 (sN σ) H1 := wld_new hw z1 o1 hlt3 (by
        rw [ent_a3 hs, ea]
        show H1[H.size]? = some (vp_cell _ _)
        rw [e1]
        refine congrArg some ?_
        rw [vp_cell_i]; exact congrArg (arrV (tA 1) N) (funext fun j => by rw [gI_sN, if_pos rfl]; rfl))
      have h9 := h _ _ _ hc H1 locs lsM hw2 (hS.new (by omega) o1) hl (by show n0 ≤ nx σ + 1; omega)
      have e2 : nxx false (sN σ) - n0 = nx σ - n0 + 1 := by show nx σ + 1 - n0 = _; omega
      have e3 : szs (nxx false (sN σ)) - szs n0 = szs (nx σ) - szs n0 + N := by show szs (nx σ + 1) - _ = _; omega
      rw [e2, e3, List.map_cons, show vmp (adr B0 adc) sv (.ref (nx σ)) = .ref H.size by show va_rf (rr (adr B0 adc) (nx σ)) = _; rw [rr_lt (by omega), hw1]; rfl] at h9
      exact h9
  · exact hc.elim
theorem g_newl {cx : Bool} {cap : Nat} {call : Cl} {Φ : Po} {own mn : String} {cc : ByteArray} {nL : Nat} {ret : Option FieldType} {J : Nat → Ct} (A : Act cx cap call Φ own mn cc nL ret J) {pc : Nat} {c : Ct} (hd : decode cc pc = .ok (.newarray .long, 2)) (h : LE c (J (pc + 2))) : LE (o_newa cx cap 4 c) (J pc) := by
  obtain ⟨p, l, e, R, s, m, args, below, meth, cd, Q, n0, d, B0, adc, tA, D, sv, xs, L0, ⟨hx, hb, hml, hown, hts, hK, hE, hX, hXB, hB, hAO⟩, ⟨hnm, hRc, hRs, hcap, hRf, hRl, hsv, hcn⟩, hcall, hret, rfl⟩ := A
  intro ls st σ hc H locs lsM hw hS hl hn
  unfold o_newa at hc
  split at hc
  · rename_i n r
    obtain ⟨hg, hc⟩ := cnd hc
    obtain ⟨hk, hg⟩ := and2 hg
    obtain ⟨hlt, hnn⟩ := and2 hg
    have hlt := blt_lt hlt
    have hk : (shp (nx σ)).1 = 4 := Nat.eq_of_beq_eq_true hk
    have hnn : n.toInt = ((shp (nx σ)).2 : Nat) := of_decide_eq_true hnn
    obtain ⟨N, hs⟩ : ∃ N, shp (nx σ) = (4, N) := ⟨(shp (nx σ)).2, by rw [← hk]⟩
    rw [hs] at hnn
    have hnn : n.toInt = (N : Int) := hnn
    have hn2 : n0 ≤ nx σ := hn
    have hsz : sz (nx σ) = N := by unfold sz; rw [hs]; rfl
    have hm := szs_le (show n0 ≤ nx σ from hn2)
    have hm2 : szs (nx σ + 1) ≤ szs cap := szs_le hlt
    have hss := szs_s (nx σ)
    have hw1 := hw.1 rfl
    have hN1 : n.toNatClampNeg = N := by show n.toInt.toNat = N; omega
    have hN2 : ¬ n < 0 := by rw [Int32.lt_iff_toInt_lt, Int32.toInt_zero]; omega
    have hNb : N < 2 ^ 14 := shp_sm hs (by decide)
    have hlt3 : nx σ < NOB := by omega
    have hn137 := nob
    have ea : adr B0 adc (nx σ) = H.size := by rw [adr_lt (by omega), hw1]
    show W p l e R s m args below meth cd H locs (nx σ - n0) (szs (nx σ) - szs n0) Q (F0 m pc lsM (.int n :: r.map (vmp (adr B0 adc) sv)))
    refine va_newaK hx hb (atype := .long) (hts _ (tb5 138 (by decide +kernel))) rfl hd rfl hN2 hN1 (Nat.le_trans (Nat.mul_le_mul (Nat.le_of_lt hNb) (show componentBytes _ ≤ 8 by decide)) (by decide)) (by omega) (by omega) rfl fun H1 cA e1 z1 o1 hAr hNm => ?_
    · have hA : cA = tA 2 := Option.some.inj (hNm.symm.trans (hK.2 2 _ rfl).2)
      subst hA
      have hw2 : Wld false B0 adc tA D xs L0 (sN σ) H1 := wld_new hw z1 o1 hlt3 (by
        rw [ent_a4 hs, ea]
        show H1[H.size]? = some (vp_cell _ _)
        rw [e1]
        refine congrArg some ?_
        rw [vp_cell_l]; exact congrArg (arrV (tA 2) N) (funext fun j => by rw [gL_sN, if_pos rfl]; rfl))
      have h9 := h _ _ _ hc H1 locs lsM hw2 (hS.new (by omega) o1) hl (by show n0 ≤ nx σ + 1; omega)
      have e2 : nxx false (sN σ) - n0 = nx σ - n0 + 1 := by show nx σ + 1 - n0 = _; omega
      have e3 : szs (nxx false (sN σ)) - szs n0 = szs (nx σ) - szs n0 + N := by show szs (nx σ + 1) - _ = _; omega
      rw [e2, e3, List.map_cons, show vmp (adr B0 adc) sv (.ref (nx σ)) = .ref H.size by show va_rf (rr (adr B0 adc) (nx σ)) = _; rw [rr_lt (by omega), hw1]; rfl] at h9
      exact h9
  · exact hc.elim
theorem g_newT {cx : Bool} {cap : Nat} {call : Cl} {Φ : Po} {own mn : String} {cc : ByteArray} {nL : Nat} {ret : Option FieldType} {J : Nat → Ct} (A : Act cx cap call Φ own mn cc nL ret J) {pc : Nat} {ix : Nat} {c : Ct} (hd : decode cc pc = .ok (.anewarray ix, 3)) (hlk : Cond.classLink own ix "OwedToWinds$Text" ∈ gtb) (h : LE c (J (pc + 3))) : LE (o_newa cx cap 5 c) (J pc) := by
  obtain ⟨p, l, e, R, s, m, args, below, meth, cd, Q, n0, d, B0, adc, tA, D, sv, xs, L0, ⟨hx, hb, hml, hown, hts, hK, hE, hX, hXB, hB, hAO⟩, ⟨hnm, hRc, hRs, hcap, hRf, hRl, hsv, hcn⟩, hcall, hret, rfl⟩ := A
  intro ls st σ hc H locs lsM hw hS hl hn
  unfold o_newa at hc
  split at hc
  · rename_i n r
    obtain ⟨hg, hc⟩ := cnd hc
    obtain ⟨hk, hg⟩ := and2 hg
    obtain ⟨hlt, hnn⟩ := and2 hg
    have hlt := blt_lt hlt
    have hk : (shp (nx σ)).1 = 5 := Nat.eq_of_beq_eq_true hk
    have hnn : n.toInt = ((shp (nx σ)).2 : Nat) := of_decide_eq_true hnn
    obtain ⟨N, hs⟩ : ∃ N, shp (nx σ) = (5, N) := ⟨(shp (nx σ)).2, by rw [← hk]⟩
    rw [hs] at hnn
    have hnn : n.toInt = (N : Int) := hnn
    have hn2 : n0 ≤ nx σ := hn
    have hsz : sz (nx σ) = N := by unfold sz; rw [hs]; rfl
    have hm := szs_le (show n0 ≤ nx σ from hn2)
    have hm2 : szs (nx σ + 1) ≤ szs cap := szs_le hlt
    have hss := szs_s (nx σ)
    have hw1 := hw.1 rfl
    have hN1 : n.toNatClampNeg = N := by show n.toInt.toNat = N; omega
    have hN2 : ¬ n < 0 := by rw [Int32.lt_iff_toInt_lt, Int32.toInt_zero]; omega
    have hNb : N < 2 ^ 14 := shp_sm hs (by decide)
    have hlt3 : nx σ < NOB := by omega
    have hn137 := nob
    have ea : adr B0 adc (nx σ) = H.size := by rw [adr_lt (by omega), hw1]
    show W p l e R s m args below meth cd H locs (nx σ - n0) (szs (nx σ) - szs n0) Q (F0 m pc lsM (.int n :: r.map (vmp (adr B0 adc) sv)))
    refine W.anew hx hb hown (hts _ hlk) (va_AO.use hAO.1) rfl hd rfl hN2 (by rw [hN1]; exact Nat.le_trans (Nat.mul_le_mul (Nat.le_of_lt hNb) (Nat.le_refl 4)) (by decide)) (by omega) (by rw [hN1]; omega) fun cA kA comp f1 f2 f3 f4 => ?_
    · obtain ⟨kA9, comp9, -, -, -, hfA⟩ := (hK.2 3 _ rfl).2
      have hA : cA = tA 3 := Option.some.inj (f1.symm.trans hfA)
      subst hA
      rw [hN1]
      generalize hH1 : H.push ({ cls := tA 3, slots := Array.replicate N .null, vm := .none } : Cell) = H1
      have z1 : H1.size = H.size + 1 := by rw [← hH1, Array.size_push]
      have e1 : H1[H.size]? = some (arrV (tA 3) N (fun _ => .null)) := by rw [← hH1, Array.getElem?_push_size, ← arrV_new]
      have o1 : ∀ q : Nat, q < H.size → H1[q]? = H[q]? := fun q hq => by rw [← hH1, Array.getElem?_push, if_neg (Nat.ne_of_lt hq)]
      have hw2 : Wld false B0 adc tA D xs L0 (sN σ) H1 := wld_new hw z1 o1 hlt3 (by
        rw [ent_a5 hs, ea]
        show H1[H.size]? = some (vp_cell _ _)
        rw [e1]
        refine congrArg some ?_
        rw [vp_cell_q]; exact congrArg (arrV (tA 3) N) (funext fun j => by show _ = va_rf (rr (adr B0 adc) (gR (sN σ) (nx σ) j)); rw [gR_sN, if_pos rfl]; unfold rr; rw [if_pos rfl]; rfl))
      have h9 := h _ _ _ hc H1 locs lsM hw2 (hS.new (by omega) o1) hl (by show n0 ≤ nx σ + 1; omega)
      have e2 : nxx false (sN σ) - n0 = nx σ - n0 + 1 := by show nx σ + 1 - n0 = _; omega
      have e3 : szs (nxx false (sN σ)) - szs n0 = szs (nx σ) - szs n0 + N := by show szs (nx σ + 1) - _ = _; omega
      rw [e2, e3, List.map_cons, show vmp (adr B0 adc) sv (.ref (nx σ)) = .ref H.size by show va_rf (rr (adr B0 adc) (nx σ)) = _; rw [rr_lt (by omega), hw1]; rfl] at h9
      exact h9
  · exact hc.elim
theorem g_newW {cx : Bool} {cap : Nat} {call : Cl} {Φ : Po} {own mn : String} {cc : ByteArray} {nL : Nat} {ret : Option FieldType} {J : Nat → Ct} (A : Act cx cap call Φ own mn cc nL ret J) {pc : Nat} {ix : Nat} {c : Ct} (hd : decode cc pc = .ok (.anewarray ix, 3)) (hlk : Cond.classLink own ix "OwedToWinds$Word" ∈ gtb) (h : LE c (J (pc + 3))) : LE (o_newa cx cap 6 c) (J pc) := by
  obtain ⟨p, l, e, R, s, m, args, below, meth, cd, Q, n0, d, B0, adc, tA, D, sv, xs, L0, ⟨hx, hb, hml, hown, hts, hK, hE, hX, hXB, hB, hAO⟩, ⟨hnm, hRc, hRs, hcap, hRf, hRl, hsv, hcn⟩, hcall, hret, rfl⟩ := A
  intro ls st σ hc H locs lsM hw hS hl hn
  unfold o_newa at hc
  split at hc
  · rename_i n r
    obtain ⟨hg, hc⟩ := cnd hc
    obtain ⟨hk, hg⟩ := and2 hg
    obtain ⟨hlt, hnn⟩ := and2 hg
    have hlt := blt_lt hlt
    have hk : (shp (nx σ)).1 = 6 := Nat.eq_of_beq_eq_true hk
    have hnn : n.toInt = ((shp (nx σ)).2 : Nat) := of_decide_eq_true hnn
    obtain ⟨N, hs⟩ : ∃ N, shp (nx σ) = (6, N) := ⟨(shp (nx σ)).2, by rw [← hk]⟩
    rw [hs] at hnn
    have hnn : n.toInt = (N : Int) := hnn
    have hn2 : n0 ≤ nx σ := hn
    have hsz : sz (nx σ) = N := by unfold sz; rw [hs]; rfl
    have hm := szs_le (show n0 ≤ nx σ from hn2)
    have hm2 : szs (nx σ + 1) ≤ szs cap := szs_le hlt
    have hss := szs_s (nx σ)
    have hw1 := hw.1 rfl
    have hN1 : n.toNatClampNeg = N := by show n.toInt.toNat = N; omega
    have hN2 : ¬ n < 0 := by rw [Int32.lt_iff_toInt_lt, Int32.toInt_zero]; omega
    have hNb : N < 2 ^ 14 := shp_sm hs (by decide)
    have hlt3 : nx σ < NOB := by omega
    have hn137 := nob
    have ea : adr B0 adc (nx σ) = H.size := by rw [adr_lt (by omega), hw1]
    show W p l e R s m args below meth cd H locs (nx σ - n0) (szs (nx σ) - szs n0) Q (F0 m pc lsM (.int n :: r.map (vmp (adr B0 adc) sv)))
    refine W.anew hx hb hown (hts _ hlk) (va_AO.use hAO.2.1) rfl hd rfl hN2 (by rw [hN1]; exact Nat.le_trans (Nat.mul_le_mul (Nat.le_of_lt hNb) (Nat.le_refl 4)) (by decide)) (by omega) (by rw [hN1]; omega) fun cA kA comp f1 f2 f3 f4 => ?_
    · obtain ⟨kA9, comp9, -, -, -, hfA⟩ := (hK.2 4 _ rfl).2
      have hA : cA = tA 4 := Option.some.inj (f1.symm.trans hfA)
      subst hA
      rw [hN1]
      generalize hH1 : H.push ({ cls := tA 4, slots := Array.replicate N .null, vm := .none } : Cell) = H1
      have z1 : H1.size = H.size + 1 := by rw [← hH1, Array.size_push]
      have e1 : H1[H.size]? = some (arrV (tA 4) N (fun _ => .null)) := by rw [← hH1, Array.getElem?_push_size, ← arrV_new]
      have o1 : ∀ q : Nat, q < H.size → H1[q]? = H[q]? := fun q hq => by rw [← hH1, Array.getElem?_push, if_neg (Nat.ne_of_lt hq)]
      have hw2 : Wld false B0 adc tA D xs L0 (sN σ) H1 := wld_new hw z1 o1 hlt3 (by
        rw [ent_a6 hs, ea]
        show H1[H.size]? = some (vp_cell _ _)
        rw [e1]
        refine congrArg some ?_
        rw [vp_cell_q]; exact congrArg (arrV (tA 4) N) (funext fun j => by show _ = va_rf (rr (adr B0 adc) (gR (sN σ) (nx σ) j)); rw [gR_sN, if_pos rfl]; unfold rr; rw [if_pos rfl]; rfl))
      have h9 := h _ _ _ hc H1 locs lsM hw2 (hS.new (by omega) o1) hl (by show n0 ≤ nx σ + 1; omega)
      have e2 : nxx false (sN σ) - n0 = nx σ - n0 + 1 := by show nx σ + 1 - n0 = _; omega
      have e3 : szs (nxx false (sN σ)) - szs n0 = szs (nx σ) - szs n0 + N := by show szs (nx σ + 1) - _ = _; omega
      rw [e2, e3, List.map_cons, show vmp (adr B0 adc) sv (.ref (nx σ)) = .ref H.size by show va_rf (rr (adr B0 adc) (nx σ)) = _; rw [rr_lt (by omega), hw1]; rfl] at h9
      exact h9
  · exact hc.elim
