/-! array stores, lengths, constants' fields, statics, answers -/
theorem wld_set {cx : Bool} {B0 : Nat} {adc : Nat → Nat} {tA : Nat → ClassId} {D : va_G} {xs : Nat → Int32} {L0 : Nat} {σ σ' : Sg} {H H1 : Heap} {a : Nat} {e : va_E} (hw : Wld cx B0 adc tA D xs L0 σ H) (hlt : a < nxx cx σ) (hat : va_at D cls (adr B0 adc a, e) H1) (hz : H1.size = H.size) (ho : ∀ q, q ≠ adr B0 adc a → H1[q]? = H[q]?)
    (hnx : nx σ' = nx σ) (hent : ent (adr B0 adc) tA cx σ' a = e) (hoe : ∀ b, b ≠ a → ent (adr B0 adc) tA cx σ' b = ent (adr B0 adc) tA cx σ b) (hscr : (∀ k, gI σ' SCR k = gI σ SCR k) ∧ ln σ' = ln σ) : Wld cx B0 adc tA D xs L0 σ' H1 := by
  obtain ⟨hw1, hP, hw3, hw4⟩ := hw
  have hD := wsO_D (B0 := B0) (adc := adc) (tA := tA) (cx := cx) (σ := σ) hw4
  have hP' := hP.set hD (wsO_at (ad := adr B0 adc) (tA := tA) hlt) hat ho
  rw [wsO_set (nxx_of hnx) hent hoe] at hP'
  exact ⟨fun z => by rw [hz, hw1 z, hnx], hP', ⟨fun k => by rw [hscr.1]; exact hw3.1 k, by rw [hscr.2]; exact hw3.2⟩, by rw [nxx_of hnx]; exact hw4⟩
theorem st_i (cA : ClassId) (n : Nat) (f g : Nat → Int32) (k : Nat) (x : Int32) (hg : ∀ j, g j = if j = k then x else f j) : (vp_cell cA (n, .inl f)).setSlot k (.int x) = vp_cell cA (n, .inl g) := by
  rw [vp_cell_i, vp_cell_i, arrV_store]
  congr 1
  funext q
  unfold updV
  rw [hg]
  by_cases hq : q = k
  · rw [if_pos hq, if_pos hq]
  · rw [if_neg hq, if_neg hq]
theorem st_l (cA : ClassId) (n : Nat) (f g : Nat → Int64) (k : Nat) (x : Int64) (hg : ∀ j, g j = if j = k then x else f j) : (vp_cell cA (n, .inr (.inl f))).setSlot k (.long x) = vp_cell cA (n, .inr (.inl g)) := by
  rw [vp_cell_l, vp_cell_l, arrV_store]
  congr 1
  funext q
  unfold updV
  rw [hg]
  by_cases hq : q = k
  · rw [if_pos hq, if_pos hq]
  · rw [if_neg hq, if_neg hq]
theorem in_sz {cA : ClassId} {x : vp_A} {j : Int32} (h : inb j x.1) : ¬ (j < 0 ∨ (vp_cell cA x).slots.size ≤ j.toNatClampNeg) := by
  have h2 := in_vp h
  obtain ⟨n, f | f | f | f | f⟩ := x
  · rw [vp_cell_i, arrV_size]; exact h2
  · rw [vp_cell_l, arrV_size]; exact h2
  · rw [vp_cell_f, arrV_size]; exact h2
  · rw [vp_cell_d, arrV_size]; exact h2
  · rw [vp_cell_q, arrV_size]; exact h2
theorem ix_cl (j : Int32) : j.toNatClampNeg = ix j := rfl
theorem g_iast {cx : Bool} {cap : Nat} {call : Cl} {Φ : Po} {own mn : String} {cc : ByteArray} {nL : Nat} {ret : Option FieldType} {J : Nat → Ct} (A : Act cx cap call Φ own mn cc nL ret J) {pc : Nat} {c : Ct} (hd : decode cc pc = .ok (.iastore, 1)) (h : LE c (J (pc + 1))) : LE (o_iast cx c) (J pc) := by
  obtain ⟨p, l, e, R, s, m, args, below, meth, cd, Q, n0, d, B0, adc, tA, D, sv, xs, L0, ⟨hx, hb, hml, hown, hts, hK, hE, hX, hXB, hB, hAO⟩, ⟨hnm, hRc, hRs, hcap, hRf, hRl, hsv, hcn⟩, hcall, hret, rfl⟩ := A
  intro ls st σ hc H locs lsM hw hS hl hn
  unfold o_iast at hc
  split at hc
  · rename_i x j a r
    split at hc
    · rename_i n hs
      obtain ⟨hlv, hc⟩ := cnd hc
      obtain ⟨hin, hc⟩ := hc
      obtain ⟨hlt, hlt2⟩ := live hlv hs (by decide) (by decide)
      have he := wsO_at (ad := adr B0 adc) (tA := tA) hlt
      rw [ent_a2 hs] at he
      have hn137 := nob
      have e1 : rr (adr B0 adc) a = some (adr B0 adc a) := by rw [rr_lt (by omega), adr_lt (by omega)]
      show W p l e R s m args below meth cd H locs (nxx cx σ - n0) (szs (nxx cx σ) - szs n0) Q (F0 m pc lsM (Value.int x :: .int j :: va_rf (rr (adr B0 adc) a) :: r.map (vmp (adr B0 adc) sv)))
      rw [e1]
      refine W.iast hx hb (hw.2.1 a _ he) ((hK.2 0 _ rfl).1 n (fun j => .int (gI σ a j))) (fun q => by cases q) (in_sz (x := (n, _)) hin) rfl rfl hd fun H1 f1 f2 f3 => ?_
      have hw1 : Wld cx B0 adc tA D xs L0 (sI σ a (ix j) x) H1 := wld_set hw hlt (by
          show H1[adr B0 adc a]? = some (vp_cell _ _)
          rw [f1, ix_cl]
          exact congrArg some (st_i _ n _ _ _ _ (fun q => by rw [gI_sI]; simp))) f2 f3 rfl (ent_a2 hs) (fun b hb => ent_congr (fun k => by rw [gI_sI, if_neg (fun q => hb q.1)]) (fun k => rfl) (fun k => rfx_of rfl)) ⟨fun k => by rw [gI_sI, if_neg (fun q => SCR_ne hlt2 q.1)], rfl⟩
      have hS1 := hS.put (k := j.toNatClampNeg) f2 f3 (show B0 ≤ adr B0 adc a by rw [adr_lt (by omega)]; omega)
      exact h _ _ _ hc H1 _ lsM hw1 hS1 hl hn
    · exact hc.elim
  · exact hc.elim
theorem g_zast {cx : Bool} {cap : Nat} {call : Cl} {Φ : Po} {own mn : String} {cc : ByteArray} {nL : Nat} {ret : Option FieldType} {J : Nat → Ct} (A : Act cx cap call Φ own mn cc nL ret J) {pc : Nat} {c : Ct} (hd : decode cc pc = .ok (.bastore, 1)) (h : LE c (J (pc + 1))) : LE (o_zast cx c) (J pc) := by
  obtain ⟨p, l, e, R, s, m, args, below, meth, cd, Q, n0, d, B0, adc, tA, D, sv, xs, L0, ⟨hx, hb, hml, hown, hts, hK, hE, hX, hXB, hB, hAO⟩, ⟨hnm, hRc, hRs, hcap, hRf, hRl, hsv, hcn⟩, hcall, hret, rfl⟩ := A
  intro ls st σ hc H locs lsM hw hS hl hn
  unfold o_zast at hc
  split at hc
  · rename_i x j a r
    split at hc
    · rename_i n hs
      obtain ⟨hlv, hc⟩ := cnd hc
      obtain ⟨hz, hc⟩ := cnd hc
      obtain ⟨hin, hc⟩ := hc
      obtain ⟨hlt, hlt2⟩ := live hlv hs (by decide) (by decide)
      have he := wsO_at (ad := adr B0 adc) (tA := tA) hlt
      rw [ent_a3 hs] at he
      have hn137 := nob
      have e1 : rr (adr B0 adc) a = some (adr B0 adc a) := by rw [rr_lt (by omega), adr_lt (by omega)]
      show W p l e R s m args below meth cd H locs (nxx cx σ - n0) (szs (nxx cx σ) - szs n0) Q (F0 m pc lsM (Value.int x :: .int j :: va_rf (rr (adr B0 adc) a) :: r.map (vmp (adr B0 adc) sv)))
      rw [e1]
      refine W.zast hx hb (hw.2.1 a _ he) ((hK.2 1 _ rfl).1 n (fun j => .int (gI σ a j))) (fun q => by cases q) (in_sz (x := (n, _)) hin) rfl rfl hd fun H1 f1 f2 f3 => ?_
      have hw1 : Wld cx B0 adc tA D xs L0 (sI σ a (ix j) x) H1 := wld_set hw hlt (by
          show H1[adr B0 adc a]? = some (vp_cell _ _)
          rw [f1, ix_cl]
          rw [(zB_ok hz).1]
          exact congrArg some (st_i _ n _ _ _ _ (fun q => by rw [gI_sI]; simp))) f2 f3 rfl (ent_a3 hs) (fun b hb => ent_congr (fun k => by rw [gI_sI, if_neg (fun q => hb q.1)]) (fun k => rfl) (fun k => rfx_of rfl)) ⟨fun k => by rw [gI_sI, if_neg (fun q => SCR_ne hlt2 q.1)], rfl⟩
      have hS1 := hS.put (k := j.toNatClampNeg) f2 f3 (show B0 ≤ adr B0 adc a by rw [adr_lt (by omega)]; omega)
      exact h _ _ _ hc H1 _ lsM hw1 hS1 hl hn
    · exact hc.elim
  · exact hc.elim
theorem g_last {cx : Bool} {cap : Nat} {call : Cl} {Φ : Po} {own mn : String} {cc : ByteArray} {nL : Nat} {ret : Option FieldType} {J : Nat → Ct} (A : Act cx cap call Φ own mn cc nL ret J) {pc : Nat} {c : Ct} (hd : decode cc pc = .ok (.lastore, 1)) (h : LE c (J (pc + 1))) : LE (o_last cx c) (J pc) := by
  obtain ⟨p, l, e, R, s, m, args, below, meth, cd, Q, n0, d, B0, adc, tA, D, sv, xs, L0, ⟨hx, hb, hml, hown, hts, hK, hE, hX, hXB, hB, hAO⟩, ⟨hnm, hRc, hRs, hcap, hRf, hRl, hsv, hcn⟩, hcall, hret, rfl⟩ := A
  intro ls st σ hc H locs lsM hw hS hl hn
  unfold o_last at hc
  split at hc
  · rename_i x j a r
    split at hc
    · rename_i n hs
      obtain ⟨hlv, hc⟩ := cnd hc
      obtain ⟨hin, hc⟩ := hc
      obtain ⟨hlt, hlt2⟩ := live hlv hs (by decide) (by decide)
      have he := wsO_at (ad := adr B0 adc) (tA := tA) hlt
      rw [ent_a4 hs] at he
      have hn137 := nob
      have e1 : rr (adr B0 adc) a = some (adr B0 adc a) := by rw [rr_lt (by omega), adr_lt (by omega)]
      show W p l e R s m args below meth cd H locs (nxx cx σ - n0) (szs (nxx cx σ) - szs n0) Q (F0 m pc lsM (Value.long x :: .int j :: va_rf (rr (adr B0 adc) a) :: r.map (vmp (adr B0 adc) sv)))
      rw [e1]
      refine W.last hx hb (hw.2.1 a _ he) ((hK.2 2 _ rfl).1 n (fun j => .long (gL σ a j))) (fun q => by cases q) (in_sz (x := (n, _)) hin) rfl rfl hd fun H1 f1 f2 f3 => ?_
      have hw1 : Wld cx B0 adc tA D xs L0 (sL σ a (ix j) x) H1 := wld_set hw hlt (by
          show H1[adr B0 adc a]? = some (vp_cell _ _)
          rw [f1, ix_cl]
          exact congrArg some (st_l _ n _ _ _ _ (fun q => by rw [gL_sL]; simp))) f2 f3 rfl (ent_a4 hs) (fun b hb => ent_congr (fun k => rfl) (fun k => by rw [gL_sL, if_neg (fun q => hb q.1)]) (fun k => rfx_of rfl)) ⟨fun k => rfl, rfl⟩
      have hS1 := hS.put (k := j.toNatClampNeg) f2 f3 (show B0 ≤ adr B0 adc a by rw [adr_lt (by omega)]; omega)
      exact h _ _ _ hc H1 _ lsM hw1 hS1 hl hn
    · exact hc.elim
  · exact hc.elim
theorem beq_ne {a b : Nat} (h : a ≠ b) : Nat.beq a b = false := by
  cases hb : Nat.beq a b with
  | false => rfl
  | true => exact absurd (Nat.eq_of_beq_eq_true hb) h
theorem wrW {cx : Bool} {a k n : Nat} (hs : shp a = (6, n)) (h : (fixL.getD a []).isEmpty = true) : wrR cx a k = true := by
  have h1 : a ≠ idKa := fun q => by subst q; rw [show shp idKa = (7, 30) by decide +kernel] at hs; cases hs
  have h2 : a ≠ idKb := fun q => by subst q; rw [show shp idKb = (7, 30) by decide +kernel] at hs; cases hs
  have h3 : a ≠ idTs := fun q => by subst q; rw [show shp idTs = (5, 4) by decide +kernel] at hs; cases hs
  have b1 : Nat.beq a idKa = false := beq_ne h1
  have b2 : Nat.beq a idKb = false := beq_ne h2
  have b3 : Nat.beq a idTs = false := beq_ne h3
  have h4 : fixL.getD a [] = [] := List.isEmpty_iff.mp h
  unfold wrR keptR fixR
  rw [b1, b2, b3, h4]
  simp
theorem g_aast {cx : Bool} {cap : Nat} {call : Cl} {Φ : Po} {own mn : String} {cc : ByteArray} {nL : Nat} {ret : Option FieldType} {J : Nat → Ct} (A : Act cx cap call Φ own mn cc nL ret J) {pc : Nat} {c : Ct} (hd : decode cc pc = .ok (.aastore, 1)) (h : LE c (J (pc + 1))) : LE (o_aast cx c) (J pc) := by
  obtain ⟨p, l, e, R, s, m, args, below, meth, cd, Q, n0, d, B0, adc, tA, D, sv, xs, L0, ⟨hx, hb, hml, hown, hts, hK, hE, hX, hXB, hB, hAO⟩, ⟨hnm, hRc, hRs, hcap, hRf, hRl, hsv, hcn⟩, hcall, hret, rfl⟩ := A
  intro ls st σ hc H locs lsM hw hS hl hn
  have hn137 := nob
  unfold o_aast at hc
  split at hc
  · rename_i x j a r
    split at hc
    · rename_i n hs
      obtain ⟨hg, hin, hc⟩ := cnd hc
      obtain ⟨hg, hncx⟩ := and2 hg
      obtain ⟨hg, hO⟩ := and2 hg
      obtain ⟨hlv, hlx⟩ := and2 hg
      obtain ⟨hlt, hlt2⟩ := live hlv hs (by decide) (by decide)
      have hsx := isO_eq hO
      obtain ⟨hltx, hltx2⟩ := live hlx hsx (by decide) (by decide)
      have ex : rr (adr B0 adc) x = some (adr B0 adc x) := by rw [rr_lt (by omega), adr_lt (by omega)]
      have hwr : wrR cx a (ix j) = true := by
        have : cx = false := by simpa using hncx
        rw [this]; rfl
      have he := wsO_at (ad := adr B0 adc) (tA := tA) hlt
      rw [ent_a5 hs] at he
      have e1 : rr (adr B0 adc) a = some (adr B0 adc a) := by rw [rr_lt (by omega), adr_lt (by omega)]
      show W p l e R s m args below meth cd H locs (nxx cx σ - n0) (szs (nxx cx σ) - szs n0) Q (F0 m pc lsM (va_rf (rr (adr B0 adc) x) :: .int j :: va_rf (rr (adr B0 adc) a) :: r.map (vmp (adr B0 adc) sv)))
      rw [e1, ex]
      have hvp := in_vp hin
      have hlt9 : j.toNatClampNeg < n := Nat.not_le.mp fun q => hvp (Or.inr q)
      have h09 : ¬ j < 0 := fun q => hvp (Or.inl q)
      have hex := wsO_at (ad := adr B0 adc) (tA := tA) hltx
      rw [ent_obj hsx] at hex
      obtain ⟨cellV, g1, g3, g2⟩ := va_recv (q := (RX7, TX7, 6)) hK hw.2.1 rfl hex
      obtain ⟨kA, comp, k1, k2, k3, -⟩ := (hK.2 3 _ rfl).2
      obtain ⟨kE, hkE, -⟩ := Vm.findClass_spec k3
      obtain ⟨kC, hkC, -⟩ := Vm.findClass_spec g2
      have hsame : comp = cellV.cls := Option.some.inj (k3.symm.trans g2)
      refine W.aast hx hb (hw.2.1 a _ he) (fun q h => by cases h) (fun h => by cases h) k1 k2 rfl hkE ⟨h09, by show _ < (arrV _ _ _).slots.size; rw [arrV_size]; exact hlt9⟩ g1 (fun q h => by rw [h] at g3; cases g3) hkC (by rw [hsame]; exact va_asg _ _) rfl rfl hd fun H1 f1 f2 f3 => ?_
      have hw1 : Wld cx B0 adc tA D xs L0 (sR σ a (ix j) x) H1 := wld_set hw hlt (by
          show H1[adr B0 adc a]? = some (vp_cell _ _)
          rw [f1, ix_cl]
          refine congrArg some ?_
          show (vp_cell _ _).setSlot _ _ = vp_cell (tA 3) (n, .inr (.inr (.inr (.inr (fun q => rr (adr B0 adc) (rfx cx (sR σ a (ix j) x) a q))))))
          rw [vp_cell_q, vp_cell_q, arrV_store]
          congr 1
          funext q
          unfold updV
          by_cases hq : q = ix j
          · subst hq
            rw [if_pos rfl, rfx_wr hwr, ex]
            rfl
          · rw [if_neg hq, rfx_of (σ := σ) (show gR (sR σ a (ix j) x) a q = gR σ a q by rw [gR_sR, if_neg (fun z => hq z.2)])]) f2 f3 rfl (ent_a5 hs) (fun b hb => ent_congr (fun k => rfl) (fun k => rfl) (fun k => rfx_of (by rw [gR_sR, if_neg (fun q => hb q.1)]))) ⟨fun k => rfl, rfl⟩
      have hS1 := hS.put (k := j.toNatClampNeg) f2 f3 (show B0 ≤ adr B0 adc a by rw [adr_lt (by omega)]; omega)
      exact h _ _ _ hc H1 _ lsM hw1 hS1 hl hn
    · rename_i n hs
      obtain ⟨hg, hin, hc⟩ := cnd hc
      obtain ⟨hg, hemp⟩ := and2 hg
      obtain ⟨hlv, hwx⟩ := and2 hg
      obtain ⟨hlt, hlt2⟩ := live hlv hs (by decide) (by decide)
      have hwl := wB_lt hwx
      have hwr : wrR cx a (ix j) = true := wrW hs hemp
      have ex : rr (adr B0 adc) x = some (adr B0 adc x) := by rw [rr_con (by omega) (by omega), adr_con (by omega)]
      have he := wsO_at (ad := adr B0 adc) (tA := tA) hlt
      rw [ent_a6 hs] at he
      have e1 : rr (adr B0 adc) a = some (adr B0 adc a) := by rw [rr_lt (by omega), adr_lt (by omega)]
      show W p l e R s m args below meth cd H locs (nxx cx σ - n0) (szs (nxx cx σ) - szs n0) Q (F0 m pc lsM (va_rf (rr (adr B0 adc) x) :: .int j :: va_rf (rr (adr B0 adc) a) :: r.map (vmp (adr B0 adc) sv)))
      rw [e1, ex]
      have hvp := in_vp hin
      have hlt9 : j.toNatClampNeg < n := Nat.not_le.mp fun q => hvp (Or.inr q)
      have h09 : ¬ j < 0 := fun q => hvp (Or.inl q)
      have hEn := hE.1.1 (x - 90000) (by rw [show wordNm.length = 42 by decide +kernel]; exact Nat.sub_lt_left_of_lt_add hwl.1 hwl.2)
      obtain ⟨-, ⟨cellV, g1, g3, g2, g4⟩, -⟩ := hEn
      dsimp only at g1 g4
      rw [Nat.add_sub_of_le hwl.1] at g1 g4
      have g1 : H[adr B0 adc x]? = some cellV := by rw [hS.2.1 _ (Array.getElem?_eq_some_iff.mp g1).1 g4]; exact g1
      obtain ⟨kA, comp, k1, k2, k3, -⟩ := (hK.2 4 _ rfl).2
      obtain ⟨kE, hkE, -⟩ := Vm.findClass_spec k3
      obtain ⟨kC, hkC, -⟩ := Vm.findClass_spec g2
      have hsame : comp = cellV.cls := Option.some.inj (k3.symm.trans g2)
      refine W.aast hx hb (hw.2.1 a _ he) (fun q h => by cases h) (fun h => by cases h) k1 k2 rfl hkE ⟨h09, by show _ < (arrV _ _ _).slots.size; rw [arrV_size]; exact hlt9⟩ g1 (fun q h => by rw [h] at g3; cases g3) hkC (by rw [hsame]; exact va_asg _ _) rfl rfl hd fun H1 f1 f2 f3 => ?_
      have hw1 : Wld cx B0 adc tA D xs L0 (sR σ a (ix j) x) H1 := wld_set hw hlt (by
          show H1[adr B0 adc a]? = some (vp_cell _ _)
          rw [f1, ix_cl]
          refine congrArg some ?_
          show (vp_cell _ _).setSlot _ _ = vp_cell (tA 4) (n, .inr (.inr (.inr (.inr (fun q => rr (adr B0 adc) (rfx cx (sR σ a (ix j) x) a q))))))
          rw [vp_cell_q, vp_cell_q, arrV_store]
          congr 1
          funext q
          unfold updV
          by_cases hq : q = ix j
          · subst hq
            rw [if_pos rfl, rfx_wr hwr, ex]
            rfl
          · rw [if_neg hq, rfx_of (σ := σ) (show gR (sR σ a (ix j) x) a q = gR σ a q by rw [gR_sR, if_neg (fun z => hq z.2)])]) f2 f3 rfl (ent_a6 hs) (fun b hb => ent_congr (fun k => rfl) (fun k => rfl) (fun k => rfx_of (by rw [gR_sR, if_neg (fun q => hb q.1)]))) ⟨fun k => rfl, rfl⟩
      have hS1 := hS.put (k := j.toNatClampNeg) f2 f3 (show B0 ≤ adr B0 adc a by rw [adr_lt (by omega)]; omega)
      exact h _ _ _ hc H1 _ lsM hw1 hS1 hl hn
    · exact hc.elim
  · exact hc.elim
