/-! each operation of the pure machine is the machine's -/
theorem g_ic {cx : Bool} {cap : Nat} {call : Cl} {Φ : Po} {own mn : String} {cc : ByteArray} {nL : Nat} {ret : Option FieldType} {J : Nat → Ct} (A : Act cx cap call Φ own mn cc nL ret J) {pc : Nat} {n : Int} {v : Int32} {c : Ct} (hd : decode cc pc = .ok (.iconst n, 1)) (hv : Int32.ofInt n = v) (h : LE c (J (pc + 1))) : LE (o_ic v c) (J pc) := by
  obtain ⟨p, l, e, R, s, m, args, below, meth, cd, Q, n0, d, B0, adc, tA, D, sv, xs, L0, ⟨hx, hb, hml, hown, hts, hK, hE, hX, hXB, hB, hAO⟩, ⟨hnm, hRc, hRs, hcap, hRf, hRl, hsv, hcn⟩, hcall, hret, rfl⟩ := A
  intro ls st σ hc H locs lsM hw hS hl hn
  exact lv_iconst hx hb hd hv (h _ _ _ hc H locs lsM hw hS hl hn)
theorem g_icb {cx : Bool} {cap : Nat} {call : Cl} {Φ : Po} {own mn : String} {cc : ByteArray} {nL : Nat} {ret : Option FieldType} {J : Nat → Ct} (A : Act cx cap call Φ own mn cc nL ret J) {pc : Nat} {n : Int} {v : Int32} {c : Ct} (hd : decode cc pc = .ok (.bipush n, 2)) (hv : (Int8.ofInt n).toInt32 = v) (h : LE c (J (pc + 2))) : LE (o_ic v c) (J pc) := by
  obtain ⟨p, l, e, R, s, m, args, below, meth, cd, Q, n0, d, B0, adc, tA, D, sv, xs, L0, ⟨hx, hb, hml, hown, hts, hK, hE, hX, hXB, hB, hAO⟩, ⟨hnm, hRc, hRs, hcap, hRf, hRl, hsv, hcn⟩, hcall, hret, rfl⟩ := A
  intro ls st σ hc H locs lsM hw hS hl hn
  exact lv_bipush hx hb hd hv (h _ _ _ hc H locs lsM hw hS hl hn)
theorem g_ics {cx : Bool} {cap : Nat} {call : Cl} {Φ : Po} {own mn : String} {cc : ByteArray} {nL : Nat} {ret : Option FieldType} {J : Nat → Ct} (A : Act cx cap call Φ own mn cc nL ret J) {pc : Nat} {n : Int} {v : Int32} {c : Ct} (hd : decode cc pc = .ok (.sipush n, 3)) (hv : (Int16.ofInt n).toInt32 = v) (h : LE c (J (pc + 3))) : LE (o_ic v c) (J pc) := by
  obtain ⟨p, l, e, R, s, m, args, below, meth, cd, Q, n0, d, B0, adc, tA, D, sv, xs, L0, ⟨hx, hb, hml, hown, hts, hK, hE, hX, hXB, hB, hAO⟩, ⟨hnm, hRc, hRs, hcap, hRf, hRl, hsv, hcn⟩, hcall, hret, rfl⟩ := A
  intro ls st σ hc H locs lsM hw hS hl hn
  exact lv_sipush hx hb hd hv (h _ _ _ hc H locs lsM hw hS hl hn)
theorem g_icl {cx : Bool} {cap : Nat} {call : Cl} {Φ : Po} {own mn : String} {cc : ByteArray} {nL : Nat} {ret : Option FieldType} {J : Nat → Ct} (A : Act cx cap call Φ own mn cc nL ret J) {pc : Nat} {ix : Nat} {v : Int32} {c : Ct} (hd : decode cc pc = .ok (.ldc ix, 2)) (hv : Cond.constant own ix v ∈ gtb) (h : LE c (J (pc + 2))) : LE (o_ic v c) (J pc) := by
  obtain ⟨p, l, e, R, s, m, args, below, meth, cd, Q, n0, d, B0, adc, tA, D, sv, xs, L0, ⟨hx, hb, hml, hown, hts, hK, hE, hX, hXB, hB, hAO⟩, ⟨hnm, hRc, hRs, hcap, hRf, hRl, hsv, hcn⟩, hcall, hret, rfl⟩ := A
  intro ls st σ hc H locs lsM hw hS hl hn
  exact lv_ldc hx hb hown (hts _ hv) hd (h _ _ _ hc H locs lsM hw hS hl hn)
theorem g_icw {cx : Bool} {cap : Nat} {call : Cl} {Φ : Po} {own mn : String} {cc : ByteArray} {nL : Nat} {ret : Option FieldType} {J : Nat → Ct} (A : Act cx cap call Φ own mn cc nL ret J) {pc : Nat} {ix : Nat} {v : Int32} {c : Ct} (hd : decode cc pc = .ok (.ldc_w ix, 3)) (hv : Cond.constant own ix v ∈ gtb) (h : LE c (J (pc + 3))) : LE (o_ic v c) (J pc) := by
  obtain ⟨p, l, e, R, s, m, args, below, meth, cd, Q, n0, d, B0, adc, tA, D, sv, xs, L0, ⟨hx, hb, hml, hown, hts, hK, hE, hX, hXB, hB, hAO⟩, ⟨hnm, hRc, hRs, hcap, hRf, hRl, hsv, hcn⟩, hcall, hret, rfl⟩ := A
  intro ls st σ hc H locs lsM hw hS hl hn
  exact lv_ldcw hx hb hown (hts _ hv) hd (h _ _ _ hc H locs lsM hw hS hl hn)
theorem g_lc {cx : Bool} {cap : Nat} {call : Cl} {Φ : Po} {own mn : String} {cc : ByteArray} {nL : Nat} {ret : Option FieldType} {J : Nat → Ct} (A : Act cx cap call Φ own mn cc nL ret J) {pc : Nat} {n : Fin 2} {v : Int64} {c : Ct} (hd : decode cc pc = .ok (.lconst n, 1)) (hv : Int64.ofNat (n : Nat) = v) (h : LE c (J (pc + 1))) : LE (o_lc v c) (J pc) := by
  obtain ⟨p, l, e, R, s, m, args, below, meth, cd, Q, n0, d, B0, adc, tA, D, sv, xs, L0, ⟨hx, hb, hml, hown, hts, hK, hE, hX, hXB, hB, hAO⟩, ⟨hnm, hRc, hRs, hcap, hRf, hRl, hsv, hcn⟩, hcall, hret, rfl⟩ := A
  intro ls st σ hc H locs lsM hw hS hl hn
  exact lv_lconst hx hb hd hv (h _ _ _ hc H locs lsM hw hS hl hn)
theorem g_lc2 {cx : Bool} {cap : Nat} {call : Cl} {Φ : Po} {own mn : String} {cc : ByteArray} {nL : Nat} {ret : Option FieldType} {J : Nat → Ct} (A : Act cx cap call Φ own mn cc nL ret J) {pc : Nat} {ix : Nat} {v : Int64} {c : Ct} (hd : decode cc pc = .ok (.ldc2_w ix, 3)) (hv : Cond.constantLong own ix v ∈ gtb) (h : LE c (J (pc + 3))) : LE (o_lc v c) (J pc) := by
  obtain ⟨p, l, e, R, s, m, args, below, meth, cd, Q, n0, d, B0, adc, tA, D, sv, xs, L0, ⟨hx, hb, hml, hown, hts, hK, hE, hX, hXB, hB, hAO⟩, ⟨hnm, hRc, hRs, hcap, hRf, hRl, hsv, hcn⟩, hcall, hret, rfl⟩ := A
  intro ls st σ hc H locs lsM hw hS hl hn
  exact lv_ldc2 hx hb hown (hts _ hv) hd (h _ _ _ hc H locs lsM hw hS hl hn)
theorem g_nul {cx : Bool} {cap : Nat} {call : Cl} {Φ : Po} {own mn : String} {cc : ByteArray} {nL : Nat} {ret : Option FieldType} {J : Nat → Ct} (A : Act cx cap call Φ own mn cc nL ret J) {pc : Nat}  {c : Ct} (hd : decode cc pc = .ok (.aconst_null, 1)) (h : LE c (J (pc + 1))) : LE (o_nul c) (J pc) := by
  obtain ⟨p, l, e, R, s, m, args, below, meth, cd, Q, n0, d, B0, adc, tA, D, sv, xs, L0, ⟨hx, hb, hml, hown, hts, hK, hE, hX, hXB, hB, hAO⟩, ⟨hnm, hRc, hRs, hcap, hRf, hRl, hsv, hcn⟩, hcall, hret, rfl⟩ := A
  intro ls st σ hc H locs lsM hw hS hl hn
  exact lv_null hx hb hd (h _ _ _ hc H locs lsM hw hS hl hn)
theorem g_iln {cx : Bool} {cap : Nat} {call : Cl} {Φ : Po} {own mn : String} {cc : ByteArray} {nL : Nat} {ret : Option FieldType} {J : Nat → Ct} (A : Act cx cap call Φ own mn cc nL ret J) {pc : Nat} {k : Fin 4} {i : Nat} {c : Ct} (hd : decode cc pc = .ok (.iload_n k, 1)) (hi : (k : Nat) = i) (h : LE c (J (pc + 1))) : LE (o_il i c) (J pc) := by
  obtain ⟨p, l, e, R, s, m, args, below, meth, cd, Q, n0, d, B0, adc, tA, D, sv, xs, L0, ⟨hx, hb, hml, hown, hts, hK, hE, hX, hXB, hB, hAO⟩, ⟨hnm, hRc, hRs, hcap, hRf, hRl, hsv, hcn⟩, hcall, hret, rfl⟩ := A
  intro ls st σ hc H locs lsM hw hS hl hn
  unfold o_il at hc
  split at hc
  · rename_i x hxx
    exact lv_iload_n hx hb hd hi (lvr_at hl hxx (fun _ q => by cases q)) (h _ _ _ hc H locs lsM hw hS hl hn)
  · exact hc.elim
theorem g_il {cx : Bool} {cap : Nat} {call : Cl} {Φ : Po} {own mn : String} {cc : ByteArray} {nL : Nat} {ret : Option FieldType} {J : Nat → Ct} (A : Act cx cap call Φ own mn cc nL ret J) {pc : Nat} {i : Nat} {c : Ct} (hd : decode cc pc = .ok (.iload i, 2)) (h : LE c (J (pc + 2))) : LE (o_il i c) (J pc) := by
  obtain ⟨p, l, e, R, s, m, args, below, meth, cd, Q, n0, d, B0, adc, tA, D, sv, xs, L0, ⟨hx, hb, hml, hown, hts, hK, hE, hX, hXB, hB, hAO⟩, ⟨hnm, hRc, hRs, hcap, hRf, hRl, hsv, hcn⟩, hcall, hret, rfl⟩ := A
  intro ls st σ hc H locs lsM hw hS hl hn
  unfold o_il at hc
  split at hc
  · rename_i x hxx
    exact lv_iload hx hb hd (lvr_at hl hxx (fun _ q => by cases q)) (h _ _ _ hc H locs lsM hw hS hl hn)
  · exact hc.elim
theorem g_lln {cx : Bool} {cap : Nat} {call : Cl} {Φ : Po} {own mn : String} {cc : ByteArray} {nL : Nat} {ret : Option FieldType} {J : Nat → Ct} (A : Act cx cap call Φ own mn cc nL ret J) {pc : Nat} {k : Fin 4} {i : Nat} {c : Ct} (hd : decode cc pc = .ok (.lload_n k, 1)) (hi : (k : Nat) = i) (h : LE c (J (pc + 1))) : LE (o_ll i c) (J pc) := by
  obtain ⟨p, l, e, R, s, m, args, below, meth, cd, Q, n0, d, B0, adc, tA, D, sv, xs, L0, ⟨hx, hb, hml, hown, hts, hK, hE, hX, hXB, hB, hAO⟩, ⟨hnm, hRc, hRs, hcap, hRf, hRl, hsv, hcn⟩, hcall, hret, rfl⟩ := A
  intro ls st σ hc H locs lsM hw hS hl hn
  unfold o_ll at hc
  split at hc
  · rename_i x hxx
    exact lv_lload_n hx hb hd hi (lvr_at hl hxx (fun _ q => by cases q)) (h _ _ _ hc H locs lsM hw hS hl hn)
  · exact hc.elim
theorem g_ll {cx : Bool} {cap : Nat} {call : Cl} {Φ : Po} {own mn : String} {cc : ByteArray} {nL : Nat} {ret : Option FieldType} {J : Nat → Ct} (A : Act cx cap call Φ own mn cc nL ret J) {pc : Nat} {i : Nat} {c : Ct} (hd : decode cc pc = .ok (.lload i, 2)) (h : LE c (J (pc + 2))) : LE (o_ll i c) (J pc) := by
  obtain ⟨p, l, e, R, s, m, args, below, meth, cd, Q, n0, d, B0, adc, tA, D, sv, xs, L0, ⟨hx, hb, hml, hown, hts, hK, hE, hX, hXB, hB, hAO⟩, ⟨hnm, hRc, hRs, hcap, hRf, hRl, hsv, hcn⟩, hcall, hret, rfl⟩ := A
  intro ls st σ hc H locs lsM hw hS hl hn
  unfold o_ll at hc
  split at hc
  · rename_i x hxx
    exact lv_lload hx hb hd (lvr_at hl hxx (fun _ q => by cases q)) (h _ _ _ hc H locs lsM hw hS hl hn)
  · exact hc.elim
theorem g_aln {cx : Bool} {cap : Nat} {call : Cl} {Φ : Po} {own mn : String} {cc : ByteArray} {nL : Nat} {ret : Option FieldType} {J : Nat → Ct} (A : Act cx cap call Φ own mn cc nL ret J) {pc : Nat} {k : Fin 4} {i : Nat} {c : Ct} (hd : decode cc pc = .ok (.aload_n k, 1)) (hi : (k : Nat) = i) (h : LE c (J (pc + 1))) : LE (o_al i c) (J pc) := by
  obtain ⟨p, l, e, R, s, m, args, below, meth, cd, Q, n0, d, B0, adc, tA, D, sv, xs, L0, ⟨hx, hb, hml, hown, hts, hK, hE, hX, hXB, hB, hAO⟩, ⟨hnm, hRc, hRs, hcap, hRf, hRl, hsv, hcn⟩, hcall, hret, rfl⟩ := A
  intro ls st σ hc H locs lsM hw hS hl hn
  unfold o_al at hc
  split at hc
  · rename_i x hxx
    have h1 := lvr_at hl hxx (fun _ q => by cases q)
    have h2 := h _ _ _ hc H locs lsM hw hS hl hn
    simp only [List.map_cons, vmp] at h1 h2
    cases hr : rr (adr B0 adc) x with
    | none => rw [hr] at h1 h2; exact lv_aload_nN hx hb hd hi h1 h2
    | some a => rw [hr] at h1 h2; exact lv_aload_n hx hb hd hi h1 h2
  · exact hc.elim
theorem g_al {cx : Bool} {cap : Nat} {call : Cl} {Φ : Po} {own mn : String} {cc : ByteArray} {nL : Nat} {ret : Option FieldType} {J : Nat → Ct} (A : Act cx cap call Φ own mn cc nL ret J) {pc : Nat} {i : Nat} {c : Ct} (hd : decode cc pc = .ok (.aload i, 2)) (h : LE c (J (pc + 2))) : LE (o_al i c) (J pc) := by
  obtain ⟨p, l, e, R, s, m, args, below, meth, cd, Q, n0, d, B0, adc, tA, D, sv, xs, L0, ⟨hx, hb, hml, hown, hts, hK, hE, hX, hXB, hB, hAO⟩, ⟨hnm, hRc, hRs, hcap, hRf, hRl, hsv, hcn⟩, hcall, hret, rfl⟩ := A
  intro ls st σ hc H locs lsM hw hS hl hn
  unfold o_al at hc
  split at hc
  · rename_i x hxx
    have h1 := lvr_at hl hxx (fun _ q => by cases q)
    have h2 := h _ _ _ hc H locs lsM hw hS hl hn
    simp only [List.map_cons, vmp] at h1 h2
    cases hr : rr (adr B0 adc) x with
    | none => rw [hr] at h1 h2; exact lv_aloadN hx hb hd h1 h2
    | some a => rw [hr] at h1 h2; exact lv_aload hx hb hd h1 h2
  · exact hc.elim
theorem g_isn {cx : Bool} {cap : Nat} {call : Cl} {Φ : Po} {own mn : String} {cc : ByteArray} {nL : Nat} {ret : Option FieldType} {J : Nat → Ct} (A : Act cx cap call Φ own mn cc nL ret J) {pc : Nat} {k : Fin 4} {i : Nat} {c : Ct} (hd : decode cc pc = .ok (.istore_n k, 1)) (hi : (k : Nat) = i) (hi2 : i < nL) (h : LE c (J (pc + 1))) : LE (o_is i c) (J pc) := by
  obtain ⟨p, l, e, R, s, m, args, below, meth, cd, Q, n0, d, B0, adc, tA, D, sv, xs, L0, ⟨hx, hb, hml, hown, hts, hK, hE, hX, hXB, hB, hAO⟩, ⟨hnm, hRc, hRs, hcap, hRf, hRl, hsv, hcn⟩, hcall, hret, rfl⟩ := A
  intro ls st σ hc H locs lsM hw hS hl hn
  unfold o_is at hc
  split at hc
  · exact lv_istore_n hx hb hd hi hl.2 hi2 rfl (fun ls' hl' => h _ _ _ hc H locs ls' hw hS (lvr_st1 (v := .int _) hsv hl.1 hl') hn)
  · exact hc.elim
theorem g_is {cx : Bool} {cap : Nat} {call : Cl} {Φ : Po} {own mn : String} {cc : ByteArray} {nL : Nat} {ret : Option FieldType} {J : Nat → Ct} (A : Act cx cap call Φ own mn cc nL ret J) {pc : Nat} {i : Nat} {c : Ct} (hd : decode cc pc = .ok (.istore i, 2)) (hi2 : i < nL) (h : LE c (J (pc + 2))) : LE (o_is i c) (J pc) := by
  obtain ⟨p, l, e, R, s, m, args, below, meth, cd, Q, n0, d, B0, adc, tA, D, sv, xs, L0, ⟨hx, hb, hml, hown, hts, hK, hE, hX, hXB, hB, hAO⟩, ⟨hnm, hRc, hRs, hcap, hRf, hRl, hsv, hcn⟩, hcall, hret, rfl⟩ := A
  intro ls st σ hc H locs lsM hw hS hl hn
  unfold o_is at hc
  split at hc
  · exact lv_istore hx hb hd hl.2 hi2 rfl (fun ls' hl' => h _ _ _ hc H locs ls' hw hS (lvr_st1 (v := .int _) hsv hl.1 hl') hn)
  · exact hc.elim
theorem g_asn {cx : Bool} {cap : Nat} {call : Cl} {Φ : Po} {own mn : String} {cc : ByteArray} {nL : Nat} {ret : Option FieldType} {J : Nat → Ct} (A : Act cx cap call Φ own mn cc nL ret J) {pc : Nat} {k : Fin 4} {i : Nat} {c : Ct} (hd : decode cc pc = .ok (.astore_n k, 1)) (hi : (k : Nat) = i) (hi2 : i < nL) (h : LE c (J (pc + 1))) : LE (o_as i c) (J pc) := by
  obtain ⟨p, l, e, R, s, m, args, below, meth, cd, Q, n0, d, B0, adc, tA, D, sv, xs, L0, ⟨hx, hb, hml, hown, hts, hK, hE, hX, hXB, hB, hAO⟩, ⟨hnm, hRc, hRs, hcap, hRf, hRl, hsv, hcn⟩, hcall, hret, rfl⟩ := A
  intro ls st σ hc H locs lsM hw hS hl hn
  unfold o_as at hc
  split at hc
  · rename_i x r
    have key : ∀ lsM' : Array Slot, lv_has lsM' nL ((i, vmp (adr B0 adc) sv (.ref x)) :: (asc (adr B0 adc) sv ls).filter (fun q => !(q.1 == i) && !(q.1 + 1 == i && q.2.category == 2))) → W p l e R s m args below meth cd H locs (nxx cx σ - n0) (szs (nxx cx σ) - szs n0) Q (F0 m (pc + 1) lsM' (r.map (vmp (adr B0 adc) sv))) := fun ls' hl' => h _ _ _ hc H locs ls' hw hS (lvr_st1 (v := .ref x) hsv hl.1 hl') hn
    show W p l e R s m args below meth cd H locs (nxx cx σ - n0) (szs (nxx cx σ) - szs n0) Q (F0 m pc lsM (va_rf (rr (adr B0 adc) x) :: r.map (vmp (adr B0 adc) sv)))
    simp only [vmp] at key
    cases hr : rr (adr B0 adc) x with
    | none => rw [hr] at key; exact lv_astore_nN hx hb hd hi hl.2 hi2 rfl key
    | some a => rw [hr] at key; exact lv_astore_n hx hb hd hi hl.2 hi2 rfl key
  · exact hc.elim
theorem g_as {cx : Bool} {cap : Nat} {call : Cl} {Φ : Po} {own mn : String} {cc : ByteArray} {nL : Nat} {ret : Option FieldType} {J : Nat → Ct} (A : Act cx cap call Φ own mn cc nL ret J) {pc : Nat} {i : Nat} {c : Ct} (hd : decode cc pc = .ok (.astore i, 2)) (hi2 : i < nL) (h : LE c (J (pc + 2))) : LE (o_as i c) (J pc) := by
  obtain ⟨p, l, e, R, s, m, args, below, meth, cd, Q, n0, d, B0, adc, tA, D, sv, xs, L0, ⟨hx, hb, hml, hown, hts, hK, hE, hX, hXB, hB, hAO⟩, ⟨hnm, hRc, hRs, hcap, hRf, hRl, hsv, hcn⟩, hcall, hret, rfl⟩ := A
  intro ls st σ hc H locs lsM hw hS hl hn
  unfold o_as at hc
  split at hc
  · rename_i x r
    have key : ∀ lsM' : Array Slot, lv_has lsM' nL ((i, vmp (adr B0 adc) sv (.ref x)) :: (asc (adr B0 adc) sv ls).filter (fun q => !(q.1 == i) && !(q.1 + 1 == i && q.2.category == 2))) → W p l e R s m args below meth cd H locs (nxx cx σ - n0) (szs (nxx cx σ) - szs n0) Q (F0 m (pc + 2) lsM' (r.map (vmp (adr B0 adc) sv))) := fun ls' hl' => h _ _ _ hc H locs ls' hw hS (lvr_st1 (v := .ref x) hsv hl.1 hl') hn
    show W p l e R s m args below meth cd H locs (nxx cx σ - n0) (szs (nxx cx σ) - szs n0) Q (F0 m pc lsM (va_rf (rr (adr B0 adc) x) :: r.map (vmp (adr B0 adc) sv)))
    simp only [vmp] at key
    cases hr : rr (adr B0 adc) x with
    | none => rw [hr] at key; exact lv_astoreN hx hb hd hl.2 hi2 rfl key
    | some a => rw [hr] at key; exact lv_astore hx hb hd hl.2 hi2 rfl key
  · exact hc.elim
theorem g_lsn {cx : Bool} {cap : Nat} {call : Cl} {Φ : Po} {own mn : String} {cc : ByteArray} {nL : Nat} {ret : Option FieldType} {J : Nat → Ct} (A : Act cx cap call Φ own mn cc nL ret J) {pc : Nat} {k : Fin 4} {i : Nat} {c : Ct} (hd : decode cc pc = .ok (.lstore_n k, 1)) (hi : (k : Nat) = i) (hi2 : i + 1 < nL) (h : LE c (J (pc + 1))) : LE (o_ls i c) (J pc) := by
  obtain ⟨p, l, e, R, s, m, args, below, meth, cd, Q, n0, d, B0, adc, tA, D, sv, xs, L0, ⟨hx, hb, hml, hown, hts, hK, hE, hX, hXB, hB, hAO⟩, ⟨hnm, hRc, hRs, hcap, hRf, hRl, hsv, hcn⟩, hcall, hret, rfl⟩ := A
  intro ls st σ hc H locs lsM hw hS hl hn
  unfold o_ls at hc
  split at hc
  · exact lv_lstore_n hx hb hd hi hl.2 hi2 rfl (fun ls' hl' => h _ _ _ hc H locs ls' hw hS (lvr_st2 (v := .long _) hsv hl.1 hl') hn)
  · exact hc.elim
theorem g_ls {cx : Bool} {cap : Nat} {call : Cl} {Φ : Po} {own mn : String} {cc : ByteArray} {nL : Nat} {ret : Option FieldType} {J : Nat → Ct} (A : Act cx cap call Φ own mn cc nL ret J) {pc : Nat} {i : Nat} {c : Ct} (hd : decode cc pc = .ok (.lstore i, 2)) (hi2 : i + 1 < nL) (h : LE c (J (pc + 2))) : LE (o_ls i c) (J pc) := by
  obtain ⟨p, l, e, R, s, m, args, below, meth, cd, Q, n0, d, B0, adc, tA, D, sv, xs, L0, ⟨hx, hb, hml, hown, hts, hK, hE, hX, hXB, hB, hAO⟩, ⟨hnm, hRc, hRs, hcap, hRf, hRl, hsv, hcn⟩, hcall, hret, rfl⟩ := A
  intro ls st σ hc H locs lsM hw hS hl hn
  unfold o_ls at hc
  split at hc
  · exact lv_lstore hx hb hd hl.2 hi2 rfl (fun ls' hl' => h _ _ _ hc H locs ls' hw hS (lvr_st2 (v := .long _) hsv hl.1 hl') hn)
  · exact hc.elim
theorem g_inc {cx : Bool} {cap : Nat} {call : Cl} {Φ : Po} {own mn : String} {cc : ByteArray} {nL : Nat} {ret : Option FieldType} {J : Nat → Ct} (A : Act cx cap call Φ own mn cc nL ret J) {pc : Nat} {i : Nat} {n : Int} {v : Int32} {c : Ct} (hd : decode cc pc = .ok (.iinc i n, 3)) (hv : Int32.ofInt n = v) (h : LE c (J (pc + 3))) : LE (o_inc i v c) (J pc) := by
  obtain ⟨p, l, e, R, s, m, args, below, meth, cd, Q, n0, d, B0, adc, tA, D, sv, xs, L0, ⟨hx, hb, hml, hown, hts, hK, hE, hX, hXB, hB, hAO⟩, ⟨hnm, hRc, hRs, hcap, hRf, hRl, hsv, hcn⟩, hcall, hret, rfl⟩ := A
  intro ls st σ hc H locs lsM hw hS hl hn
  unfold o_inc at hc
  split at hc
  · rename_i x hxx
    have hi2 : i < nL := by rw [← hl.1]; exact (List.getElem?_eq_some_iff.mp hxx).1
    have hm : (i, vmp (adr B0 adc) sv (.int x)) ∈ asc (adr B0 adc) sv ls := mem_asc.mpr ⟨.int x, hxx, fun _ q => (by cases q), rfl⟩
    obtain ⟨kk, hkk⟩ := List.getElem?_of_mem hm
    refine lv_iinc hx hb hd hl.2 (k := kk) hkk (by rw [hv]) hi2 rfl (fun ls' hl' => h _ _ _ hc H locs ls' hw hS (lvr_inc (v := .int (x + v)) hsv hl.1 hxx (fun j hj hh => ?_) hl') hn)
    have hs := lvr_at hl hxx (fun _ q => by cases q)
    have wf := hl.2.2.1.1 j
    rcases hh with ⟨y, hy⟩ | ⟨y, hy⟩
    · have h1 := wf _ (lvr_at hl hy (fun _ q => by cases q)) rfl
      rw [hj, hs] at h1
      cases h1
    · have h1 := wf _ (lvr_at hl hy (fun _ q => by cases q)) rfl
      rw [hj, hs] at h1
      cases h1
  · exact hc.elim
theorem g_dup {cx : Bool} {cap : Nat} {call : Cl} {Φ : Po} {own mn : String} {cc : ByteArray} {nL : Nat} {ret : Option FieldType} {J : Nat → Ct} (A : Act cx cap call Φ own mn cc nL ret J) {pc : Nat} {c : Ct} (hd : decode cc pc = .ok (.dup, 1)) (h : LE c (J (pc + 1))) : LE (o_dup c) (J pc) := by
  obtain ⟨p, l, e, R, s, m, args, below, meth, cd, Q, n0, d, B0, adc, tA, D, sv, xs, L0, ⟨hx, hb, hml, hown, hts, hK, hE, hX, hXB, hB, hAO⟩, ⟨hnm, hRc, hRs, hcap, hRf, hRl, hsv, hcn⟩, hcall, hret, rfl⟩ := A
  intro ls st σ hc H locs lsM hw hS hl hn
  unfold o_dup at hc
  split at hc
  · exact lv_dup hx hb hd rfl (h _ _ _ hc H locs lsM hw hS hl hn)
  · exact lv_dup hx hb hd (by simp only [vmp]; cases rr (adr B0 adc) _ <;> rfl) (h _ _ _ hc H locs lsM hw hS hl hn)
  · exact hc.elim
theorem g_dup2 {cx : Bool} {cap : Nat} {call : Cl} {Φ : Po} {own mn : String} {cc : ByteArray} {nL : Nat} {ret : Option FieldType} {J : Nat → Ct} (A : Act cx cap call Φ own mn cc nL ret J) {pc : Nat} {c : Ct} (hd : decode cc pc = .ok (.dup2, 1)) (h : LE c (J (pc + 1))) : LE (o_dup2 c) (J pc) := by
  obtain ⟨p, l, e, R, s, m, args, below, meth, cd, Q, n0, d, B0, adc, tA, D, sv, xs, L0, ⟨hx, hb, hml, hown, hts, hK, hE, hX, hXB, hB, hAO⟩, ⟨hnm, hRc, hRs, hcap, hRf, hRl, hsv, hcn⟩, hcall, hret, rfl⟩ := A
  intro ls st σ hc H locs lsM hw hS hl hn
  unfold o_dup2 at hc
  split at hc
  · exact lv_dup2_11 hx hb hd rfl (by simp only [vmp]; cases rr (adr B0 adc) _ <;> rfl) (h _ _ _ hc H locs lsM hw hS hl hn)
  · exact hc.elim
theorem g_pop {cx : Bool} {cap : Nat} {call : Cl} {Φ : Po} {own mn : String} {cc : ByteArray} {nL : Nat} {ret : Option FieldType} {J : Nat → Ct} (A : Act cx cap call Φ own mn cc nL ret J) {pc : Nat} {c : Ct} (hd : decode cc pc = .ok (.pop, 1)) (h : LE c (J (pc + 1))) : LE (o_pop c) (J pc) := by
  obtain ⟨p, l, e, R, s, m, args, below, meth, cd, Q, n0, d, B0, adc, tA, D, sv, xs, L0, ⟨hx, hb, hml, hown, hts, hK, hE, hX, hXB, hB, hAO⟩, ⟨hnm, hRc, hRs, hcap, hRf, hRl, hsv, hcn⟩, hcall, hret, rfl⟩ := A
  intro ls st σ hc H locs lsM hw hS hl hn
  unfold o_pop at hc
  split at hc
  · exact lv_pop hx hb hd rfl (h _ _ _ hc H locs lsM hw hS hl hn)
  · exact lv_pop hx hb hd (by simp only [vmp]; cases rr (adr B0 adc) _ <;> rfl) (h _ _ _ hc H locs lsM hw hS hl hn)
  · exact hc.elim
theorem g_iadd {cx : Bool} {cap : Nat} {call : Cl} {Φ : Po} {own mn : String} {cc : ByteArray} {nL : Nat} {ret : Option FieldType} {J : Nat → Ct} (A : Act cx cap call Φ own mn cc nL ret J) {pc : Nat}  {c : Ct} (hd : decode cc pc = .ok (.iadd, 1)) (h : LE c (J (pc + 1))) : LE (o_iadd c) (J pc) := by
  obtain ⟨p, l, e, R, s, m, args, below, meth, cd, Q, n0, d, B0, adc, tA, D, sv, xs, L0, ⟨hx, hb, hml, hown, hts, hK, hE, hX, hXB, hB, hAO⟩, ⟨hnm, hRc, hRs, hcap, hRf, hRl, hsv, hcn⟩, hcall, hret, rfl⟩ := A
  intro ls st σ hc H locs lsM hw hS hl hn
  unfold o_iadd at hc
  split at hc
  · exact lv_iadd hx hb hd (h _ _ _ hc H locs lsM hw hS hl hn)
  · exact hc.elim
theorem g_isub {cx : Bool} {cap : Nat} {call : Cl} {Φ : Po} {own mn : String} {cc : ByteArray} {nL : Nat} {ret : Option FieldType} {J : Nat → Ct} (A : Act cx cap call Φ own mn cc nL ret J) {pc : Nat}  {c : Ct} (hd : decode cc pc = .ok (.isub, 1)) (h : LE c (J (pc + 1))) : LE (o_isub c) (J pc) := by
  obtain ⟨p, l, e, R, s, m, args, below, meth, cd, Q, n0, d, B0, adc, tA, D, sv, xs, L0, ⟨hx, hb, hml, hown, hts, hK, hE, hX, hXB, hB, hAO⟩, ⟨hnm, hRc, hRs, hcap, hRf, hRl, hsv, hcn⟩, hcall, hret, rfl⟩ := A
  intro ls st σ hc H locs lsM hw hS hl hn
  unfold o_isub at hc
  split at hc
  · exact lv_isub hx hb hd (h _ _ _ hc H locs lsM hw hS hl hn)
  · exact hc.elim
theorem g_imul {cx : Bool} {cap : Nat} {call : Cl} {Φ : Po} {own mn : String} {cc : ByteArray} {nL : Nat} {ret : Option FieldType} {J : Nat → Ct} (A : Act cx cap call Φ own mn cc nL ret J) {pc : Nat}  {c : Ct} (hd : decode cc pc = .ok (.imul, 1)) (h : LE c (J (pc + 1))) : LE (o_imul c) (J pc) := by
  obtain ⟨p, l, e, R, s, m, args, below, meth, cd, Q, n0, d, B0, adc, tA, D, sv, xs, L0, ⟨hx, hb, hml, hown, hts, hK, hE, hX, hXB, hB, hAO⟩, ⟨hnm, hRc, hRs, hcap, hRf, hRl, hsv, hcn⟩, hcall, hret, rfl⟩ := A
  intro ls st σ hc H locs lsM hw hS hl hn
  unfold o_imul at hc
  split at hc
  · exact lv_imul hx hb hd (h _ _ _ hc H locs lsM hw hS hl hn)
  · exact hc.elim
theorem g_iand {cx : Bool} {cap : Nat} {call : Cl} {Φ : Po} {own mn : String} {cc : ByteArray} {nL : Nat} {ret : Option FieldType} {J : Nat → Ct} (A : Act cx cap call Φ own mn cc nL ret J) {pc : Nat}  {c : Ct} (hd : decode cc pc = .ok (.iand, 1)) (h : LE c (J (pc + 1))) : LE (o_iand c) (J pc) := by
  obtain ⟨p, l, e, R, s, m, args, below, meth, cd, Q, n0, d, B0, adc, tA, D, sv, xs, L0, ⟨hx, hb, hml, hown, hts, hK, hE, hX, hXB, hB, hAO⟩, ⟨hnm, hRc, hRs, hcap, hRf, hRl, hsv, hcn⟩, hcall, hret, rfl⟩ := A
  intro ls st σ hc H locs lsM hw hS hl hn
  unfold o_iand at hc
  split at hc
  · exact lv_iand hx hb hd (h _ _ _ hc H locs lsM hw hS hl hn)
  · exact hc.elim
theorem g_ior {cx : Bool} {cap : Nat} {call : Cl} {Φ : Po} {own mn : String} {cc : ByteArray} {nL : Nat} {ret : Option FieldType} {J : Nat → Ct} (A : Act cx cap call Φ own mn cc nL ret J) {pc : Nat}  {c : Ct} (hd : decode cc pc = .ok (.ior, 1)) (h : LE c (J (pc + 1))) : LE (o_ior c) (J pc) := by
  obtain ⟨p, l, e, R, s, m, args, below, meth, cd, Q, n0, d, B0, adc, tA, D, sv, xs, L0, ⟨hx, hb, hml, hown, hts, hK, hE, hX, hXB, hB, hAO⟩, ⟨hnm, hRc, hRs, hcap, hRf, hRl, hsv, hcn⟩, hcall, hret, rfl⟩ := A
  intro ls st σ hc H locs lsM hw hS hl hn
  unfold o_ior at hc
  split at hc
  · exact lv_ior hx hb hd (h _ _ _ hc H locs lsM hw hS hl hn)
  · exact hc.elim
theorem g_ixor {cx : Bool} {cap : Nat} {call : Cl} {Φ : Po} {own mn : String} {cc : ByteArray} {nL : Nat} {ret : Option FieldType} {J : Nat → Ct} (A : Act cx cap call Φ own mn cc nL ret J) {pc : Nat}  {c : Ct} (hd : decode cc pc = .ok (.ixor, 1)) (h : LE c (J (pc + 1))) : LE (o_ixor c) (J pc) := by
  obtain ⟨p, l, e, R, s, m, args, below, meth, cd, Q, n0, d, B0, adc, tA, D, sv, xs, L0, ⟨hx, hb, hml, hown, hts, hK, hE, hX, hXB, hB, hAO⟩, ⟨hnm, hRc, hRs, hcap, hRf, hRl, hsv, hcn⟩, hcall, hret, rfl⟩ := A
  intro ls st σ hc H locs lsM hw hS hl hn
  unfold o_ixor at hc
  split at hc
  · exact lv_ixor hx hb hd (h _ _ _ hc H locs lsM hw hS hl hn)
  · exact hc.elim
theorem g_ishl {cx : Bool} {cap : Nat} {call : Cl} {Φ : Po} {own mn : String} {cc : ByteArray} {nL : Nat} {ret : Option FieldType} {J : Nat → Ct} (A : Act cx cap call Φ own mn cc nL ret J) {pc : Nat}  {c : Ct} (hd : decode cc pc = .ok (.ishl, 1)) (h : LE c (J (pc + 1))) : LE (o_ishl c) (J pc) := by
  obtain ⟨p, l, e, R, s, m, args, below, meth, cd, Q, n0, d, B0, adc, tA, D, sv, xs, L0, ⟨hx, hb, hml, hown, hts, hK, hE, hX, hXB, hB, hAO⟩, ⟨hnm, hRc, hRs, hcap, hRf, hRl, hsv, hcn⟩, hcall, hret, rfl⟩ := A
  intro ls st σ hc H locs lsM hw hS hl hn
  unfold o_ishl at hc
  split at hc
  · exact lv_ishl hx hb hd (h _ _ _ hc H locs lsM hw hS hl hn)
  · exact hc.elim
theorem g_ishr {cx : Bool} {cap : Nat} {call : Cl} {Φ : Po} {own mn : String} {cc : ByteArray} {nL : Nat} {ret : Option FieldType} {J : Nat → Ct} (A : Act cx cap call Φ own mn cc nL ret J) {pc : Nat}  {c : Ct} (hd : decode cc pc = .ok (.ishr, 1)) (h : LE c (J (pc + 1))) : LE (o_ishr c) (J pc) := by
  obtain ⟨p, l, e, R, s, m, args, below, meth, cd, Q, n0, d, B0, adc, tA, D, sv, xs, L0, ⟨hx, hb, hml, hown, hts, hK, hE, hX, hXB, hB, hAO⟩, ⟨hnm, hRc, hRs, hcap, hRf, hRl, hsv, hcn⟩, hcall, hret, rfl⟩ := A
  intro ls st σ hc H locs lsM hw hS hl hn
  unfold o_ishr at hc
  split at hc
  · exact lv_ishr hx hb hd (h _ _ _ hc H locs lsM hw hS hl hn)
  · exact hc.elim
theorem g_ineg {cx : Bool} {cap : Nat} {call : Cl} {Φ : Po} {own mn : String} {cc : ByteArray} {nL : Nat} {ret : Option FieldType} {J : Nat → Ct} (A : Act cx cap call Φ own mn cc nL ret J) {pc : Nat}  {c : Ct} (hd : decode cc pc = .ok (.ineg, 1)) (h : LE c (J (pc + 1))) : LE (o_ineg c) (J pc) := by
  obtain ⟨p, l, e, R, s, m, args, below, meth, cd, Q, n0, d, B0, adc, tA, D, sv, xs, L0, ⟨hx, hb, hml, hown, hts, hK, hE, hX, hXB, hB, hAO⟩, ⟨hnm, hRc, hRs, hcap, hRf, hRl, hsv, hcn⟩, hcall, hret, rfl⟩ := A
  intro ls st σ hc H locs lsM hw hS hl hn
  unfold o_ineg at hc
  split at hc
  · exact lv_ineg hx hb hd (h _ _ _ hc H locs lsM hw hS hl hn)
  · exact hc.elim
theorem g_ladd {cx : Bool} {cap : Nat} {call : Cl} {Φ : Po} {own mn : String} {cc : ByteArray} {nL : Nat} {ret : Option FieldType} {J : Nat → Ct} (A : Act cx cap call Φ own mn cc nL ret J) {pc : Nat}  {c : Ct} (hd : decode cc pc = .ok (.ladd, 1)) (h : LE c (J (pc + 1))) : LE (o_ladd c) (J pc) := by
  obtain ⟨p, l, e, R, s, m, args, below, meth, cd, Q, n0, d, B0, adc, tA, D, sv, xs, L0, ⟨hx, hb, hml, hown, hts, hK, hE, hX, hXB, hB, hAO⟩, ⟨hnm, hRc, hRs, hcap, hRf, hRl, hsv, hcn⟩, hcall, hret, rfl⟩ := A
  intro ls st σ hc H locs lsM hw hS hl hn
  unfold o_ladd at hc
  split at hc
  · exact lv_ladd hx hb hd (h _ _ _ hc H locs lsM hw hS hl hn)
  · exact hc.elim
theorem g_lsub {cx : Bool} {cap : Nat} {call : Cl} {Φ : Po} {own mn : String} {cc : ByteArray} {nL : Nat} {ret : Option FieldType} {J : Nat → Ct} (A : Act cx cap call Φ own mn cc nL ret J) {pc : Nat}  {c : Ct} (hd : decode cc pc = .ok (.lsub, 1)) (h : LE c (J (pc + 1))) : LE (o_lsub c) (J pc) := by
  obtain ⟨p, l, e, R, s, m, args, below, meth, cd, Q, n0, d, B0, adc, tA, D, sv, xs, L0, ⟨hx, hb, hml, hown, hts, hK, hE, hX, hXB, hB, hAO⟩, ⟨hnm, hRc, hRs, hcap, hRf, hRl, hsv, hcn⟩, hcall, hret, rfl⟩ := A
  intro ls st σ hc H locs lsM hw hS hl hn
  unfold o_lsub at hc
  split at hc
  · exact lv_lsub hx hb hd (h _ _ _ hc H locs lsM hw hS hl hn)
  · exact hc.elim
theorem g_lmul {cx : Bool} {cap : Nat} {call : Cl} {Φ : Po} {own mn : String} {cc : ByteArray} {nL : Nat} {ret : Option FieldType} {J : Nat → Ct} (A : Act cx cap call Φ own mn cc nL ret J) {pc : Nat}  {c : Ct} (hd : decode cc pc = .ok (.lmul, 1)) (h : LE c (J (pc + 1))) : LE (o_lmul c) (J pc) := by
  obtain ⟨p, l, e, R, s, m, args, below, meth, cd, Q, n0, d, B0, adc, tA, D, sv, xs, L0, ⟨hx, hb, hml, hown, hts, hK, hE, hX, hXB, hB, hAO⟩, ⟨hnm, hRc, hRs, hcap, hRf, hRl, hsv, hcn⟩, hcall, hret, rfl⟩ := A
  intro ls st σ hc H locs lsM hw hS hl hn
  unfold o_lmul at hc
  split at hc
  · exact lv_lmul hx hb hd (h _ _ _ hc H locs lsM hw hS hl hn)
  · exact hc.elim
theorem g_lneg {cx : Bool} {cap : Nat} {call : Cl} {Φ : Po} {own mn : String} {cc : ByteArray} {nL : Nat} {ret : Option FieldType} {J : Nat → Ct} (A : Act cx cap call Φ own mn cc nL ret J) {pc : Nat}  {c : Ct} (hd : decode cc pc = .ok (.lneg, 1)) (h : LE c (J (pc + 1))) : LE (o_lneg c) (J pc) := by
  obtain ⟨p, l, e, R, s, m, args, below, meth, cd, Q, n0, d, B0, adc, tA, D, sv, xs, L0, ⟨hx, hb, hml, hown, hts, hK, hE, hX, hXB, hB, hAO⟩, ⟨hnm, hRc, hRs, hcap, hRf, hRl, hsv, hcn⟩, hcall, hret, rfl⟩ := A
  intro ls st σ hc H locs lsM hw hS hl hn
  unfold o_lneg at hc
  split at hc
  · exact lv_lneg hx hb hd (h _ _ _ hc H locs lsM hw hS hl hn)
  · exact hc.elim
theorem g_lor {cx : Bool} {cap : Nat} {call : Cl} {Φ : Po} {own mn : String} {cc : ByteArray} {nL : Nat} {ret : Option FieldType} {J : Nat → Ct} (A : Act cx cap call Φ own mn cc nL ret J) {pc : Nat}  {c : Ct} (hd : decode cc pc = .ok (.lor, 1)) (h : LE c (J (pc + 1))) : LE (o_lor c) (J pc) := by
  obtain ⟨p, l, e, R, s, m, args, below, meth, cd, Q, n0, d, B0, adc, tA, D, sv, xs, L0, ⟨hx, hb, hml, hown, hts, hK, hE, hX, hXB, hB, hAO⟩, ⟨hnm, hRc, hRs, hcap, hRf, hRl, hsv, hcn⟩, hcall, hret, rfl⟩ := A
  intro ls st σ hc H locs lsM hw hS hl hn
  unfold o_lor at hc
  split at hc
  · exact lv_lor hx hb hd (h _ _ _ hc H locs lsM hw hS hl hn)
  · exact hc.elim
theorem g_iushr {cx : Bool} {cap : Nat} {call : Cl} {Φ : Po} {own mn : String} {cc : ByteArray} {nL : Nat} {ret : Option FieldType} {J : Nat → Ct} (A : Act cx cap call Φ own mn cc nL ret J) {pc : Nat}  {c : Ct} (hd : decode cc pc = .ok (.iushr, 1)) (h : LE c (J (pc + 1))) : LE (o_iushr c) (J pc) := by
  obtain ⟨p, l, e, R, s, m, args, below, meth, cd, Q, n0, d, B0, adc, tA, D, sv, xs, L0, ⟨hx, hb, hml, hown, hts, hK, hE, hX, hXB, hB, hAO⟩, ⟨hnm, hRc, hRs, hcap, hRf, hRl, hsv, hcn⟩, hcall, hret, rfl⟩ := A
  intro ls st σ hc H locs lsM hw hS hl hn
  unfold o_iushr at hc
  split at hc
  · exact lv_iushr hx hb hd rfl (h _ _ _ hc H locs lsM hw hS hl hn)
  · exact hc.elim
theorem g_lshl {cx : Bool} {cap : Nat} {call : Cl} {Φ : Po} {own mn : String} {cc : ByteArray} {nL : Nat} {ret : Option FieldType} {J : Nat → Ct} (A : Act cx cap call Φ own mn cc nL ret J) {pc : Nat}  {c : Ct} (hd : decode cc pc = .ok (.lshl, 1)) (h : LE c (J (pc + 1))) : LE (o_lshl c) (J pc) := by
  obtain ⟨p, l, e, R, s, m, args, below, meth, cd, Q, n0, d, B0, adc, tA, D, sv, xs, L0, ⟨hx, hb, hml, hown, hts, hK, hE, hX, hXB, hB, hAO⟩, ⟨hnm, hRc, hRs, hcap, hRf, hRl, hsv, hcn⟩, hcall, hret, rfl⟩ := A
  intro ls st σ hc H locs lsM hw hS hl hn
  unfold o_lshl at hc
  split at hc
  · exact lv_lshl hx hb hd rfl (h _ _ _ hc H locs lsM hw hS hl hn)
  · exact hc.elim
theorem g_lshr {cx : Bool} {cap : Nat} {call : Cl} {Φ : Po} {own mn : String} {cc : ByteArray} {nL : Nat} {ret : Option FieldType} {J : Nat → Ct} (A : Act cx cap call Φ own mn cc nL ret J) {pc : Nat}  {c : Ct} (hd : decode cc pc = .ok (.lshr, 1)) (h : LE c (J (pc + 1))) : LE (o_lshr c) (J pc) := by
  obtain ⟨p, l, e, R, s, m, args, below, meth, cd, Q, n0, d, B0, adc, tA, D, sv, xs, L0, ⟨hx, hb, hml, hown, hts, hK, hE, hX, hXB, hB, hAO⟩, ⟨hnm, hRc, hRs, hcap, hRf, hRl, hsv, hcn⟩, hcall, hret, rfl⟩ := A
  intro ls st σ hc H locs lsM hw hS hl hn
  unfold o_lshr at hc
  split at hc
  · exact lv_lshr hx hb hd rfl (h _ _ _ hc H locs lsM hw hS hl hn)
  · exact hc.elim
theorem g_i2l {cx : Bool} {cap : Nat} {call : Cl} {Φ : Po} {own mn : String} {cc : ByteArray} {nL : Nat} {ret : Option FieldType} {J : Nat → Ct} (A : Act cx cap call Φ own mn cc nL ret J) {pc : Nat}  {c : Ct} (hd : decode cc pc = .ok (.i2l, 1)) (h : LE c (J (pc + 1))) : LE (o_i2l c) (J pc) := by
  obtain ⟨p, l, e, R, s, m, args, below, meth, cd, Q, n0, d, B0, adc, tA, D, sv, xs, L0, ⟨hx, hb, hml, hown, hts, hK, hE, hX, hXB, hB, hAO⟩, ⟨hnm, hRc, hRs, hcap, hRf, hRl, hsv, hcn⟩, hcall, hret, rfl⟩ := A
  intro ls st σ hc H locs lsM hw hS hl hn
  unfold o_i2l at hc
  split at hc
  · exact lv_i2l hx hb hd rfl (h _ _ _ hc H locs lsM hw hS hl hn)
  · exact hc.elim
theorem g_l2i {cx : Bool} {cap : Nat} {call : Cl} {Φ : Po} {own mn : String} {cc : ByteArray} {nL : Nat} {ret : Option FieldType} {J : Nat → Ct} (A : Act cx cap call Φ own mn cc nL ret J) {pc : Nat}  {c : Ct} (hd : decode cc pc = .ok (.l2i, 1)) (h : LE c (J (pc + 1))) : LE (o_l2i c) (J pc) := by
  obtain ⟨p, l, e, R, s, m, args, below, meth, cd, Q, n0, d, B0, adc, tA, D, sv, xs, L0, ⟨hx, hb, hml, hown, hts, hK, hE, hX, hXB, hB, hAO⟩, ⟨hnm, hRc, hRs, hcap, hRf, hRl, hsv, hcn⟩, hcall, hret, rfl⟩ := A
  intro ls st σ hc H locs lsM hw hS hl hn
  unfold o_l2i at hc
  split at hc
  · exact lv_l2i hx hb hd rfl (h _ _ _ hc H locs lsM hw hS hl hn)
  · exact hc.elim
theorem g_i2c {cx : Bool} {cap : Nat} {call : Cl} {Φ : Po} {own mn : String} {cc : ByteArray} {nL : Nat} {ret : Option FieldType} {J : Nat → Ct} (A : Act cx cap call Φ own mn cc nL ret J) {pc : Nat}  {c : Ct} (hd : decode cc pc = .ok (.i2c, 1)) (h : LE c (J (pc + 1))) : LE (o_i2c c) (J pc) := by
  obtain ⟨p, l, e, R, s, m, args, below, meth, cd, Q, n0, d, B0, adc, tA, D, sv, xs, L0, ⟨hx, hb, hml, hown, hts, hK, hE, hX, hXB, hB, hAO⟩, ⟨hnm, hRc, hRs, hcap, hRf, hRl, hsv, hcn⟩, hcall, hret, rfl⟩ := A
  intro ls st σ hc H locs lsM hw hS hl hn
  unfold o_i2c at hc
  split at hc
  · exact lv_i2c hx hb hd rfl (h _ _ _ hc H locs lsM hw hS hl hn)
  · exact hc.elim
theorem g_lcmp {cx : Bool} {cap : Nat} {call : Cl} {Φ : Po} {own mn : String} {cc : ByteArray} {nL : Nat} {ret : Option FieldType} {J : Nat → Ct} (A : Act cx cap call Φ own mn cc nL ret J) {pc : Nat}  {c : Ct} (hd : decode cc pc = .ok (.lcmp, 1)) (h : LE c (J (pc + 1))) : LE (o_lcmp c) (J pc) := by
  obtain ⟨p, l, e, R, s, m, args, below, meth, cd, Q, n0, d, B0, adc, tA, D, sv, xs, L0, ⟨hx, hb, hml, hown, hts, hK, hE, hX, hXB, hB, hAO⟩, ⟨hnm, hRc, hRs, hcap, hRf, hRl, hsv, hcn⟩, hcall, hret, rfl⟩ := A
  intro ls st σ hc H locs lsM hw hS hl hn
  unfold o_lcmp at hc
  split at hc
  · exact W.lcmp hx hb hd (h _ _ _ hc H locs lsM hw hS hl hn)
  · exact hc.elim
theorem g_idiv {cx : Bool} {cap : Nat} {call : Cl} {Φ : Po} {own mn : String} {cc : ByteArray} {nL : Nat} {ret : Option FieldType} {J : Nat → Ct} (A : Act cx cap call Φ own mn cc nL ret J) {pc : Nat}  {c : Ct} (hd : decode cc pc = .ok (.idiv, 1)) (h : LE c (J (pc + 1))) : LE (o_idiv c) (J pc) := by
  obtain ⟨p, l, e, R, s, m, args, below, meth, cd, Q, n0, d, B0, adc, tA, D, sv, xs, L0, ⟨hx, hb, hml, hown, hts, hK, hE, hX, hXB, hB, hAO⟩, ⟨hnm, hRc, hRs, hcap, hRf, hRl, hsv, hcn⟩, hcall, hret, rfl⟩ := A
  intro ls st σ hc H locs lsM hw hS hl hn
  unfold o_idiv at hc
  split at hc
  · exact lv_idiv hx hb hd hc.1 (h _ _ _ hc.2 H locs lsM hw hS hl hn)
  · exact hc.elim
theorem g_ldiv {cx : Bool} {cap : Nat} {call : Cl} {Φ : Po} {own mn : String} {cc : ByteArray} {nL : Nat} {ret : Option FieldType} {J : Nat → Ct} (A : Act cx cap call Φ own mn cc nL ret J) {pc : Nat}  {c : Ct} (hd : decode cc pc = .ok (.ldiv, 1)) (h : LE c (J (pc + 1))) : LE (o_ldiv c) (J pc) := by
  obtain ⟨p, l, e, R, s, m, args, below, meth, cd, Q, n0, d, B0, adc, tA, D, sv, xs, L0, ⟨hx, hb, hml, hown, hts, hK, hE, hX, hXB, hB, hAO⟩, ⟨hnm, hRc, hRs, hcap, hRf, hRl, hsv, hcn⟩, hcall, hret, rfl⟩ := A
  intro ls st σ hc H locs lsM hw hS hl hn
  unfold o_ldiv at hc
  split at hc
  · exact lv_ldiv hx hb hd hc.1 (h _ _ _ hc.2 H locs lsM hw hS hl hn)
  · exact hc.elim
theorem irem_eq (x y : Int32) : x - x / y * y = x % y := by
  apply Int32.toInt_inj.mp
  rw [Int32.toInt_sub, Int32.toInt_mul, Int32.toInt_div, ← Int32.toInt_bmod (x % y), Int32.toInt_mod, Int.tmod_def, Int.bmod_mul_bmod, Int.sub_bmod_bmod, Int.mul_comm y.toInt]
theorem lrem_eq (x y : Int64) : x - x / y * y = x % y := by
  apply Int64.toInt_inj.mp
  rw [Int64.toInt_sub, Int64.toInt_mul, Int64.toInt_div, ← Int64.toInt_bmod (x % y), Int64.toInt_mod, Int.tmod_def, Int.bmod_mul_bmod, Int.sub_bmod_bmod, Int.mul_comm y.toInt]
theorem g_irem {cx : Bool} {cap : Nat} {call : Cl} {Φ : Po} {own mn : String} {cc : ByteArray} {nL : Nat} {ret : Option FieldType} {J : Nat → Ct} (A : Act cx cap call Φ own mn cc nL ret J) {pc : Nat}  {c : Ct} (hd : decode cc pc = .ok (.irem, 1)) (h : LE c (J (pc + 1))) : LE (o_irem c) (J pc) := by
  obtain ⟨p, l, e, R, s, m, args, below, meth, cd, Q, n0, d, B0, adc, tA, D, sv, xs, L0, ⟨hx, hb, hml, hown, hts, hK, hE, hX, hXB, hB, hAO⟩, ⟨hnm, hRc, hRs, hcap, hRf, hRl, hsv, hcn⟩, hcall, hret, rfl⟩ := A
  intro ls st σ hc H locs lsM hw hS hl hn
  unfold o_irem at hc
  split at hc
  · exact lv_irem hx hb hd hc.1 (by rw [irem_eq]; exact h _ _ _ hc.2 H locs lsM hw hS hl hn)
  · exact hc.elim
theorem g_lrem {cx : Bool} {cap : Nat} {call : Cl} {Φ : Po} {own mn : String} {cc : ByteArray} {nL : Nat} {ret : Option FieldType} {J : Nat → Ct} (A : Act cx cap call Φ own mn cc nL ret J) {pc : Nat}  {c : Ct} (hd : decode cc pc = .ok (.lrem, 1)) (h : LE c (J (pc + 1))) : LE (o_lrem c) (J pc) := by
  obtain ⟨p, l, e, R, s, m, args, below, meth, cd, Q, n0, d, B0, adc, tA, D, sv, xs, L0, ⟨hx, hb, hml, hown, hts, hK, hE, hX, hXB, hB, hAO⟩, ⟨hnm, hRc, hRs, hcap, hRf, hRl, hsv, hcn⟩, hcall, hret, rfl⟩ := A
  intro ls st σ hc H locs lsM hw hS hl hn
  unfold o_lrem at hc
  split at hc
  · exact lv_lrem hx hb hd hc.1 (by rw [lrem_eq]; exact h _ _ _ hc.2 H locs lsM hw hS hl hn)
  · exact hc.elim
theorem g_ifeq {cx : Bool} {cap : Nat} {call : Cl} {Φ : Po} {own mn : String} {cc : ByteArray} {nL : Nat} {ret : Option FieldType} {J : Nat → Ct} (A : Act cx cap call Φ own mn cc nL ret J) {pc : Nat} {off : Int} {tgt : Nat} {t f : Ct} (hd : decode cc pc = .ok (.ifCond .eq off, 3)) (ht : (pc : Int) + off = (tgt : Int)) (h1 : LE t (J tgt)) (h2 : LE f (J (pc + 3))) : LE (o_ifeq t f) (J pc) := by
  obtain ⟨p, l, e, R, s, m, args, below, meth, cd, Q, n0, d, B0, adc, tA, D, sv, xs, L0, ⟨hx, hb, hml, hown, hts, hK, hE, hX, hXB, hB, hAO⟩, ⟨hnm, hRc, hRs, hcap, hRf, hRl, hsv, hcn⟩, hcall, hret, rfl⟩ := A
  intro ls st σ hc H locs lsM hw hS hl hn
  unfold o_ifeq at hc
  split at hc
  · exact lv_if_eq hx hb hd ht (fun q => by rw [if_pos q] at hc; exact h1 _ _ _ hc H locs lsM hw hS hl hn) (fun q => by rw [if_neg q] at hc; exact h2 _ _ _ hc H locs lsM hw hS hl hn)
  · exact hc.elim
theorem g_iceq {cx : Bool} {cap : Nat} {call : Cl} {Φ : Po} {own mn : String} {cc : ByteArray} {nL : Nat} {ret : Option FieldType} {J : Nat → Ct} (A : Act cx cap call Φ own mn cc nL ret J) {pc : Nat} {off : Int} {tgt : Nat} {t f : Ct} (hd : decode cc pc = .ok (.if_icmp .eq off, 3)) (ht : (pc : Int) + off = (tgt : Int)) (h1 : LE t (J tgt)) (h2 : LE f (J (pc + 3))) : LE (o_iceq t f) (J pc) := by
  obtain ⟨p, l, e, R, s, m, args, below, meth, cd, Q, n0, d, B0, adc, tA, D, sv, xs, L0, ⟨hx, hb, hml, hown, hts, hK, hE, hX, hXB, hB, hAO⟩, ⟨hnm, hRc, hRs, hcap, hRf, hRl, hsv, hcn⟩, hcall, hret, rfl⟩ := A
  intro ls st σ hc H locs lsM hw hS hl hn
  unfold o_iceq at hc
  split at hc
  · exact lv_icmp_eq hx hb hd ht (fun q => by rw [if_pos q] at hc; exact h1 _ _ _ hc H locs lsM hw hS hl hn) (fun q => by rw [if_neg q] at hc; exact h2 _ _ _ hc H locs lsM hw hS hl hn)
  · exact hc.elim
theorem g_ifne {cx : Bool} {cap : Nat} {call : Cl} {Φ : Po} {own mn : String} {cc : ByteArray} {nL : Nat} {ret : Option FieldType} {J : Nat → Ct} (A : Act cx cap call Φ own mn cc nL ret J) {pc : Nat} {off : Int} {tgt : Nat} {t f : Ct} (hd : decode cc pc = .ok (.ifCond .ne off, 3)) (ht : (pc : Int) + off = (tgt : Int)) (h1 : LE t (J tgt)) (h2 : LE f (J (pc + 3))) : LE (o_ifne t f) (J pc) := by
  obtain ⟨p, l, e, R, s, m, args, below, meth, cd, Q, n0, d, B0, adc, tA, D, sv, xs, L0, ⟨hx, hb, hml, hown, hts, hK, hE, hX, hXB, hB, hAO⟩, ⟨hnm, hRc, hRs, hcap, hRf, hRl, hsv, hcn⟩, hcall, hret, rfl⟩ := A
  intro ls st σ hc H locs lsM hw hS hl hn
  unfold o_ifne at hc
  split at hc
  · exact lv_if_ne hx hb hd ht (fun q => by rw [if_neg q] at hc; exact h1 _ _ _ hc H locs lsM hw hS hl hn) (fun q => by rw [if_pos q] at hc; exact h2 _ _ _ hc H locs lsM hw hS hl hn)
  · exact hc.elim
theorem g_icne {cx : Bool} {cap : Nat} {call : Cl} {Φ : Po} {own mn : String} {cc : ByteArray} {nL : Nat} {ret : Option FieldType} {J : Nat → Ct} (A : Act cx cap call Φ own mn cc nL ret J) {pc : Nat} {off : Int} {tgt : Nat} {t f : Ct} (hd : decode cc pc = .ok (.if_icmp .ne off, 3)) (ht : (pc : Int) + off = (tgt : Int)) (h1 : LE t (J tgt)) (h2 : LE f (J (pc + 3))) : LE (o_icne t f) (J pc) := by
  obtain ⟨p, l, e, R, s, m, args, below, meth, cd, Q, n0, d, B0, adc, tA, D, sv, xs, L0, ⟨hx, hb, hml, hown, hts, hK, hE, hX, hXB, hB, hAO⟩, ⟨hnm, hRc, hRs, hcap, hRf, hRl, hsv, hcn⟩, hcall, hret, rfl⟩ := A
  intro ls st σ hc H locs lsM hw hS hl hn
  unfold o_icne at hc
  split at hc
  · exact lv_icmp_ne hx hb hd ht (fun q => by rw [if_neg q] at hc; exact h1 _ _ _ hc H locs lsM hw hS hl hn) (fun q => by rw [if_pos q] at hc; exact h2 _ _ _ hc H locs lsM hw hS hl hn)
  · exact hc.elim
theorem g_iflt {cx : Bool} {cap : Nat} {call : Cl} {Φ : Po} {own mn : String} {cc : ByteArray} {nL : Nat} {ret : Option FieldType} {J : Nat → Ct} (A : Act cx cap call Φ own mn cc nL ret J) {pc : Nat} {off : Int} {tgt : Nat} {t f : Ct} (hd : decode cc pc = .ok (.ifCond .lt off, 3)) (ht : (pc : Int) + off = (tgt : Int)) (h1 : LE t (J tgt)) (h2 : LE f (J (pc + 3))) : LE (o_iflt t f) (J pc) := by
  obtain ⟨p, l, e, R, s, m, args, below, meth, cd, Q, n0, d, B0, adc, tA, D, sv, xs, L0, ⟨hx, hb, hml, hown, hts, hK, hE, hX, hXB, hB, hAO⟩, ⟨hnm, hRc, hRs, hcap, hRf, hRl, hsv, hcn⟩, hcall, hret, rfl⟩ := A
  intro ls st σ hc H locs lsM hw hS hl hn
  unfold o_iflt at hc
  split at hc
  · exact lv_if_lt hx hb hd ht (fun q => by rw [if_pos q] at hc; exact h1 _ _ _ hc H locs lsM hw hS hl hn) (fun q => by rw [if_neg q] at hc; exact h2 _ _ _ hc H locs lsM hw hS hl hn)
  · exact hc.elim
theorem g_iclt {cx : Bool} {cap : Nat} {call : Cl} {Φ : Po} {own mn : String} {cc : ByteArray} {nL : Nat} {ret : Option FieldType} {J : Nat → Ct} (A : Act cx cap call Φ own mn cc nL ret J) {pc : Nat} {off : Int} {tgt : Nat} {t f : Ct} (hd : decode cc pc = .ok (.if_icmp .lt off, 3)) (ht : (pc : Int) + off = (tgt : Int)) (h1 : LE t (J tgt)) (h2 : LE f (J (pc + 3))) : LE (o_iclt t f) (J pc) := by
  obtain ⟨p, l, e, R, s, m, args, below, meth, cd, Q, n0, d, B0, adc, tA, D, sv, xs, L0, ⟨hx, hb, hml, hown, hts, hK, hE, hX, hXB, hB, hAO⟩, ⟨hnm, hRc, hRs, hcap, hRf, hRl, hsv, hcn⟩, hcall, hret, rfl⟩ := A
  intro ls st σ hc H locs lsM hw hS hl hn
  unfold o_iclt at hc
  split at hc
  · exact lv_icmp_lt hx hb hd ht (fun q => by rw [if_pos q] at hc; exact h1 _ _ _ hc H locs lsM hw hS hl hn) (fun q => by rw [if_neg q] at hc; exact h2 _ _ _ hc H locs lsM hw hS hl hn)
  · exact hc.elim
theorem g_ifge {cx : Bool} {cap : Nat} {call : Cl} {Φ : Po} {own mn : String} {cc : ByteArray} {nL : Nat} {ret : Option FieldType} {J : Nat → Ct} (A : Act cx cap call Φ own mn cc nL ret J) {pc : Nat} {off : Int} {tgt : Nat} {t f : Ct} (hd : decode cc pc = .ok (.ifCond .ge off, 3)) (ht : (pc : Int) + off = (tgt : Int)) (h1 : LE t (J tgt)) (h2 : LE f (J (pc + 3))) : LE (o_ifge t f) (J pc) := by
  obtain ⟨p, l, e, R, s, m, args, below, meth, cd, Q, n0, d, B0, adc, tA, D, sv, xs, L0, ⟨hx, hb, hml, hown, hts, hK, hE, hX, hXB, hB, hAO⟩, ⟨hnm, hRc, hRs, hcap, hRf, hRl, hsv, hcn⟩, hcall, hret, rfl⟩ := A
  intro ls st σ hc H locs lsM hw hS hl hn
  unfold o_ifge at hc
  split at hc
  · exact lv_if_ge hx hb hd ht (fun q => by rw [if_pos q] at hc; exact h1 _ _ _ hc H locs lsM hw hS hl hn) (fun q => by rw [if_neg q] at hc; exact h2 _ _ _ hc H locs lsM hw hS hl hn)
  · exact hc.elim
theorem g_icge {cx : Bool} {cap : Nat} {call : Cl} {Φ : Po} {own mn : String} {cc : ByteArray} {nL : Nat} {ret : Option FieldType} {J : Nat → Ct} (A : Act cx cap call Φ own mn cc nL ret J) {pc : Nat} {off : Int} {tgt : Nat} {t f : Ct} (hd : decode cc pc = .ok (.if_icmp .ge off, 3)) (ht : (pc : Int) + off = (tgt : Int)) (h1 : LE t (J tgt)) (h2 : LE f (J (pc + 3))) : LE (o_icge t f) (J pc) := by
  obtain ⟨p, l, e, R, s, m, args, below, meth, cd, Q, n0, d, B0, adc, tA, D, sv, xs, L0, ⟨hx, hb, hml, hown, hts, hK, hE, hX, hXB, hB, hAO⟩, ⟨hnm, hRc, hRs, hcap, hRf, hRl, hsv, hcn⟩, hcall, hret, rfl⟩ := A
  intro ls st σ hc H locs lsM hw hS hl hn
  unfold o_icge at hc
  split at hc
  · exact lv_icmp_ge hx hb hd ht (fun q => by rw [if_pos q] at hc; exact h1 _ _ _ hc H locs lsM hw hS hl hn) (fun q => by rw [if_neg q] at hc; exact h2 _ _ _ hc H locs lsM hw hS hl hn)
  · exact hc.elim
theorem g_ifgt {cx : Bool} {cap : Nat} {call : Cl} {Φ : Po} {own mn : String} {cc : ByteArray} {nL : Nat} {ret : Option FieldType} {J : Nat → Ct} (A : Act cx cap call Φ own mn cc nL ret J) {pc : Nat} {off : Int} {tgt : Nat} {t f : Ct} (hd : decode cc pc = .ok (.ifCond .gt off, 3)) (ht : (pc : Int) + off = (tgt : Int)) (h1 : LE t (J tgt)) (h2 : LE f (J (pc + 3))) : LE (o_ifgt t f) (J pc) := by
  obtain ⟨p, l, e, R, s, m, args, below, meth, cd, Q, n0, d, B0, adc, tA, D, sv, xs, L0, ⟨hx, hb, hml, hown, hts, hK, hE, hX, hXB, hB, hAO⟩, ⟨hnm, hRc, hRs, hcap, hRf, hRl, hsv, hcn⟩, hcall, hret, rfl⟩ := A
  intro ls st σ hc H locs lsM hw hS hl hn
  unfold o_ifgt at hc
  split at hc
  · exact lv_if_gt hx hb hd ht (fun q => by rw [if_pos q] at hc; exact h1 _ _ _ hc H locs lsM hw hS hl hn) (fun q => by rw [if_neg q] at hc; exact h2 _ _ _ hc H locs lsM hw hS hl hn)
  · exact hc.elim
theorem g_icgt {cx : Bool} {cap : Nat} {call : Cl} {Φ : Po} {own mn : String} {cc : ByteArray} {nL : Nat} {ret : Option FieldType} {J : Nat → Ct} (A : Act cx cap call Φ own mn cc nL ret J) {pc : Nat} {off : Int} {tgt : Nat} {t f : Ct} (hd : decode cc pc = .ok (.if_icmp .gt off, 3)) (ht : (pc : Int) + off = (tgt : Int)) (h1 : LE t (J tgt)) (h2 : LE f (J (pc + 3))) : LE (o_icgt t f) (J pc) := by
  obtain ⟨p, l, e, R, s, m, args, below, meth, cd, Q, n0, d, B0, adc, tA, D, sv, xs, L0, ⟨hx, hb, hml, hown, hts, hK, hE, hX, hXB, hB, hAO⟩, ⟨hnm, hRc, hRs, hcap, hRf, hRl, hsv, hcn⟩, hcall, hret, rfl⟩ := A
  intro ls st σ hc H locs lsM hw hS hl hn
  unfold o_icgt at hc
  split at hc
  · exact lv_icmp_gt hx hb hd ht (fun q => by rw [if_pos q] at hc; exact h1 _ _ _ hc H locs lsM hw hS hl hn) (fun q => by rw [if_neg q] at hc; exact h2 _ _ _ hc H locs lsM hw hS hl hn)
  · exact hc.elim
theorem g_ifle {cx : Bool} {cap : Nat} {call : Cl} {Φ : Po} {own mn : String} {cc : ByteArray} {nL : Nat} {ret : Option FieldType} {J : Nat → Ct} (A : Act cx cap call Φ own mn cc nL ret J) {pc : Nat} {off : Int} {tgt : Nat} {t f : Ct} (hd : decode cc pc = .ok (.ifCond .le off, 3)) (ht : (pc : Int) + off = (tgt : Int)) (h1 : LE t (J tgt)) (h2 : LE f (J (pc + 3))) : LE (o_ifle t f) (J pc) := by
  obtain ⟨p, l, e, R, s, m, args, below, meth, cd, Q, n0, d, B0, adc, tA, D, sv, xs, L0, ⟨hx, hb, hml, hown, hts, hK, hE, hX, hXB, hB, hAO⟩, ⟨hnm, hRc, hRs, hcap, hRf, hRl, hsv, hcn⟩, hcall, hret, rfl⟩ := A
  intro ls st σ hc H locs lsM hw hS hl hn
  unfold o_ifle at hc
  split at hc
  · exact lv_if_le hx hb hd ht (fun q => by rw [if_pos q] at hc; exact h1 _ _ _ hc H locs lsM hw hS hl hn) (fun q => by rw [if_neg q] at hc; exact h2 _ _ _ hc H locs lsM hw hS hl hn)
  · exact hc.elim
theorem g_icle {cx : Bool} {cap : Nat} {call : Cl} {Φ : Po} {own mn : String} {cc : ByteArray} {nL : Nat} {ret : Option FieldType} {J : Nat → Ct} (A : Act cx cap call Φ own mn cc nL ret J) {pc : Nat} {off : Int} {tgt : Nat} {t f : Ct} (hd : decode cc pc = .ok (.if_icmp .le off, 3)) (ht : (pc : Int) + off = (tgt : Int)) (h1 : LE t (J tgt)) (h2 : LE f (J (pc + 3))) : LE (o_icle t f) (J pc) := by
  obtain ⟨p, l, e, R, s, m, args, below, meth, cd, Q, n0, d, B0, adc, tA, D, sv, xs, L0, ⟨hx, hb, hml, hown, hts, hK, hE, hX, hXB, hB, hAO⟩, ⟨hnm, hRc, hRs, hcap, hRf, hRl, hsv, hcn⟩, hcall, hret, rfl⟩ := A
  intro ls st σ hc H locs lsM hw hS hl hn
  unfold o_icle at hc
  split at hc
  · exact lv_icmp_le hx hb hd ht (fun q => by rw [if_pos q] at hc; exact h1 _ _ _ hc H locs lsM hw hS hl hn) (fun q => by rw [if_neg q] at hc; exact h2 _ _ _ hc H locs lsM hw hS hl hn)
  · exact hc.elim
theorem g_goto {cx : Bool} {cap : Nat} {call : Cl} {Φ : Po} {own mn : String} {cc : ByteArray} {nL : Nat} {ret : Option FieldType} {J : Nat → Ct} (A : Act cx cap call Φ own mn cc nL ret J) {pc : Nat} {off : Int} {tgt : Nat} {c : Ct} (hd : decode cc pc = .ok (.goto off, 3)) (ht : (pc : Int) + off = (tgt : Int)) (h : LE c (J tgt)) : LE c (J pc) := by
  obtain ⟨p, l, e, R, s, m, args, below, meth, cd, Q, n0, d, B0, adc, tA, D, sv, xs, L0, ⟨hx, hb, hml, hown, hts, hK, hE, hX, hXB, hB, hAO⟩, ⟨hnm, hRc, hRs, hcap, hRf, hRl, hsv, hcn⟩, hcall, hret, rfl⟩ := A
  intro ls st σ hc H locs lsM hw hS hl hn
  exact lv_goto hx hb hd ht (h _ _ _ hc H locs lsM hw hS hl hn)
theorem g_no {c : Ct} : LE o_no c := fun _ _ _ h => h.elim
theorem wB_lt {a : Nat} (h : wB a = true) : 90000 ≤ a ∧ a < 90042 := by
  obtain ⟨h1, h2⟩ := and2 h
  have h3 : Nat.ble (a + 1) 90042 = true := h2
  have h1 := Nat.le_of_ble_eq_true h1
  have h3 := Nat.le_of_ble_eq_true h3
  omega
theorem wB_inj {B0 : Nat} {adc : Nat → Nat} {sv : Value} {U : State} {H : Heap} (hE : EnvOK B0 (adr B0 adc) sv U H) {x y : Nat} (hx : wB x = true) (hy : wB y = true) (h : rr (adr B0 adc) x = rr (adr B0 adc) y) : x = y := by
  have h1 := wB_lt hx
  have h2 := wB_lt hy
  have hN : NUL = 99999 := rfl
  unfold rr at h
  rw [if_neg (by omega), if_neg (by omega)] at h
  have hinj := hE.1.2 (x - 90000) (y - 90000)
  have hl : wordNm.length = 42 := by decide +kernel
  rw [hl] at hinj
  have h3 := hinj (by omega) (by omega)
  dsimp only at h3
  rw [show 90000 + (x - 90000) = x by omega, show 90000 + (y - 90000) = y by omega] at h3
  have h4 := h3 (Option.some.inj h)
  omega
theorem g_aceq {cx : Bool} {cap : Nat} {call : Cl} {Φ : Po} {own mn : String} {cc : ByteArray} {nL : Nat} {ret : Option FieldType} {J : Nat → Ct} (A : Act cx cap call Φ own mn cc nL ret J) {pc : Nat} {off : Int} {tgt : Nat} {t f : Ct} (hd : decode cc pc = .ok (.if_acmp .eq off, 3)) (ht : (pc : Int) + off = (tgt : Int)) (h1 : LE t (J tgt)) (h2 : LE f (J (pc + 3))) : LE (o_aceq t f) (J pc) := by
  obtain ⟨p, l, e, R, s, m, args, below, meth, cd, Q, n0, d, B0, adc, tA, D, sv, xs, L0, ⟨hx, hb, hml, hown, hts, hK, hE, hX, hXB, hB, hAO⟩, ⟨hnm, hRc, hRs, hcap, hRf, hRl, hsv, hcn⟩, hcall, hret, rfl⟩ := A
  intro ls st σ hc H locs lsM hw hS hl hn
  unfold o_aceq at hc
  split at hc
  · rename_i y x r
    obtain ⟨hy, hc⟩ := cnd hc
    obtain ⟨hx2, hc⟩ := cnd hc
    have he := wB_inj hE hx2 hy
    refine lv_acmp_eq hx hb hd ht (fun q => ?_) (fun q => ?_)
    · rw [if_pos (he q)] at hc; exact h1 _ _ _ hc H locs lsM hw hS hl hn
    · rw [if_neg (fun z => q (by rw [z]))] at hc; exact h2 _ _ _ hc H locs lsM hw hS hl hn
  · exact hc.elim
theorem g_acne {cx : Bool} {cap : Nat} {call : Cl} {Φ : Po} {own mn : String} {cc : ByteArray} {nL : Nat} {ret : Option FieldType} {J : Nat → Ct} (A : Act cx cap call Φ own mn cc nL ret J) {pc : Nat} {off : Int} {tgt : Nat} {t f : Ct} (hd : decode cc pc = .ok (.if_acmp .ne off, 3)) (ht : (pc : Int) + off = (tgt : Int)) (h1 : LE t (J tgt)) (h2 : LE f (J (pc + 3))) : LE (o_acne t f) (J pc) := by
  obtain ⟨p, l, e, R, s, m, args, below, meth, cd, Q, n0, d, B0, adc, tA, D, sv, xs, L0, ⟨hx, hb, hml, hown, hts, hK, hE, hX, hXB, hB, hAO⟩, ⟨hnm, hRc, hRs, hcap, hRf, hRl, hsv, hcn⟩, hcall, hret, rfl⟩ := A
  intro ls st σ hc H locs lsM hw hS hl hn
  unfold o_acne at hc
  split at hc
  · rename_i y x r
    obtain ⟨hy, hc⟩ := cnd hc
    obtain ⟨hx2, hc⟩ := cnd hc
    have he := wB_inj hE hx2 hy
    refine lv_acmp_ne hx hb hd ht (fun q => ?_) (fun q => ?_)
    · rw [if_neg (fun z => q (by rw [z]))] at hc; exact h1 _ _ _ hc H locs lsM hw hS hl hn
    · rw [if_pos (he q)] at hc; exact h2 _ _ _ hc H locs lsM hw hS hl hn
  · exact hc.elim
theorem g_ifnull {cx : Bool} {cap : Nat} {call : Cl} {Φ : Po} {own mn : String} {cc : ByteArray} {nL : Nat} {ret : Option FieldType} {J : Nat → Ct} (A : Act cx cap call Φ own mn cc nL ret J) {pc : Nat} {off : Int} {tgt : Nat} {t f : Ct} (hd : decode cc pc = .ok (.ifnull off, 3)) (ht : (pc : Int) + off = (tgt : Int)) (h1 : LE t (J tgt)) (h2 : LE f (J (pc + 3))) : LE (o_ifnull t f) (J pc) := by
  obtain ⟨p, l, e, R, s, m, args, below, meth, cd, Q, n0, d, B0, adc, tA, D, sv, xs, L0, ⟨hx, hb, hml, hown, hts, hK, hE, hX, hXB, hB, hAO⟩, ⟨hnm, hRc, hRs, hcap, hRf, hRl, hsv, hcn⟩, hcall, hret, rfl⟩ := A
  intro ls st σ hc H locs lsM hw hS hl hn
  unfold o_ifnull at hc
  split at hc
  · rename_i x r
    show W p l e R s m args below meth cd H locs (nxx cx σ - n0) (szs (nxx cx σ) - szs n0) Q (F0 m pc lsM (va_rf (rr (adr B0 adc) x) :: r.map (vmp (adr B0 adc) sv)))
    by_cases hxn : x = NUL
    · rw [if_pos hxn] at hc
      unfold rr
      rw [if_pos hxn]
      exact lv_ifnullN hx hb hd ht (h1 _ _ _ hc H locs lsM hw hS hl hn)
    · rw [if_neg hxn] at hc
      unfold rr
      rw [if_neg hxn]
      exact lv_ifnull hx hb hd (h2 _ _ _ hc H locs lsM hw hS hl hn)
  · exact hc.elim
theorem g_ifnn {cx : Bool} {cap : Nat} {call : Cl} {Φ : Po} {own mn : String} {cc : ByteArray} {nL : Nat} {ret : Option FieldType} {J : Nat → Ct} (A : Act cx cap call Φ own mn cc nL ret J) {pc : Nat} {off : Int} {tgt : Nat} {t f : Ct} (hd : decode cc pc = .ok (.ifnonnull off, 3)) (ht : (pc : Int) + off = (tgt : Int)) (h1 : LE t (J tgt)) (h2 : LE f (J (pc + 3))) : LE (o_ifnn t f) (J pc) := by
  obtain ⟨p, l, e, R, s, m, args, below, meth, cd, Q, n0, d, B0, adc, tA, D, sv, xs, L0, ⟨hx, hb, hml, hown, hts, hK, hE, hX, hXB, hB, hAO⟩, ⟨hnm, hRc, hRs, hcap, hRf, hRl, hsv, hcn⟩, hcall, hret, rfl⟩ := A
  intro ls st σ hc H locs lsM hw hS hl hn
  unfold o_ifnn at hc
  split at hc
  · rename_i x r
    show W p l e R s m args below meth cd H locs (nxx cx σ - n0) (szs (nxx cx σ) - szs n0) Q (F0 m pc lsM (va_rf (rr (adr B0 adc) x) :: r.map (vmp (adr B0 adc) sv)))
    by_cases hxn : x = NUL
    · rw [if_pos hxn] at hc
      unfold rr
      rw [if_pos hxn]
      exact lv_ifnonnullN hx hb hd (h2 _ _ _ hc H locs lsM hw hS hl hn)
    · rw [if_neg hxn] at hc
      unfold rr
      rw [if_neg hxn]
      exact lv_ifnonnull hx hb hd ht (h1 _ _ _ hc H locs lsM hw hS hl hn)
  · exact hc.elim
theorem tswL_or (x : Int32) (d : Ct) (ls r : List Value) (σ : Sg) : ∀ (ts : List Ct) (j : Int), tswL x j ts d ls r σ → (∃ (i : Nat) (t : Ct), ts[i]? = some t ∧ x.toInt = j + i ∧ t ls r σ) ∨ ((x.toInt < j ∨ j + ts.length ≤ x.toInt) ∧ d ls r σ)
  | [], j, h => Or.inr ⟨by simp; omega, h⟩
  | t :: ts, j, h => by
    have h : (if x.toInt = j then t ls r σ else tswL x (j + 1) ts d ls r σ) := h
    by_cases e : x.toInt = j
    · rw [if_pos e] at h
      exact Or.inl ⟨0, t, rfl, by simp [e], h⟩
    · rw [if_neg e] at h
      rcases tswL_or x d ls r σ ts (j + 1) h with ⟨i, t', h1, h2, h3⟩ | ⟨h1, h2⟩
      · exact Or.inl ⟨i + 1, t', by simpa using h1, by rw [h2]; push_cast; omega, h3⟩
      · refine Or.inr ⟨?_, h2⟩
        simp only [List.length_cons]
        push_cast
        omega
theorem g_tsw {cx : Bool} {cap : Nat} {call : Cl} {Φ : Po} {own mn : String} {cc : ByteArray} {nL : Nat} {ret : Option FieldType} {J : Nat → Ct} (A : Act cx cap call Φ own mn cc nL ret J) {pc : Nat} {dflt lo hi : Int} {offs : Array Int} {len td : Nat} {ts : List Ct} {dc : Ct} (hd : decode cc pc = .ok (.tableswitch dflt lo hi offs, len)) (hn2 : hi = lo + ts.length - 1) (ho : ∀ (i : Nat) (t : Ct), ts[i]? = some t → ∃ (off : Int) (tgt : Nat), offs[i]? = some off ∧ (pc : Int) + off = (tgt : Int) ∧ LE t (J tgt)) (ht : (pc : Int) + dflt = (td : Int)) (hdd : LE dc (J td)) : LE (o_tsw lo ts dc) (J pc) := by
  obtain ⟨p, l, e, R, s, m, args, below, meth, cd, Q, n0, d, B0, adc, tA, D, sv, xs, L0, ⟨hx, hb, hml, hown, hts, hK, hE, hX, hXB, hB, hAO⟩, ⟨hnm, hRc, hRs, hcap, hRf, hRl, hsv, hcn⟩, hcall, hret, rfl⟩ := A
  intro ls st σ hc H locs lsM hw hS hl hn
  unfold o_tsw at hc
  split at hc
  · rename_i x r
    rcases tswL_or x dc ls r σ ts lo hc with ⟨i, t, h1, h2, h3⟩ | ⟨h1, h2⟩
    · obtain ⟨off, tgt, g1, g2, g3⟩ := ho i t h1
      have hi : i < ts.length := (List.getElem?_eq_some_iff.mp h1).1
      exact lv_tableIn hx hb hd (by omega) (by omega) (by rw [h2]; rw [show (lo + (i : Int) - lo).toNat = i by omega]; exact g1) g2 (g3 _ _ _ h3 H locs lsM hw hS hl hn)
    · exact lv_tableOut hx hb hd (by omega) ht (hdd _ _ _ h2 H locs lsM hw hS hl hn)
  · exact hc.elim
