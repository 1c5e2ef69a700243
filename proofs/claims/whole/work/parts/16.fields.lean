/-! fields, arrays, statics, answers -/
/-- a field's link: class ci, its k-th field -/
def FL (own : String) (ix ci k : Nat) : Prop := ∃ C T N, cls[ci]? = some (C, T, N) ∧ ci ≠ 8 ∧ k < N ∧ Cond.fieldLink own ix C (T k).2.1 (T k).2.2.1 ∈ gtb
theorem getf {p : Program} {l : Launch} {e : Env} {R : Room} {s : State} {m : MethodId} {args : Array Value} {below : List Frame} {meth : Method} {cd : Code} {Q : State → Prop} {cx : Bool} {B0 : Nat} {adc : Nat → Nat} {tA : Nat → ClassId} {D : va_G} {own : String} {cc : ByteArray} {H : Heap} {locs : List Loc} {cells slots : Nat} {σ : Sg} {lsM : Array Slot} {rest : List Value}
    (hx : p.tables.exec = Jvm.exec) (hb : cd.code = cc) (hown : s.vm.findClass own = some m.cls) (hts : ∀ w ∈ gtb, w.before args s = true) (hK : va_K D cls (tyl tA) s) (hP : va_P D cls (wsO (adr B0 adc) tA cx σ) H) {pc ix ci k kd a : Nat} (hd : decode cc pc = .ok (.getfield ix, 3)) (hf : FL own ix ci k) (hkd : (flk ci)[k]? = some kd) (hg : (isO ci a && lvx cx σ a) = true)
    (kk : W p l e R s m args below meth cd H locs cells slots Q (F0 m (pc + 3) lsM (entF (adr B0 adc) cx σ a k kd :: rest))) : W p l e R s m args below meth cd H locs cells slots Q (F0 m pc lsM (va_rf (rr (adr B0 adc) a) :: rest)) := by
  obtain ⟨C, T, N, hc, h8, hk, hlk⟩ := hf
  obtain ⟨ty0, -, -, hin, -, -, hself, -, -⟩ := clsF hc h8
  obtain ⟨g1, g2⟩ := and2 hg
  have hs := isO_eq g1
  obtain ⟨hlt, hlt2⟩ := live g2 hs (by decide) (by decide)
  have hN : NUL = 99999 := rfl
  have hNO : NOB = 137 := rfl
  have e1 : rr (adr B0 adc) a = some (adr B0 adc a) := by unfold rr; rw [if_neg (by omega)]
  rw [e1]
  have he := wsO_at (ad := adr B0 adc) (tA := tA) hlt
  have hent : ent (adr B0 adc) tA cx σ a = .inr (ci, entL (adr B0 adc) cx σ a 0 (flk ci)) := by unfold ent; rw [hs]; rfl
  rw [hent] at he
  have hv := entL_get (adr B0 adc) cx σ a (flk ci) 0 k kd hkd
  rw [Nat.zero_add] at hv
  exact va_get hx hb hts hin hown hK hP a he hc k hk (hts _ hlk) (fun x hx => by rw [hself k hk] at hx; exact hx) hv hd kk

theorem g_gfi {cx : Bool} {cap : Nat} {call : Cl} {Φ : Po} {own mn : String} {cc : ByteArray} {nL : Nat} {ret : Option FieldType} {J : Nat → Ct} (A : Act cx cap call Φ own mn cc nL ret J) {pc : Nat} {ix ci k kd : Nat} {c : Ct} (hd : decode cc pc = .ok (.getfield ix, 3)) (hf : FL own ix ci k) (hkd : (flk ci)[k]? = some kd) (hk3 : kd = 0 ∨ kd = 3) (h : LE c (J (pc + 3))) : LE (o_gfi cx ci k c) (J pc) := by
  obtain ⟨p, l, e, R, s, m, args, below, meth, cd, Q, n0, d, B0, adc, tA, D, sv, xs, L0, ⟨hx, hb, hml, hown, hts, hK, hE, hX, hXB, hB, hAO⟩, ⟨hnm, hRc, hRs, hcap, hRf, hRl, hsv, hcn⟩, hcall, hret, rfl⟩ := A
  intro ls st σ hc H locs lsM hw hS hl hn
  unfold o_gfi at hc
  split at hc
  · rename_i a r
    obtain ⟨hg, hc⟩ := cnd hc
    refine getf hx hb hown hts hK hw.2.1 hd hf hkd hg ?_
    rcases hk3 with rfl | rfl <;> exact h _ _ _ hc H locs lsM hw hS hl hn
  · exact hc.elim
theorem g_gfl {cx : Bool} {cap : Nat} {call : Cl} {Φ : Po} {own mn : String} {cc : ByteArray} {nL : Nat} {ret : Option FieldType} {J : Nat → Ct} (A : Act cx cap call Φ own mn cc nL ret J) {pc : Nat} {ix ci k : Nat} {c : Ct} (hd : decode cc pc = .ok (.getfield ix, 3)) (hf : FL own ix ci k) (hkd : (flk ci)[k]? = some 1) (h : LE c (J (pc + 3))) : LE (o_gfl cx ci k c) (J pc) := by
  obtain ⟨p, l, e, R, s, m, args, below, meth, cd, Q, n0, d, B0, adc, tA, D, sv, xs, L0, ⟨hx, hb, hml, hown, hts, hK, hE, hX, hXB, hB, hAO⟩, ⟨hnm, hRc, hRs, hcap, hRf, hRl, hsv, hcn⟩, hcall, hret, rfl⟩ := A
  intro ls st σ hc H locs lsM hw hS hl hn
  unfold o_gfl at hc
  split at hc
  · rename_i a r
    obtain ⟨hg, hc⟩ := cnd hc
    refine getf hx hb hown hts hK hw.2.1 hd hf hkd hg ?_
    exact h _ _ _ hc H locs lsM hw hS hl hn
  · exact hc.elim
theorem g_gfr {cx : Bool} {cap : Nat} {call : Cl} {Φ : Po} {own mn : String} {cc : ByteArray} {nL : Nat} {ret : Option FieldType} {J : Nat → Ct} (A : Act cx cap call Φ own mn cc nL ret J) {pc : Nat} {ix ci k : Nat} {c : Ct} (hd : decode cc pc = .ok (.getfield ix, 3)) (hf : FL own ix ci k) (hkd : (flk ci)[k]? = some 2) (h : LE c (J (pc + 3))) : LE (o_gfr cx ci k c) (J pc) := by
  obtain ⟨p, l, e, R, s, m, args, below, meth, cd, Q, n0, d, B0, adc, tA, D, sv, xs, L0, ⟨hx, hb, hml, hown, hts, hK, hE, hX, hXB, hB, hAO⟩, ⟨hnm, hRc, hRs, hcap, hRf, hRl, hsv, hcn⟩, hcall, hret, rfl⟩ := A
  intro ls st σ hc H locs lsM hw hS hl hn
  unfold o_gfr at hc
  split at hc
  · rename_i a r
    obtain ⟨hg, hc⟩ := cnd hc
    refine getf hx hb hown hts hK hw.2.1 hd hf hkd hg ?_
    exact h _ _ _ hc H locs lsM hw hS hl hn
  · exact hc.elim
theorem putf {p : Program} {l : Launch} {e : Env} {R : Room} {s : State} {m : MethodId} {args : Array Value} {below : List Frame} {meth : Method} {cd : Code} {Q : State → Prop} {cx : Bool} {B0 : Nat} {adc : Nat → Nat} {tA : Nat → ClassId} {D : va_G} {own mn : String} {cc : ByteArray} {H : Heap} {locs : List Loc} {cells slots : Nat} {σ σ' : Sg} {lsM : Array Slot} {rest : List Value} {v : Value} {xs : Nat → Int32} {L0 : Nat}
    (hx : p.tables.exec = Jvm.exec) (hb : cd.code = cc) (hown : s.vm.findClass own = some m.cls) (hts : ∀ w ∈ gtb, w.before args s = true) (hK : va_K D cls (tyl tA) s) (hw : Wld cx B0 adc tA D xs L0 σ H) (hS : va_S (Af B0) s.heap H locs) (hnm : mn = "<init>" → meth.name = mn) {pc ix ci k kd a : Nat} (hd : decode cc pc = .ok (.putfield ix, 3)) (hf : FL own ix ci k) (hkd : (flk ci)[k]? = some kd) (hg : (isO ci a && lvx cx σ a) = true)
    (hfn : ∀ C T N, cls[ci]? = some (C, T, N) → (T k).2.2.2 = false ∨ (mn = "<init>" ∧ C = own))
    (hv : ∀ ty, kdOf ty = kd → narrow ty v = v ∧ fits ty v = true) (hnx : nxx cx σ' = nxx cx σ) (hnx2 : nx σ' = nx σ) (hent2 : ent (adr B0 adc) tA cx σ' a = .inr (ci, (entL (adr B0 adc) cx σ a 0 (flk ci)).set k v)) (ho : ∀ b, b ≠ a → ent (adr B0 adc) tA cx σ' b = ent (adr B0 adc) tA cx σ b) (hscr : (∀ k, gI σ' SCR k = gI σ SCR k) ∧ ln σ' = ln σ)
    (kk : ∀ (H1 : Heap) (locs1 : List Loc), Wld cx B0 adc tA D xs L0 σ' H1 → va_S (Af B0) s.heap H1 locs1 → W p l e R s m args below meth cd H1 locs1 cells slots Q (F0 m (pc + 3) lsM rest)) : W p l e R s m args below meth cd H locs cells slots Q (F0 m pc lsM (v :: va_rf (rr (adr B0 adc) a) :: rest)) := by
  obtain ⟨C, T, N, hc, h8, hk, hlk⟩ := hf
  have hfin := hfn C T N hc
  obtain ⟨ty0, hty, hnm2, hin, hlen, hkds, hself, -, -⟩ := clsF hc h8
  obtain ⟨hw1, hP, hw3, hw4⟩ := hw
  obtain ⟨g1, g2⟩ := and2 hg
  have hs := isO_eq g1
  obtain ⟨hlt, hlt2⟩ := live g2 hs (by decide) (by decide)
  have hN : NUL = 99999 := rfl
  have hNO : NOB = 137 := rfl
  have e1 : rr (adr B0 adc) a = some (adr B0 adc a) := by unfold rr; rw [if_neg (by omega)]
  rw [e1]
  have he := wsO_at (ad := adr B0 adc) (tA := tA) hlt
  have hent : ent (adr B0 adc) tA cx σ a = .inr (ci, entL (adr B0 adc) cx σ a 0 (flk ci)) := by unfold ent; rw [hs]; rfl
  rw [hent] at he
  have hap := va_apart (own := own) hts hin ty0 hty hnm2 hK hc
  have hD := wsO_D (B0 := B0) (adc := adc) (tA := tA) (cx := cx) (σ := σ) hw4
  obtain ⟨r, h1, cell, q1, q2, q3, q4⟩ := hP a _ he
  have hr : r = (C, T, N) := Option.some.inj (h1.symm.trans hc)
  subst hr
  obtain ⟨hSl, hfc, kC, hkC, hkind⟩ := hK.1 ci _ hc
  obtain ⟨cf, kf, fi, f, hi, hsl⟩ := hSl k hk
  have hlay := hts _ (hin _ (u_in_lay hk))
  have hst := (u_facts hfc hkC (u_lays hts hin hk) hi).1
  have hkd2 : kdOf (ty0 k) = kd := by
    rw [← hkds k hk, List.getD_eq_getElem?_getD, hkd]
    rfl
  obtain ⟨hn, hfit⟩ := hv (ty0 k) hkd2
  have hi2 : s.fieldFound? C (T k).2.1 (T k).2.2.1 = some (cf, kf, fi, f) := by rw [hself k hk] at hi; exact hi
  have hkl : k < (entL (adr B0 adc) cx σ a 0 (flk ci)).length := by rw [entL_len, hlen]; exact hk
  have fin : ∀ H' : Heap, H'[adr B0 adc a]? = some (cell.setSlot f.slot v) → H'.size = H.size → (∀ q, q ≠ adr B0 adc a → H'[q]? = H[q]?) → W p l e R s m args below meth cd H' (locs ++ [⟨adr B0 adc a, f.slot⟩]) cells slots Q (F0 m (pc + 3) lsM rest) := by
    intro H' e1 e2 e3
    rw [hsl] at e1 ⊢
    have hP' := hP.set hD he (e := .inr (ci, (entL (adr B0 adc) cx σ a 0 (flk ci)).set k v)) ⟨_, hc, t_OB.to (V := updV (vp_V (entL (adr B0 adc) cx σ a 0 (flk ci))) k v) ⟨_, e1, q2, q3, t_set q4 hap hk v⟩ (fun j _ => vp_updV_set hkl v j)⟩ e3
    rw [wsO_set hnx hent2 ho] at hP'
    exact kk H' _ ⟨fun z => by rw [e2, hw1 z, hnx2], hP', ⟨fun k => by rw [hscr.1]; exact hw3.1 k, by rw [hscr.2]; exact hw3.2⟩, by rw [hnx]; exact hw4⟩ (hS.put e2 e3 (hD.2 a _ he))
  by_cases hf2 : (T k).2.2.2 = true
  · have hfin2 : mn = "<init>" ∧ C = own := by
      rcases hfin with h | h
      · rw [hf2] at h; cases h
      · exact h
    unfold u_lay at hlay
    rw [if_pos hf2] at hlay
    have hcf : m.cls = cf := by
      obtain ⟨_, _, c', _, _, _, -, -, hf', -, -, -, hown2, -⟩ := Cond.laysFinal_spec hlay
      have e1 : c' = cf := by have := hi.symm.trans hf'; simp at this; exact this.1.symm
      rw [hself k hk, hfin2.2] at hown2
      rw [← e1]; exact Option.some.inj (hown.symm.trans hown2)
    have h6 := u_fits hfc hkC hkind (Or.inr hlay) hi (hty k hk) hn hfit
    exact W.putFinK hx hb hown (hts _ hlk) hi2 hst hcf (by rw [hnm hfin2.1]; exact hfin2.1) (by rw [q2]; exact h6) q1 q3 (by rw [hsl]; exact k2_hasslot (q4 k hk)) rfl rfl hd fin
  · have hf3 : (T k).2.2.2 = false := by simpa using hf2
    unfold u_lay at hlay
    rw [if_neg hf2] at hlay
    have h6 := u_store hfc hkC hkind hlay hi (hty k hk) hn hfit
    exact W.putK hx hb (f := f) ⟨hown, hts _ hlk, ⟨_, _, _, hi2⟩, hst⟩ (by rw [q2]; exact h6) q1 q3 (by rw [hsl]; exact k2_hasslot (q4 k hk)) rfl rfl hd fin
theorem ent_obj {ad : Nat → Nat} {tA : Nat → ClassId} {cx : Bool} {σ : Sg} {a ci : Nat} (h : shp a = (1, ci)) : ent ad tA cx σ a = .inr (ci, entL ad cx σ a 0 (flk ci)) := by unfold ent; rw [h]; rfl
theorem SCR_ne {a : Nat} (h : a < NOB) : SCR ≠ a := by
  have h1 : SCR = 95000 := rfl
  have h2 : NOB = 137 := rfl
  omega
theorem nxx_of {cx : Bool} {σ σ' : Sg} (h : nx σ' = nx σ) : nxx cx σ' = nxx cx σ := by unfold nxx; rw [h]

theorem g_pfi {cx : Bool} {cap : Nat} {call : Cl} {Φ : Po} {own mn : String} {cc : ByteArray} {nL : Nat} {ret : Option FieldType} {J : Nat → Ct} (A : Act cx cap call Φ own mn cc nL ret J) {pc : Nat} {ix ci k : Nat} {c : Ct} (hd : decode cc pc = .ok (.putfield ix, 3)) (hf : FL own ix ci k) (hkd : (flk ci)[k]? = some 0) (hfn : ∀ C T N, cls[ci]? = some (C, T, N) → (T k).2.2.2 = false ∨ (mn = "<init>" ∧ C = own)) (h : LE c (J (pc + 3))) : LE (o_pfi cx ci k c) (J pc) := by
  obtain ⟨p, l, e, R, s, m, args, below, meth, cd, Q, n0, d, B0, adc, tA, D, sv, xs, L0, ⟨hx, hb, hml, hown, hts, hK, hE, hX, hXB, hB, hAO⟩, ⟨hnm, hRc, hRs, hcap, hRf, hRl, hsv, hcn⟩, hcall, hret, rfl⟩ := A
  intro ls st σ hc H locs lsM hw hS hl hn
  unfold o_pfi at hc
  split at hc
  · rename_i x a r
    obtain ⟨hg, hc⟩ := cnd hc
    have hs := isO_eq (and2 hg).1
    have hlt := live (and2 hg).2 hs (by decide) (by decide)
    refine putf hx hb hown hts hK hw hS hnm hd hf hkd hg hfn (fun ty hty => by cases ty <;> simp [kdOf] at hty; exact ⟨rfl, rfl⟩) (σ' := sI σ a k x) (nxx_of rfl) rfl ?_ (fun b hb => ?_) ⟨fun k => ?_, rfl⟩ (fun H1 locs1 hw1 hS1 => h _ _ _ hc H1 locs1 lsM hw1 hS1 hl hn)
    · rw [ent_obj hs]
      exact congrArg (fun z => (Sum.inr (ci, z) : va_E)) (entL_set (adr B0 adc) cx σ _ a _ hkd (by show Value.int (gI (sI σ a k x) a k) = _; rw [gI_sI, if_pos ⟨rfl, rfl⟩]; rfl) (fun j kd' hj hne => by unfold entF; rw [gI_sI, if_neg (fun q => hne q.2)]; rfl))
    · exact ent_congr (fun k => by rw [gI_sI, if_neg (fun q => hb q.1)]) (fun k => rfl) (fun k => rfx_of rfl)
    · rw [gI_sI, if_neg (fun q => SCR_ne hlt.2 q.1)]
  · exact hc.elim
theorem zB_or {x : Int32} (h : zB x = true) : x = 0 ∨ x = 1 := by
  unfold zB at h
  simpa using h
theorem zB_ok {x : Int32} (h : zB x = true) : narrow .boolean (.int x) = .int x ∧ fits .boolean (.int x) = true := by
  rcases zB_or h with rfl | rfl <;> exact ⟨by decide +kernel, by decide +kernel⟩
theorem g_pfz {cx : Bool} {cap : Nat} {call : Cl} {Φ : Po} {own mn : String} {cc : ByteArray} {nL : Nat} {ret : Option FieldType} {J : Nat → Ct} (A : Act cx cap call Φ own mn cc nL ret J) {pc : Nat} {ix ci k : Nat} {c : Ct} (hd : decode cc pc = .ok (.putfield ix, 3)) (hf : FL own ix ci k) (hkd : (flk ci)[k]? = some 3) (hfn : ∀ C T N, cls[ci]? = some (C, T, N) → (T k).2.2.2 = false ∨ (mn = "<init>" ∧ C = own)) (h : LE c (J (pc + 3))) : LE (o_pfz cx ci k c) (J pc) := by
  obtain ⟨p, l, e, R, s, m, args, below, meth, cd, Q, n0, d, B0, adc, tA, D, sv, xs, L0, ⟨hx, hb, hml, hown, hts, hK, hE, hX, hXB, hB, hAO⟩, ⟨hnm, hRc, hRs, hcap, hRf, hRl, hsv, hcn⟩, hcall, hret, rfl⟩ := A
  intro ls st σ hc H locs lsM hw hS hl hn
  unfold o_pfz at hc
  split at hc
  · rename_i x a r
    obtain ⟨hg, hc⟩ := cnd hc
    obtain ⟨hz, hc⟩ := cnd hc
    have hs := isO_eq (and2 hg).1
    have hlt := live (and2 hg).2 hs (by decide) (by decide)
    refine putf hx hb hown hts hK hw hS hnm hd hf hkd hg hfn (fun ty hty => by cases ty <;> simp [kdOf] at hty; exact zB_ok hz) (σ' := sI σ a k x) (nxx_of rfl) rfl ?_ (fun b hb => ?_) ⟨fun k => ?_, rfl⟩ (fun H1 locs1 hw1 hS1 => h _ _ _ hc H1 locs1 lsM hw1 hS1 hl hn)
    · rw [ent_obj hs]
      exact congrArg (fun z => (Sum.inr (ci, z) : va_E)) (entL_set (adr B0 adc) cx σ _ a _ hkd (by show Value.int (gI (sI σ a k x) a k) = _; rw [gI_sI, if_pos ⟨rfl, rfl⟩]; rfl) (fun j kd' hj hne => by unfold entF; rw [gI_sI, if_neg (fun q => hne q.2)]; rfl))
    · exact ent_congr (fun k => by rw [gI_sI, if_neg (fun q => hb q.1)]) (fun k => rfl) (fun k => rfx_of rfl)
    · rw [gI_sI, if_neg (fun q => SCR_ne hlt.2 q.1)]
  · exact hc.elim
theorem g_pfl {cx : Bool} {cap : Nat} {call : Cl} {Φ : Po} {own mn : String} {cc : ByteArray} {nL : Nat} {ret : Option FieldType} {J : Nat → Ct} (A : Act cx cap call Φ own mn cc nL ret J) {pc : Nat} {ix ci k : Nat} {c : Ct} (hd : decode cc pc = .ok (.putfield ix, 3)) (hf : FL own ix ci k) (hkd : (flk ci)[k]? = some 1) (hfn : ∀ C T N, cls[ci]? = some (C, T, N) → (T k).2.2.2 = false ∨ (mn = "<init>" ∧ C = own)) (h : LE c (J (pc + 3))) : LE (o_pfl cx ci k c) (J pc) := by
  obtain ⟨p, l, e, R, s, m, args, below, meth, cd, Q, n0, d, B0, adc, tA, D, sv, xs, L0, ⟨hx, hb, hml, hown, hts, hK, hE, hX, hXB, hB, hAO⟩, ⟨hnm, hRc, hRs, hcap, hRf, hRl, hsv, hcn⟩, hcall, hret, rfl⟩ := A
  intro ls st σ hc H locs lsM hw hS hl hn
  unfold o_pfl at hc
  split at hc
  · rename_i x a r
    obtain ⟨hg, hc⟩ := cnd hc
    have hs := isO_eq (and2 hg).1
    have hlt := live (and2 hg).2 hs (by decide) (by decide)
    refine putf hx hb hown hts hK hw hS hnm hd hf hkd hg hfn (fun ty hty => by cases ty <;> simp [kdOf] at hty; exact ⟨rfl, rfl⟩) (σ' := sL σ a k x) (nxx_of rfl) rfl ?_ (fun b hb => ?_) ⟨fun k => ?_, rfl⟩ (fun H1 locs1 hw1 hS1 => h _ _ _ hc H1 locs1 lsM hw1 hS1 hl hn)
    · rw [ent_obj hs]
      exact congrArg (fun z => (Sum.inr (ci, z) : va_E)) (entL_set (adr B0 adc) cx σ _ a _ hkd (by show Value.long (gL (sL σ a k x) a k) = _; rw [gL_sL, if_pos ⟨rfl, rfl⟩]; rfl) (fun j kd' hj hne => by unfold entF; rw [gL_sL, if_neg (fun q => hne q.2)]; rfl))
    · exact ent_congr (fun k => rfl) (fun k => by rw [gL_sL, if_neg (fun q => hb q.1)]) (fun k => rfx_of rfl)
    · rfl
  · exact hc.elim
theorem g_pfr {cx : Bool} {cap : Nat} {call : Cl} {Φ : Po} {own mn : String} {cc : ByteArray} {nL : Nat} {ret : Option FieldType} {J : Nat → Ct} (A : Act cx cap call Φ own mn cc nL ret J) {pc : Nat} {ix ci k : Nat} {c : Ct} (hd : decode cc pc = .ok (.putfield ix, 3)) (hf : FL own ix ci k) (hkd : (flk ci)[k]? = some 2) (hfn : ∀ C T N, cls[ci]? = some (C, T, N) → (T k).2.2.2 = false ∨ (mn = "<init>" ∧ C = own)) (h : LE c (J (pc + 3))) : LE (o_pfr cx ci k c) (J pc) := by
  obtain ⟨p, l, e, R, s, m, args, below, meth, cd, Q, n0, d, B0, adc, tA, D, sv, xs, L0, ⟨hx, hb, hml, hown, hts, hK, hE, hX, hXB, hB, hAO⟩, ⟨hnm, hRc, hRs, hcap, hRf, hRl, hsv, hcn⟩, hcall, hret, rfl⟩ := A
  intro ls st σ hc H locs lsM hw hS hl hn
  unfold o_pfr at hc
  split at hc
  · rename_i x a r
    obtain ⟨hg, hc⟩ := cnd hc
    obtain ⟨hg, hwr⟩ := and2 hg
    have hs := isO_eq (and2 hg).1
    have hlt := live (and2 hg).2 hs (by decide) (by decide)
    refine putf hx hb hown hts hK hw hS hnm hd hf hkd hg hfn (fun ty hty => ?_) (σ' := sR σ a k x) (nxx_of rfl) rfl ?_ (fun b hb => ?_) ⟨fun k => rfl, rfl⟩ (fun H1 locs1 hw1 hS1 => h _ _ _ hc H1 locs1 lsM hw1 hS1 hl hn)
    · simp only [vmp]
      cases ty <;> simp [kdOf] at hty <;> cases rr (adr B0 adc) x <;> exact ⟨rfl, rfl⟩
    · rw [ent_obj hs]
      refine congrArg (fun z => (Sum.inr (ci, z) : va_E)) (entL_set (adr B0 adc) cx σ _ a _ hkd ?_ (fun j kd' hj hne => ?_))
      · show va_rf (rr (adr B0 adc) (rfx cx (sR σ a k x) a k)) = _
        rw [rfx_wr hwr]
        rfl
      · unfold entF
        rw [rfx_of (σ := σ) (show gR (sR σ a k x) a j = gR σ a j by rw [gR_sR, if_neg (fun q => hne q.2)])]
        rfl
    · exact ent_congr (fun k => rfl) (fun k => rfl) (fun k2 => rfx_of (by rw [gR_sR, if_neg (fun q => hb q.1)]))
  · exact hc.elim
