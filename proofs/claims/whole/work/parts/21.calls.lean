/-! calls, arraycopy, rows of rows -/
theorem popN_spec : ∀ (n : Nat) (acc st as r : List Value), popN n acc st = some (as, r) → ∃ l, as = l ++ acc ∧ l.length = n ∧ st = l.reverse ++ r
  | 0, acc, st, as, r, h => by
    simp only [popN, Option.some.injEq, Prod.mk.injEq] at h
    exact ⟨[], by simp [h.1], rfl, by simp [h.2]⟩
  | n + 1, acc, [], as, r, h => by simp [popN] at h
  | n + 1, acc, v :: st, as, r, h => by
    obtain ⟨l, h1, h2, h3⟩ := popN_spec n (v :: acc) st as r h
    refine ⟨l ++ [v], by simp [h1], by simp [h2], by simp [h3]⟩
theorem catS_eq {ad : Nat → Nat} {sv : Value} (hsv : sv.category = 1) : ∀ r : List Value, ((r.map (vmp ad sv)).map fun v => v.category).sum = catS r
  | [] => rfl
  | v :: r => by
    have ih := catS_eq (ad := ad) hsv r
    have hr : ∀ r, (va_rf r).category = 1 := fun r => by cases r <;> rfl
    simp only [List.map_cons, List.sum_cons, ih]
    cases v with
    | retAddr k => show sv.category + _ = 1 + _; rw [hsv]
    | ref a => show (va_rf (rr ad a)).category + _ = 1 + _; rw [hr]
    | _ => rfl
theorem runQ {p : Program} {l : Launch} {e : Env} {R : Room} {s : State} {m : MethodId} {args : Array Value} {below : List Frame} {meth : Method} {cd : Code} {Q : State → Prop} {cx : Bool} {B0 : Nat} {adc : Nat → Nat} {tA : Nat → ClassId} {D : va_G} {sv : Value} {xs : Nat → Int32} {L0 n1 : Nat} {Ψ : Po} {H : Heap} {locs : List Loc} {cells slots mc ms pc : Nat} {ls : Array Slot} {st0 rest : List Value} {a : Array Value}
    (hr : va_Run p l e R s m args below meth cd H locs cells slots mc ms (F0 m pc ls st0) rest (Qm cx B0 adc tA D sv xs L0 n1 Ψ a) (Af B0)) (hS : va_S (Af B0) s.heap H locs)
    (kk : ∀ (v : Option Value) (σ' : Sg) (H1 : Heap) (locs1 : List Loc), Ψ v σ' → nxx cx σ' = n1 → Wld cx B0 adc tA D xs L0 σ' H1 → va_S (Af B0) s.heap H1 locs1 → W p l e R s m args below meth cd H1 locs1 (cells + mc) (slots + ms) Q (F0 m (pc + 3) ls ((v.map (vmp (adr B0 adc) sv)).toList ++ rest))) :
    W p l e R s m args below meth cd H locs cells slots Q (F0 m pc ls st0) := by
  intro T hT X
  obtain ⟨v, st₀, t, T', L, h0, X', hL, e1, e2, ⟨⟨v', σ', hψ, hv, hn, hw⟩, hz, hk⟩, st⟩ := hr T hT X
  have hv : v = v'.map (vmp (adr B0 adc) sv) := by injection hv
  subst hv
  rw [h0] at hz hk
  obtain ⟨t2, a1, b1⟩ := kk v' σ' T'.heap (locs ++ L) hψ hn (by rw [e1]; exact hw)
    ⟨Nat.le_trans hS.1 (by rw [e1]; exact hz), fun q h1 h2 => by rw [e1, hk q (Nat.lt_of_lt_of_le h1 hS.1) h2]; exact hS.2.1 q h1 h2, fun q hq => by
      rcases List.mem_append.mp hq with h | h
      · exact hS.2.2 q h
      · exact hL q h⟩ T' rfl X'
  exact ⟨t2, st t2 a1, b1⟩
theorem goodAll : ∀ w ∈ gtb, goodWord w = true := fun w h => (List.mem_filter.mp h).2
theorem good_tbl {w : Cond} (h : w ∈ gtb) : w ∈ gtb ∧ ((w.onTables && w.keeps) = true ∨ ∃ ty, w = .arrayClass ty) := ⟨h, good_of_word (goodAll w h)⟩
/-- what the tables say of a method that is called -/
def ML (y n : Nat) : Prop := Cond.code (nmT y) (ccT y) (mxl y) (rtT y) ∈ gtb ∧ Cond.initialized (nmT y).cls ∈ gtb ∧ ((nmT y).cls ≠ "java/lang/invoke/MethodHandle" ∧ (nmT y).cls ≠ "java/lang/invoke/VarHandle" ∧ (parseMethodDescriptor (nmT y).desc).map (fun d => d.parameters.length) = some n) ∧ mxl y ≤ 21
theorem goodT {y n : Nat} (h : ML y n) : GoodIn gtb (wsT y) := fun w hw => by
  rcases List.mem_cons.mp hw with e | e
  · rw [e]; exact good_tbl h.1
  · exact good_tbl e
def VL (own : String) (ix y n : Nat) : Prop := ML y n ∧ Cond.methodLink own ix (nmT y) ∈ gtb ∧ Cond.instanceMethod (nmT y) ∈ gtb ∧ Cond.selects (nmT y).cls (nmT y) (nmT y) ∈ gtb
def SL (own : String) (ix y n : Nat) : Prop := ML y n ∧ Cond.methodLink own ix (nmT y) ∈ gtb ∧ Cond.static (nmT y) ∈ gtb
def SLn (own : String) (ix y n : Nat) : Prop := ML y n ∧ (∃ host, Cond.methodLinkNest own ix (nmT y) host ∈ nestL) ∧ Cond.static (nmT y) ∈ gtb
def IL (own : String) (ix y n : Nat) : Prop := ML y n ∧ (nmT y).name = "<init>" ∧ rtT y = none ∧ Cond.methodLink own ix (nmT y) ∈ gtb ∧ Cond.instanceMethod (nmT y) ∈ gtb
def ILn (own : String) (ix y n : Nat) : Prop := ML y n ∧ (nmT y).name = "<init>" ∧ rtT y = none ∧ (∃ host, Cond.methodLinkNest own ix (nmT y) host ∈ nestL) ∧ Cond.instanceMethod (nmT y) ∈ gtb
def PK (pk : Ct → List Value → List Value → Po) : Prop := ∀ c ls r v σ, pk c ls r v σ → c ls (v.toList ++ r) σ
theorem pkI : PK pI := fun c ls r v σ h => by
  unfold pI at h
  split at h
  · exact h
  · exact h.elim
theorem pkL : PK pL := fun c ls r v σ h => by
  unfold pL at h
  split at h
  · exact h
  · exact h.elim
theorem pkR : PK pR := fun c ls r v σ h => by
  unfold pR at h
  split at h
  · exact h
  · exact h.elim
theorem pkV : PK pV := fun c ls r v σ h => by
  unfold pV at h
  split at h
  · exact h
  · exact h.elim
theorem inv_at {cx : Bool} {B0 : Nat} {adc : Nat → Nat} {tA : Nat → ClassId} {D : va_G} {sv : Value} {xs : Nat → Int32} {L0 : Nat} {σ : Sg} {s : State} {H : Heap} {locs : List Loc} (hK : va_K D cls (tyl tA) s) (hE : EnvOK B0 (adr B0 adc) sv s s.heap) (hX : va_X (adc SCR) L0 xs s s.heap) (hXB : adc SCR < B0) (hB : B0 ≤ s.heap.size) (hAO : AOs s) (hw : Wld cx B0 adc tA D xs L0 σ H) (hS : va_S (Af B0) s.heap H locs) (U : State) (hU : U.heap = H) (hW : s.WarmedH U.vm) : Inv cx B0 adc tA D sv xs L0 σ U :=
  ⟨va_K.moved hW.alike hK, by rw [hU]; exact (hE.moved hW.alike).kept (fun a h1 h2 => hS.2.1 a h1 h2), by rw [hU]; exact (hX.moved hW.alike).kept (hS.2.1 _ (by omega) (by show ¬ B0 ≤ _; omega)), hXB, hAO.warm hW, by rw [hU]; exact hw⟩
theorem inv_blind {cx : Bool} {B0 : Nat} {adc : Nat → Nat} {tA : Nat → ClassId} {D : va_G} {sv : Value} {xs : Nat → Int32} {L0 : Nat} {σ : Sg} {av : List Value} : FrameBlind (va_Pc av (Inv cx B0 adc tA D sv xs L0 σ)) := fun a U g mk q => by
  obtain ⟨q1, q2, q3, q4, q5, q6, q7⟩ := q
  exact ⟨q1, va_K.moved (u := U) (U := U.calling g mk a) (Vm.Alike.refl U.vm) q2, EnvOK.moved (u := U) (U := U.calling g mk a) (Vm.Alike.refl U.vm) q3, va_X.moved (u := U) (U := U.calling g mk a) (Vm.Alike.refl U.vm) q4, q5, AOs.same (u := U) (U := U.calling g mk a) rfl q6, q7⟩
theorem room_c {cx : Bool} {cap n0 y : Nat} {σ : Sg} (hg : cpx cx cap σ y = true) (hcn : cx = true → cap = NOB) : nxx cx σ + nal cx y ≤ cap := by
  cases cx with
  | true => show NOB + 0 ≤ cap; rw [hcn rfl]; exact Nat.le_refl _
  | false =>
    have h : Nat.ble (nx σ + nal false y) cap = true := hg
    exact Nat.le_of_ble_eq_true h
theorem g_iv {cx : Bool} {cap : Nat} {call : Cl} {Φ : Po} {own mn : String} {cc : ByteArray} {nL : Nat} {ret : Option FieldType} {J : Nat → Ct} (A : Act cx cap call Φ own mn cc nL ret J) {pc : Nat} {ci N : Nat} {T : u_T} {ix y n : Nat} {pk : Ct → List Value → List Value → Po} {c : Ct} (hd : decode cc pc = .ok (.invokevirtual ix, 3)) (hl2 : VL own ix y n) (hC : cls[ci]? = some ((nmT y).cls, T, N)) (hpk : PK pk) (h : LE c (J (pc + 3))) : LE (o_iv cx cap call ci y n pk c) (J pc) := by
  obtain ⟨p, l, e, R, s, m, args, below, meth, cd, Q, n0, d, B0, adc, tA, D, sv, xs, L0, ⟨hx, hb, hml, hown, hts, hK, hE, hX, hXB, hB, hAO⟩, ⟨hnm, hRc, hRs, hcap, hRf, hRl, hsv, hcn⟩, hcall, hret, rfl⟩ := A
  intro ls st σ hc H locs lsM hw hS hl hn
  have hn137 := nob
  unfold o_iv at hc
  split at hc
  · rename_i as a r hpop
    obtain ⟨hg, hc⟩ := cnd hc
    obtain ⟨hcs, hg⟩ := and2 hg
    obtain ⟨hcp, hg⟩ := and2 hg
    obtain ⟨hO, hlv⟩ := and2 hg
    have hs := isO_eq hO
    obtain ⟨hlt, hlt2⟩ := live hlv hs (by decide) (by decide)
    have hrm := room_c (n0 := n0) hcp hcn
    have hm1 := szs_le hn
    have hm2 : szs (nxx cx σ) ≤ szs (nxx cx σ + nal cx y) := szs_le (Nat.le_add_right _ _)
    have hm3 := szs_le hrm
    obtain ⟨la, e1, e4, e5⟩ := popN_spec _ _ _ _ _ hpop
    rw [List.append_nil] at e1
    subst e1
    subst e5
    have hcat := catS_eq (ad := adr B0 adc) hsv r
    have hcs := Nat.le_of_ble_eq_true hcs
    have hM := hcall y _ σ _ hc B0 adc tA D sv xs L0 hsv
    obtain ⟨hML, hk1, hk2, hk3⟩ := hl2
    have hst : (as.reverse ++ Value.ref a :: r).map (vmp (adr B0 adc) sv) = (as.map (vmp (adr B0 adc) sv)).reverse ++ va_rf (rr (adr B0 adc) a) :: r.map (vmp (adr B0 adc) sv) := by
      rw [List.map_append, List.map_reverse]; rfl
    rw [hst]
    have ea : rr (adr B0 adc) a = some (adr B0 adc a) := by rw [rr_lt (by omega), adr_lt (by omega)]
    have hex := wsO_at (ad := adr B0 adc) (tA := tA) hlt
    rw [ent_obj hs] at hex
    obtain ⟨cellV, g1, g3, g2⟩ := va_recv (q := ((nmT y).cls, T, N)) hK hw.2.1 hC hex
    rw [ea]
    refine runQ (va_runV (rest := r.map (vmp (adr B0 adc) sv)) (As := as.map (vmp (adr B0 adc) sv)) (C := (nmT y).cls) ⟨hx, hb, hml, hown, hts⟩ hM (cwV n hts (fun w hw => ?_) rfl rfl rfl ⟨rfl, hML.2.2.1⟩ ⟨by show d + 1 ≤ _; exact hRf, by have := hML.2.2.2; show 8 + (mxl y + 11) + 40 * d ≤ _; omega⟩) ⟨inv_blind, ⟨cellV, g1, g3, g2⟩, fun U hU hW => ⟨by simp [vmp, ea, va_rf], inv_at hK hE hX hXB hB hAO hw hS U hU hW⟩⟩ rfl (by rw [List.length_map]; exact e4) hl.2.1 rfl (lv_room (by rw [hcat]; exact hcs)) hd ⟨by omega, by omega⟩) hS (fun v σ' H1 locs1 hψ hn1 hw1 hS1 => ?_)
    · rcases List.mem_append.mp hw with e | e
      · simp only [List.mem_cons, List.not_mem_nil, or_false] at e
        rcases e with rfl | rfl | rfl | rfl
        · exact good_tbl hk1
        · exact good_tbl hk2
        · exact good_tbl hk3
        · exact good_tbl hML.2.1
      · exact goodT hML w e
    · have h9 := h _ _ _ (hpk _ _ _ _ _ hψ) H1 locs1 lsM hw1 hS1 hl (by omega)
      have e2 : nxx cx σ' - n0 = nxx cx σ - n0 + nal cx y := by omega
      have e3 : szs (nxx cx σ') - szs n0 = szs (nxx cx σ) - szs n0 + (szs (nxx cx σ + nal cx y) - szs (nxx cx σ)) := by rw [hn1]; omega
      rw [e2, e3, List.map_append] at h9
      cases v with
      | none => exact h9
      | some v => exact h9
  · exact hc.elim
theorem g_ivw {cx : Bool} {cap : Nat} {call : Cl} {Φ : Po} {own mn : String} {cc : ByteArray} {nL : Nat} {ret : Option FieldType} {J : Nat → Ct} (A : Act cx cap call Φ own mn cc nL ret J) {pc : Nat} {ix y n : Nat} {pk : Ct → List Value → List Value → Po} {c : Ct} (hd : decode cc pc = .ok (.invokevirtual ix, 3)) (hl2 : VL own ix y n) (hC : (nmT y).cls = "OwedToWinds$Word") (hpk : PK pk) (h : LE c (J (pc + 3))) : LE (o_ivw cx call y n pk c) (J pc) := by
  obtain ⟨p, l, e, R, s, m, args, below, meth, cd, Q, n0, d, B0, adc, tA, D, sv, xs, L0, ⟨hx, hb, hml, hown, hts, hK, hE, hX, hXB, hB, hAO⟩, ⟨hnm, hRc, hRs, hcap, hRf, hRl, hsv, hcn⟩, hcall, hret, rfl⟩ := A
  intro ls st σ hc H locs lsM hw hS hl hn
  have hn137 := nob
  unfold o_ivw at hc
  split at hc
  · rename_i as a r hpop
    obtain ⟨hg, hc⟩ := cnd hc
    obtain ⟨hwa, hc⟩ := cnd hc
    obtain ⟨hcs, hcx⟩ := and2 hg
    have hcp : cpx cx cap σ y = true := by unfold cpx; rw [hcx]; rfl
    have ha := wB_lt hwa
    have hrm := room_c (n0 := n0) hcp hcn
    have hm1 := szs_le hn
    have hm2 : szs (nxx cx σ) ≤ szs (nxx cx σ + nal cx y) := szs_le (Nat.le_add_right _ _)
    have hm3 := szs_le hrm
    obtain ⟨la, e1, e4, e5⟩ := popN_spec _ _ _ _ _ hpop
    rw [List.append_nil] at e1
    subst e1
    subst e5
    have hcat := catS_eq (ad := adr B0 adc) hsv r
    have hcs := Nat.le_of_ble_eq_true hcs
    have hM := hcall y _ σ _ hc B0 adc tA D sv xs L0 hsv
    obtain ⟨hML, hk1, hk2, hk3⟩ := hl2
    have hst : (as.reverse ++ Value.ref a :: r).map (vmp (adr B0 adc) sv) = (as.map (vmp (adr B0 adc) sv)).reverse ++ va_rf (rr (adr B0 adc) a) :: r.map (vmp (adr B0 adc) sv) := by
      rw [List.map_append, List.map_reverse]; rfl
    rw [hst]
    have ea : rr (adr B0 adc) a = some (adr B0 adc a) := by rw [rr_con (by omega) (by omega), adr_con (by omega)]
    obtain ⟨-, ⟨cellV, g1, g3, g2, g4⟩, -⟩ := hE.1.1 (a - 90000) (by rw [show wordNm.length = 42 by decide +kernel]; exact Nat.sub_lt_left_of_lt_add ha.1 ha.2)
    dsimp only at g1 g4
    rw [Nat.add_sub_of_le ha.1] at g1 g4
    have g1 : H[adr B0 adc a]? = some cellV := by rw [hS.2.1 _ (Array.getElem?_eq_some_iff.mp g1).1 g4]; exact g1
    rw [← hC] at g2
    rw [ea]
    refine runQ (va_runV (rest := r.map (vmp (adr B0 adc) sv)) (As := as.map (vmp (adr B0 adc) sv)) (C := (nmT y).cls) ⟨hx, hb, hml, hown, hts⟩ hM (cwV n hts (fun w hw => ?_) rfl rfl rfl ⟨rfl, hML.2.2.1⟩ ⟨by show d + 1 ≤ _; exact hRf, by have := hML.2.2.2; show 8 + (mxl y + 11) + 40 * d ≤ _; omega⟩) ⟨inv_blind, ⟨cellV, g1, g3, g2⟩, fun U hU hW => ⟨by simp [vmp, ea, va_rf], inv_at hK hE hX hXB hB hAO hw hS U hU hW⟩⟩ rfl (by rw [List.length_map]; exact e4) hl.2.1 rfl (lv_room (by rw [hcat]; exact hcs)) hd ⟨by omega, by omega⟩) hS (fun v σ' H1 locs1 hψ hn1 hw1 hS1 => ?_)
    · rcases List.mem_append.mp hw with e | e
      · simp only [List.mem_cons, List.not_mem_nil, or_false] at e
        rcases e with rfl | rfl | rfl | rfl
        · exact good_tbl hk1
        · exact good_tbl hk2
        · exact good_tbl hk3
        · exact good_tbl hML.2.1
      · exact goodT hML w e
    · have h9 := h _ _ _ (hpk _ _ _ _ _ hψ) H1 locs1 lsM hw1 hS1 hl (by omega)
      have e2 : nxx cx σ' - n0 = nxx cx σ - n0 + nal cx y := by omega
      have e3 : szs (nxx cx σ') - szs n0 = szs (nxx cx σ) - szs n0 + (szs (nxx cx σ + nal cx y) - szs (nxx cx σ)) := by rw [hn1]; omega
      rw [e2, e3, List.map_append] at h9
      cases v with
      | none => exact h9
      | some v => exact h9
  · exact hc.elim
theorem g_ivt {cx : Bool} {cap : Nat} {call : Cl} {Φ : Po} {own mn : String} {cc : ByteArray} {nL : Nat} {ret : Option FieldType} {J : Nat → Ct} (A : Act cx cap call Φ own mn cc nL ret J) {pc : Nat} {ix y n : Nat} {pk : Ct → List Value → List Value → Po} {c : Ct} (hd : decode cc pc = .ok (.invokevirtual ix, 3)) (hl2 : VL own ix y n) (hC : (nmT y).cls = "java/lang/String") (hpk : PK pk) (h : LE c (J (pc + 3))) : LE (o_ivt cx call y n pk c) (J pc) := by
  obtain ⟨p, l, e, R, s, m, args, below, meth, cd, Q, n0, d, B0, adc, tA, D, sv, xs, L0, ⟨hx, hb, hml, hown, hts, hK, hE, hX, hXB, hB, hAO⟩, ⟨hnm, hRc, hRs, hcap, hRf, hRl, hsv, hcn⟩, hcall, hret, rfl⟩ := A
  intro ls st σ hc H locs lsM hw hS hl hn
  have hn137 := nob
  unfold o_ivt at hc
  split at hc
  · rename_i as a r hpop
    obtain ⟨hg, hc⟩ := cnd hc
    obtain ⟨hwa, hc⟩ := cnd hc
    obtain ⟨hcs, hcx⟩ := and2 hg
    have hcp : cpx cx cap σ y = true := by unfold cpx; rw [hcx]; rfl
    have ha := tB_lt hwa
    have hrm := room_c (n0 := n0) hcp hcn
    have hm1 := szs_le hn
    have hm2 : szs (nxx cx σ) ≤ szs (nxx cx σ + nal cx y) := szs_le (Nat.le_add_right _ _)
    have hm3 := szs_le hrm
    obtain ⟨la, e1, e4, e5⟩ := popN_spec _ _ _ _ _ hpop
    rw [List.append_nil] at e1
    subst e1
    subst e5
    have hcat := catS_eq (ad := adr B0 adc) hsv r
    have hcs := Nat.le_of_ble_eq_true hcs
    have hM := hcall y _ σ _ hc B0 adc tA D sv xs L0 hsv
    obtain ⟨hML, hk1, hk2, hk3⟩ := hl2
    have hst : (as.reverse ++ Value.ref a :: r).map (vmp (adr B0 adc) sv) = (as.map (vmp (adr B0 adc) sv)).reverse ++ va_rf (rr (adr B0 adc) a) :: r.map (vmp (adr B0 adc) sv) := by
      rw [List.map_append, List.map_reverse]; rfl
    rw [hst]
    have ea : rr (adr B0 adc) a = some (adr B0 adc a) := by rw [rr_con (by omega) (by omega), adr_con (by omega)]
    have hE5 := hE.2.2.2.2.1
    obtain ⟨cellV, g1, g3, g2⟩ := vk_recv hE5 (i := a - 91000) (Nat.sub_lt_left_of_lt_add ha.1 ha.2) hS

    rw [Nat.add_sub_of_le ha.1] at g1
    rw [← hC] at g2
    rw [ea]
    refine runQ (va_runV (rest := r.map (vmp (adr B0 adc) sv)) (As := as.map (vmp (adr B0 adc) sv)) (C := (nmT y).cls) ⟨hx, hb, hml, hown, hts⟩ hM (cwV n hts (fun w hw => ?_) rfl rfl rfl ⟨rfl, hML.2.2.1⟩ ⟨by show d + 1 ≤ _; exact hRf, by have := hML.2.2.2; show 8 + (mxl y + 11) + 40 * d ≤ _; omega⟩) ⟨inv_blind, ⟨cellV, g1, g3, g2⟩, fun U hU hW => ⟨by simp [vmp, ea, va_rf], inv_at hK hE hX hXB hB hAO hw hS U hU hW⟩⟩ rfl (by rw [List.length_map]; exact e4) hl.2.1 rfl (lv_room (by rw [hcat]; exact hcs)) hd ⟨by omega, by omega⟩) hS (fun v σ' H1 locs1 hψ hn1 hw1 hS1 => ?_)
    · rcases List.mem_append.mp hw with e | e
      · simp only [List.mem_cons, List.not_mem_nil, or_false] at e
        rcases e with rfl | rfl | rfl | rfl
        · exact good_tbl hk1
        · exact good_tbl hk2
        · exact good_tbl hk3
        · exact good_tbl hML.2.1
      · exact goodT hML w e
    · have h9 := h _ _ _ (hpk _ _ _ _ _ hψ) H1 locs1 lsM hw1 hS1 hl (by omega)
      have e2 : nxx cx σ' - n0 = nxx cx σ - n0 + nal cx y := by omega
      have e3 : szs (nxx cx σ') - szs n0 = szs (nxx cx σ) - szs n0 + (szs (nxx cx σ + nal cx y) - szs (nxx cx σ)) := by rw [hn1]; omega
      rw [e2, e3, List.map_append] at h9
      cases v with
      | none => exact h9
      | some v => exact h9
  · exact hc.elim
theorem g_isv {cx : Bool} {cap : Nat} {call : Cl} {Φ : Po} {own mn : String} {cc : ByteArray} {nL : Nat} {ret : Option FieldType} {J : Nat → Ct} (A : Act cx cap call Φ own mn cc nL ret J) {pc : Nat} {ix y n : Nat} {pk : Ct → List Value → List Value → Po} {c : Ct} (hd : decode cc pc = .ok (.invokestatic ix, 3)) (hl2 : SL own ix y n) (hpk : PK pk) (h : LE c (J (pc + 3))) : LE (o_isv cx cap call y n pk c) (J pc) := by
  obtain ⟨p, l, e, R, s, m, args, below, meth, cd, Q, n0, d, B0, adc, tA, D, sv, xs, L0, ⟨hx, hb, hml, hown, hts, hK, hE, hX, hXB, hB, hAO⟩, ⟨hnm, hRc, hRs, hcap, hRf, hRl, hsv, hcn⟩, hcall, hret, rfl⟩ := A
  intro ls st σ hc H locs lsM hw hS hl hn
  have hn137 := nob
  unfold o_isv at hc
  split at hc
  · rename_i as r hpop
    obtain ⟨hg, hc⟩ := cnd hc
    obtain ⟨hcs, hcp⟩ := and2 hg
    have hrm := room_c (n0 := n0) hcp hcn
    have hm1 := szs_le hn
    have hm2 : szs (nxx cx σ) ≤ szs (nxx cx σ + nal cx y) := szs_le (Nat.le_add_right _ _)
    have hm3 := szs_le hrm
    obtain ⟨la, e1, e4, e5⟩ := popN_spec _ _ _ _ _ hpop
    rw [List.append_nil] at e1
    subst e1
    subst e5
    have hcat := catS_eq (ad := adr B0 adc) hsv r
    have hcs := Nat.le_of_ble_eq_true hcs
    have hM := hcall y _ σ _ hc B0 adc tA D sv xs L0 hsv
    obtain ⟨hML, hk1, hk2⟩ := hl2
    have hst : (as.reverse ++ r).map (vmp (adr B0 adc) sv) = (as.map (vmp (adr B0 adc) sv)).reverse ++ r.map (vmp (adr B0 adc) sv) := by
      rw [List.map_append, List.map_reverse]
    rw [hst]
    refine runQ (va_runS (rest := r.map (vmp (adr B0 adc) sv)) (As := as.map (vmp (adr B0 adc) sv)) ⟨hx, hb, hml, hown, hts⟩ hM (va_cwS n hts (fun w hw => ?_) rfl rfl rfl hML.2.2.1 ⟨by show d + 1 ≤ _; exact hRf, by have := hML.2.2.2; show 8 + (mxl y + 11) + 40 * d ≤ _; omega⟩) ⟨inv_blind, fun U hU hW => ⟨rfl, inv_at hK hE hX hXB hB hAO hw hS U hU hW⟩⟩ rfl (by rw [List.length_map]; exact e4) hl.2.1 rfl (lv_room (by rw [hcat]; exact hcs)) hd ⟨by omega, by omega⟩) hS (fun v σ' H1 locs1 hψ hn1 hw1 hS1 => ?_)
    · rcases List.mem_append.mp hw with e | e
      · simp only [List.mem_cons, List.not_mem_nil, or_false] at e
        rcases e with rfl | rfl | rfl
        · exact good_tbl hk1
        · exact good_tbl hk2
        · exact good_tbl hML.2.1
      · exact goodT hML w e
    · have h9 := h _ _ _ (hpk _ _ _ _ _ hψ) H1 locs1 lsM hw1 hS1 hl (by omega)
      have e2 : nxx cx σ' - n0 = nxx cx σ - n0 + nal cx y := by omega
      have e3 : szs (nxx cx σ') - szs n0 = szs (nxx cx σ) - szs n0 + (szs (nxx cx σ + nal cx y) - szs (nxx cx σ)) := by rw [hn1]; omega
      rw [e2, e3, List.map_append] at h9
      cases v with
      | none => exact h9
      | some v => exact h9
  · exact hc.elim
theorem g_isvn {cx : Bool} {cap : Nat} {call : Cl} {Φ : Po} {own mn : String} {cc : ByteArray} {nL : Nat} {ret : Option FieldType} {J : Nat → Ct} (A : Act cx cap call Φ own mn cc nL ret J) {pc : Nat} {ix y n : Nat} {pk : Ct → List Value → List Value → Po} {c : Ct} (hd : decode cc pc = .ok (.invokestatic ix, 3)) (hl2 : SLn own ix y n) (hpk : PK pk) (h : LE c (J (pc + 3))) : LE (o_isv cx cap call y n pk c) (J pc) := by
  obtain ⟨p, l, e, R, s, m, args, below, meth, cd, Q, n0, d, B0, adc, tA, D, sv, xs, L0, ⟨hx, hb, hml, hown, hts, hK, hE, hX, hXB, hB, hAO⟩, ⟨hnm, hRc, hRs, hcap, hRf, hRl, hsv, hcn⟩, hcall, hret, rfl⟩ := A
  intro ls st σ hc H locs lsM hw hS hl hn
  have hn137 := nob
  unfold o_isv at hc
  split at hc
  · rename_i as r hpop
    obtain ⟨hg, hc⟩ := cnd hc
    obtain ⟨hcs, hcp⟩ := and2 hg
    have hrm := room_c (n0 := n0) hcp hcn
    have hm1 := szs_le hn
    have hm2 : szs (nxx cx σ) ≤ szs (nxx cx σ + nal cx y) := szs_le (Nat.le_add_right _ _)
    have hm3 := szs_le hrm
    obtain ⟨la, e1, e4, e5⟩ := popN_spec _ _ _ _ _ hpop
    rw [List.append_nil] at e1
    subst e1
    subst e5
    have hcat := catS_eq (ad := adr B0 adc) hsv r
    have hcs := Nat.le_of_ble_eq_true hcs
    have hM := hcall y _ σ _ hc B0 adc tA D sv xs L0 hsv
    obtain ⟨hML, hk1, hk2⟩ := hl2
    have hst : (as.reverse ++ r).map (vmp (adr B0 adc) sv) = (as.map (vmp (adr B0 adc) sv)).reverse ++ r.map (vmp (adr B0 adc) sv) := by
      rw [List.map_append, List.map_reverse]
    rw [hst]
    obtain ⟨host, hk1⟩ := hk1
    refine runQ (va_runSN (rest := r.map (vmp (adr B0 adc) sv)) (As := as.map (vmp (adr B0 adc) sv)) ⟨hx, hb, hml, hown, hts⟩ hM ⟨va_cnB n hts (goodT hML) rfl rfl rfl (hAO.2.2.2 _ hk1) (hts _ hML.2.1) hML.2.2.1 ⟨by show d + 1 ≤ _; exact hRf, by have := hML.2.2.2; show 8 + (mxl y + 11) + 40 * d ≤ _; omega⟩, hts _ hk2, trivial⟩ ⟨inv_blind, fun U hU hW => ⟨rfl, inv_at hK hE hX hXB hB hAO hw hS U hU hW⟩⟩ rfl (by rw [List.length_map]; exact e4) hl.2.1 rfl (lv_room (by rw [hcat]; exact hcs)) hd ⟨by omega, by omega⟩) hS (fun v σ' H1 locs1 hψ hn1 hw1 hS1 => ?_)
    · have h9 := h _ _ _ (hpk _ _ _ _ _ hψ) H1 locs1 lsM hw1 hS1 hl (by omega)
      have e2 : nxx cx σ' - n0 = nxx cx σ - n0 + nal cx y := by omega
      have e3 : szs (nxx cx σ') - szs n0 = szs (nxx cx σ) - szs n0 + (szs (nxx cx σ + nal cx y) - szs (nxx cx σ)) := by rw [hn1]; omega
      rw [e2, e3, List.map_append] at h9
      cases v with
      | none => exact h9
      | some v => exact h9
  · exact hc.elim
theorem g_ini {cx : Bool} {cap : Nat} {call : Cl} {Φ : Po} {own mn : String} {cc : ByteArray} {nL : Nat} {ret : Option FieldType} {J : Nat → Ct} (A : Act cx cap call Φ own mn cc nL ret J) {pc : Nat} {ix y n : Nat} {c : Ct} (hd : decode cc pc = .ok (.invokespecial ix, 3)) (hl2 : IL own ix y n) (h : LE c (J (pc + 3))) : LE (o_ini cx cap call y n c) (J pc) := by
  obtain ⟨p, l, e, R, s, m, args, below, meth, cd, Q, n0, d, B0, adc, tA, D, sv, xs, L0, ⟨hx, hb, hml, hown, hts, hK, hE, hX, hXB, hB, hAO⟩, ⟨hnm, hRc, hRs, hcap, hRf, hRl, hsv, hcn⟩, hcall, hret, rfl⟩ := A
  intro ls st σ hc H locs lsM hw hS hl hn
  have hn137 := nob
  unfold o_ini at hc
  split at hc
  · rename_i as a r hpop
    obtain ⟨hg, hc⟩ := cnd hc
    obtain ⟨hcs, hg⟩ := and2 hg
    obtain ⟨hcp, ha⟩ := and2 hg
    have ha := blt_lt ha
    have hrm := room_c (n0 := n0) hcp hcn
    have hm1 := szs_le hn
    have hm2 : szs (nxx cx σ) ≤ szs (nxx cx σ + nal cx y) := szs_le (Nat.le_add_right _ _)
    have hm3 := szs_le hrm
    obtain ⟨la, e1, e4, e5⟩ := popN_spec _ _ _ _ _ hpop
    rw [List.append_nil] at e1
    subst e1
    subst e5
    have hcat := catS_eq (ad := adr B0 adc) hsv r
    have hcs := Nat.le_of_ble_eq_true hcs
    have hM := hcall y _ σ _ hc B0 adc tA D sv xs L0 hsv
    obtain ⟨hML, hin1, hin2, hk1, hk2⟩ := hl2
    have hpk := pkV
    have hst : (as.reverse ++ Value.ref a :: r).map (vmp (adr B0 adc) sv) = (as.map (vmp (adr B0 adc) sv)).reverse ++ va_rf (rr (adr B0 adc) a) :: r.map (vmp (adr B0 adc) sv) := by
      rw [List.map_append, List.map_reverse]; rfl
    rw [hst]
    have ea : rr (adr B0 adc) a = some (adr B0 adc a) := by rw [rr_lt ha, adr_lt ha]
    have hwsy : wsT y = Cond.code (nmT y) (ccT y) (mxl y) none :: gtb := by unfold wsT; rw [hin2]
    rw [ea]
    refine runQ (va_runI (rest := r.map (vmp (adr B0 adc) sv)) (As := as.map (vmp (adr B0 adc) sv)) ⟨hx, hb, hml, hown, hts⟩ hM (cwI n hts (goodT hML) hwsy rfl rfl (hts _ hML.2.1) (hts _ hk1) (hts _ hk2) hin1 hML.2.2.1 ⟨by show d + 1 ≤ _; exact hRf, by have := hML.2.2.2; show 8 + (mxl y + 11) + 40 * d ≤ _; omega⟩) ⟨inv_blind, fun U hU hW => ⟨by simp [vmp, ea, va_rf], inv_at hK hE hX hXB hB hAO hw hS U hU hW⟩⟩ rfl (by rw [List.length_map]; exact e4) hl.2.1 rfl (lv_room (by rw [hcat]; exact hcs)) hd ⟨by omega, by omega⟩) hS (fun v σ' H1 locs1 hψ hn1 hw1 hS1 => ?_)
    · have h9 := h _ _ _ (hpk _ _ _ _ _ hψ) H1 locs1 lsM hw1 hS1 hl (by omega)
      have e2 : nxx cx σ' - n0 = nxx cx σ - n0 + nal cx y := by omega
      have e3 : szs (nxx cx σ') - szs n0 = szs (nxx cx σ) - szs n0 + (szs (nxx cx σ + nal cx y) - szs (nxx cx σ)) := by rw [hn1]; omega
      rw [e2, e3, List.map_append] at h9
      cases v with
      | none => exact h9
      | some v => exact h9
  · exact hc.elim
theorem g_inin {cx : Bool} {cap : Nat} {call : Cl} {Φ : Po} {own mn : String} {cc : ByteArray} {nL : Nat} {ret : Option FieldType} {J : Nat → Ct} (A : Act cx cap call Φ own mn cc nL ret J) {pc : Nat} {ix y n : Nat} {c : Ct} (hd : decode cc pc = .ok (.invokespecial ix, 3)) (hl2 : ILn own ix y n) (h : LE c (J (pc + 3))) : LE (o_ini cx cap call y n c) (J pc) := by
  obtain ⟨p, l, e, R, s, m, args, below, meth, cd, Q, n0, d, B0, adc, tA, D, sv, xs, L0, ⟨hx, hb, hml, hown, hts, hK, hE, hX, hXB, hB, hAO⟩, ⟨hnm, hRc, hRs, hcap, hRf, hRl, hsv, hcn⟩, hcall, hret, rfl⟩ := A
  intro ls st σ hc H locs lsM hw hS hl hn
  have hn137 := nob
  unfold o_ini at hc
  split at hc
  · rename_i as a r hpop
    obtain ⟨hg, hc⟩ := cnd hc
    obtain ⟨hcs, hg⟩ := and2 hg
    obtain ⟨hcp, ha⟩ := and2 hg
    have ha := blt_lt ha
    have hrm := room_c (n0 := n0) hcp hcn
    have hm1 := szs_le hn
    have hm2 : szs (nxx cx σ) ≤ szs (nxx cx σ + nal cx y) := szs_le (Nat.le_add_right _ _)
    have hm3 := szs_le hrm
    obtain ⟨la, e1, e4, e5⟩ := popN_spec _ _ _ _ _ hpop
    rw [List.append_nil] at e1
    subst e1
    subst e5
    have hcat := catS_eq (ad := adr B0 adc) hsv r
    have hcs := Nat.le_of_ble_eq_true hcs
    have hM := hcall y _ σ _ hc B0 adc tA D sv xs L0 hsv
    obtain ⟨hML, hin1, hin2, hk1, hk2⟩ := hl2
    have hpk := pkV
    have hst : (as.reverse ++ Value.ref a :: r).map (vmp (adr B0 adc) sv) = (as.map (vmp (adr B0 adc) sv)).reverse ++ va_rf (rr (adr B0 adc) a) :: r.map (vmp (adr B0 adc) sv) := by
      rw [List.map_append, List.map_reverse]; rfl
    rw [hst]
    have ea : rr (adr B0 adc) a = some (adr B0 adc a) := by rw [rr_lt ha, adr_lt ha]
    have hwsy : wsT y = Cond.code (nmT y) (ccT y) (mxl y) none :: gtb := by unfold wsT; rw [hin2]
    rw [ea]
    obtain ⟨host, hk1⟩ := hk1
    refine runQ (va_runIN (rest := r.map (vmp (adr B0 adc) sv)) (As := as.map (vmp (adr B0 adc) sv)) ⟨hx, hb, hml, hown, hts⟩ hM ⟨va_cnB n hts (goodT hML) hwsy rfl rfl (hAO.2.2.2 _ hk1) (hts _ hML.2.1) hML.2.2.1 ⟨by show d + 1 ≤ _; exact hRf, by have := hML.2.2.2; show 8 + (mxl y + 11) + 40 * d ≤ _; omega⟩, hin1, hts _ hk2⟩ ⟨inv_blind, fun U hU hW => ⟨by simp [vmp, ea, va_rf], inv_at hK hE hX hXB hB hAO hw hS U hU hW⟩⟩ rfl (by rw [List.length_map]; exact e4) hl.2.1 rfl (lv_room (by rw [hcat]; exact hcs)) hd ⟨by omega, by omega⟩) hS (fun v σ' H1 locs1 hψ hn1 hw1 hS1 => ?_)
    · have h9 := h _ _ _ (hpk _ _ _ _ _ hψ) H1 locs1 lsM hw1 hS1 hl (by omega)
      have e2 : nxx cx σ' - n0 = nxx cx σ - n0 + nal cx y := by omega
      have e3 : szs (nxx cx σ') - szs n0 = szs (nxx cx σ) - szs n0 + (szs (nxx cx σ + nal cx y) - szs (nxx cx σ)) := by rw [hn1]; omega
      rw [e2, e3, List.map_append] at h9
      cases v with
      | none => exact h9
      | some v => exact h9
  · exact hc.elim
theorem g_obj {cx : Bool} {cap : Nat} {call : Cl} {Φ : Po} {own mn : String} {cc : ByteArray} {nL : Nat} {ret : Option FieldType} {J : Nat → Ct} (A : Act cx cap call Φ own mn cc nL ret J) {pc : Nat} {ix : Nat} {c : Ct} (hd : decode cc pc = .ok (.invokespecial ix, 3)) (hk : Cond.methodLink own ix Lib.objectInit ∈ gtb) (h : LE c (J (pc + 3))) : LE (o_obj c) (J pc) := by
  obtain ⟨p, l, e, R, s, m, args, below, meth, cd, Q, n0, d, B0, adc, tA, D, sv, xs, L0, ⟨hx, hb, hml, hown, hts, hK, hE, hX, hXB, hB, hAO⟩, ⟨hnm, hRc, hRs, hcap, hRf, hRl, hsv, hcn⟩, hcall, hret, rfl⟩ := A
  intro ls st σ hc H locs lsM hw hS hl hn
  unfold o_obj at hc
  split at hc
  · rename_i a r
    obtain ⟨hg, hc⟩ := cnd hc
    obtain ⟨hcs, ha⟩ := and2 hg
    have ha := blt_lt ha
    have hcs := Nat.le_of_ble_eq_true hcs
    have hcat := catS_eq (ad := adr B0 adc) hsv r
    show W p l e R s m args below meth cd H locs (nxx cx σ - n0) (szs (nxx cx σ) - szs n0) Q (F0 m pc lsM (va_rf (rr (adr B0 adc) a) :: r.map (vmp (adr B0 adc) sv)))
    rw [rr_lt ha]
    exact W.objInit hx hb hown (hts _ hk) (hts _ (tb0 27 (by decide +kernel))) (hts _ (tb0 28 (by decide +kernel))) rfl (hl.2.1.trans hml.symm) rfl hd (by omega) (by show 2 * 0 + _ + 12 ≤ _; rw [hcat]; omega) (h _ _ _ hc H locs lsM hw hS hl hn)
  · exact hc.elim
theorem g_cpy {cx : Bool} {cap : Nat} {call : Cl} {Φ : Po} {own mn : String} {cc : ByteArray} {nL : Nat} {ret : Option FieldType} {J : Nat → Ct} (A : Act cx cap call Φ own mn cc nL ret J) {pc : Nat} {lx : Nat} {c : Ct} (hd : decode cc pc = .ok (.invokestatic lx, 3)) (hk : Cond.methodLink own lx arraycopyName ∈ gtb) (h : LE c (J (pc + 3))) : LE (o_cpy cx c) (J pc) := by
  obtain ⟨p, l, e, R, s, m, args, below, meth, cd, Q, n0, d, B0, adc, tA, D, sv, xs, L0, ⟨hx, hb, hml, hown, hts, hK, hE, hX, hXB, hB, hAO⟩, ⟨hnm, hRc, hRs, hcap, hRf, hRl, hsv, hcn⟩, hcall, hret, rfl⟩ := A
  intro ls st σ hc H locs lsM hw hS hl hn
  unfold o_cpy at hc
  split at hc
  · rename_i n dp b sp a r
    split at hc
    · rename_i na nb hsa hsb
      obtain ⟨hg, ⟨k1, k2, k3, k4, k5⟩, hc2⟩ := cnd hc
      obtain ⟨hcs, hg⟩ := and2 hg
      obtain ⟨hcx, hg⟩ := and2 hg
      obtain ⟨hla, hlb⟩ := and2 hg
      have hcx : cx = true := hcx
      subst hcx
      obtain ⟨hlt, hlt2⟩ := live hla hsa (by decide) (by decide)
      obtain ⟨hltb, hltb2⟩ := live hlb hsb (by decide) (by decide)
      have hn137 := nob
      have hcs := Nat.le_of_ble_eq_true hcs
      have hcat := catS_eq (ad := adr B0 adc) hsv r
      have hea := wsO_at (ad := adr B0 adc) (tA := tA) hlt
      rw [ent_a2 hsa] at hea
      have heb := wsO_at (ad := adr B0 adc) (tA := tA) hltb
      rw [ent_a2 hsb] at heb
      have e1 : rr (adr B0 adc) a = some (adr B0 adc a) := by rw [rr_lt (by omega), adr_lt (by omega)]
      have e2 : rr (adr B0 adc) b = some (adr B0 adc b) := by rw [rr_lt (by omega), adr_lt (by omega)]
      have hD := wsO_D (B0 := B0) (adc := adc) (tA := tA) (cx := true) (σ := σ) hw.2.2.2
      have hneg : ∀ z : Int32, 0 ≤ z.toInt → ¬ z < 0 := fun z hz q => by rw [Int32.lt_iff_toInt_lt, Int32.toInt_zero] at q; omega
      show W p l e R s m args below meth cd H locs (nxx true σ - n0) (szs (nxx true σ) - szs n0) Q (F0 m pc lsM (.int n :: .int dp :: va_rf (rr (adr B0 adc) b) :: .int sp :: va_rf (rr (adr B0 adc) a) :: r.map (vmp (adr B0 adc) sv)))
      rw [e1, e2]
      have hnf : nativeFrameWords "java/lang/System" "arraycopy" 5 ≤ 20 := by decide
      refine va_copyi hx hb (hml.trans hl.2.1.symm) hown (hts _ hk) (hts _ (tb2 209 (by decide +kernel))) (hts _ (tb2 208 (by decide +kernel))) (hts _ (tb0 19 (by decide +kernel))) hK hw.2.1 hD hS a b 0 0 hea heb rfl rfl rfl (hneg sp k1) (hneg dp k2) (hneg n k3) (by show sp.toInt.toNat + n.toInt.toNat ≤ na; omega) (by show dp.toInt.toNat + n.toInt.toNat ≤ nb; omega) (fun _ _ => rfl) (by omega) (by rw [hcat]; omega) hd fun H1 locs1 f1 f2 f3 => ?_
      have hset := wsO_set (ad := adr B0 adc) (tA := tA) (cx := true) (σ := σ) (σ' := cpI σ a (ix sp) b (ix dp) (ix n)) (a := b) (e := .inl (tA 0, nb, .inl (va_cpy (gI σ a) (gI σ b) sp.toNatClampNeg dp.toNatClampNeg n.toNatClampNeg))) rfl (by
          rw [ent_a2 hsb]
          refine congrArg (fun z => (Sum.inl (tA 0, nb, Sum.inl z) : va_E)) (funext fun y => ?_)
          rw [gI_cpI, if_pos rfl]
          rfl) (fun z hz => ent_congr (fun k => by rw [gI_cpI, if_neg hz]) (fun k => rfl) (fun k => rfl))
      rw [hset] at f1
      exact h _ _ _ hc2 H1 locs1 lsM ⟨fun q => (by cases q), f1, ⟨fun k => by rw [gI_cpI, if_neg (SCR_ne hltb2)]; exact hw.2.2.1.1 k, hw.2.2.1.2⟩, hw.2.2.2⟩ f3 hl hn
    · exact hc.elim
  · exact hc.elim
theorem outer_eq (c : ClassId) (N h0 : Nat) : ∀ i : Nat, Jvm.Free.Multi.outerC c N h0 i = arrV c N (fun j => va_rf (if j < i then some (h0 + 1 + j) else none))
  | 0 => by
    show ({ cls := c, slots := Array.replicate N .null, vm := .none } : Cell) = _
    rw [arrV_new]
    exact congrArg (arrV c N) (funext fun j => by simp [va_rf])
  | i + 1 => by
    show (Jvm.Free.Multi.outerC c N h0 i).setSlot i (.ref (h0 + 1 + i)) = _
    rw [outer_eq c N h0 i, arrV_store]
    refine congrArg (arrV c N) (funext fun j => ?_)
    unfold updV
    by_cases e : j = i
    · subst e
      rw [if_pos rfl, if_pos (by omega)]
      rfl
    · rw [if_neg e]
      show va_rf (if j < i then some (h0 + 1 + j) else none) = _
      by_cases hlt : j < i
      · rw [if_pos hlt, if_pos (by omega)]
      · rw [if_neg hlt, if_neg (by omega)]
theorem gI_sM (σ : Sg) (n x y : Nat) : gI (sM σ n) x y = if nx σ ≤ x ∧ x < nx σ + (n + 1) then 0 else gI σ x y := rfl
theorem gL_sM (σ : Sg) (n x y : Nat) : gL (sM σ n) x y = if nx σ ≤ x ∧ x < nx σ + (n + 1) then 0 else gL σ x y := rfl
theorem gR_sM (σ : Sg) (n x y : Nat) : gR (sM σ n) x y = if x = nx σ then (if y < n then nx σ + 1 + y else NUL) else if nx σ < x ∧ x < nx σ + (n + 1) then NUL else gR σ x y := rfl
theorem szs_row (n : Nat) : ∀ i, (∀ j, j < i → sz (n + j) = 75) → szs (n + i) = szs n + 75 * i
  | 0, _ => rfl
  | i + 1, h => by
    have ih := szs_row n i (fun j hj => h j (by omega))
    have h1 := szs_s (n + i)
    have h2 := h i (by omega)
    show szs (n + i + 1) = _
    omega
theorem g_mna {cx : Bool} {cap : Nat} {call : Cl} {Φ : Po} {own mn : String} {cc : ByteArray} {nL : Nat} {ret : Option FieldType} {J : Nat → Ct} (A : Act cx cap call Φ own mn cc nL ret J) {pc : Nat} {ix : Nat} {c : Ct} (hd : decode cc pc = .ok (.multianewarray ix 2, 4)) (hlk : Cond.classLink own ix "[[I" ∈ gtb) (h : LE c (J (pc + 4))) : LE (o_mna cx cap c) (J pc) := by
  obtain ⟨p, l, e, R, s, m, args, below, meth, cd, Q, n0, d, B0, adc, tA, D, sv, xs, L0, ⟨hx, hb, hml, hown, hts, hK, hE, hX, hXB, hB, hAO⟩, ⟨hnm, hRc, hRs, hcap, hRf, hRl, hsv, hcn⟩, hcall, hret, rfl⟩ := A
  intro ls st σ hc H locs lsM hw hS hl hn
  unfold o_mna at hc
  split at hc
  · rename_i k n r
    obtain ⟨hg, hc2⟩ := cnd hc
    obtain ⟨-, hg⟩ := and2 hg
    obtain ⟨hle, hg⟩ := and2 hg
    obtain ⟨hn30, hg⟩ := and2 hg
    obtain ⟨hk75, hg⟩ := and2 hg
    obtain ⟨hs, hrow⟩ := and2 hg
    have hle := Nat.le_of_ble_eq_true hle
    have hn30 : n = 30 := of_decide_eq_true hn30
    have hk75 : k = 75 := of_decide_eq_true hk75
    subst hn30
    subst hk75
    have hs : shp (nx σ) = (7, 30) := by simpa using hs
    have hrow : ∀ j, j < 30 → shp (nx σ + 1 + j) = (2, 75) := fun j hj => by
      have := List.all_eq_true.mp hrow j (List.mem_range.mpr hj)
      simpa using this
    have hn2 : n0 ≤ nx σ := hn
    have hn137 := nob
    have hw1 := hw.1 rfl
    have hsz0 : sz (nx σ) = 30 := by unfold sz; rw [hs]; rfl
    have hszr : szs (nx σ + 1 + 30) = szs (nx σ + 1) + 75 * 30 := szs_row _ 30 (fun j hj => by unfold sz; rw [hrow j hj]; rfl)
    have hss := szs_s (nx σ)
    have hm := szs_le (show n0 ≤ nx σ from hn2)
    have hm2 : szs (nx σ + 1 + 30) ≤ szs cap := szs_le (by omega)
    intro T hT Xs
    have hTh : T.heap = H := hT
    have c30 : (30 : Int32).toNatClampNeg = 30 := by decide
    have c75 : (75 : Int32).toNatClampNeg = 75 := by decide
    obtain ⟨vm₁, cA, comp, -, fA, fC, -, -, X', step⟩ := Xs.multianewarray2F (ty := .int) hx hown (hts _ hlk) hAO.2.2.1 (hts _ (tb0 128 (by decide +kernel))) (g := F0 m pc lsM (.int 75 :: .int 30 :: r.map (vmp (adr B0 adc) sv))) rfl (by rw [hb]; exact hd) rfl (by decide) (by decide) (by rw [c30]; decide) (by rw [c75]; decide) (by rw [c75]; decide) rfl rfl (by rw [c30]; show nx σ - n0 + 31 ≤ _; omega) (by rw [c30, c75]; show szs (nx σ) - szs n0 + (30 + 30 * 75) ≤ _; omega)
    rw [c30, c75] at X' step
    have hcA : cA = tA 5 := Option.some.inj (fA.symm.trans (hK.2 5 _ rfl).2)
    have hcc : comp = tA 0 := Option.some.inj (fC.symm.trans (hK.2 0 _ rfl).2)
    subst hcA
    subst hcc
    generalize hF : Jvm.Free.Multi.fill (T.setVm vm₁) (tA 5) (tA 0) 30 75 (defaultValue .int) 30 = F at X' step
    obtain ⟨f1, f2, -, -⟩ := Jvm.Free.Multi.fill_facts (T.setVm vm₁) (tA 5) (tA 0) 30 75 (defaultValue .int) 30
    have hTv : (T.setVm vm₁).heap = H := hT
    rw [hF, hTv] at f1 f2
    have hold : ∀ x : Nat, x < H.size → F.heap[x]? = H[x]? := fun x hx => by
      have := Jvm.Free.Multi.fill_old (T.setVm vm₁) (tA 5) (tA 0) 30 75 (defaultValue .int) (a := x) (by rw [hTv]; exact hx) 30
      rw [hF, hTv] at this
      exact this
    have hin : ∀ j : Nat, j < 30 → F.heap[H.size + 1 + j]? = some (arrV (tA 0) 75 (fun _ => .int 0)) := fun j hj => by
      have := Jvm.Free.Multi.fill_inner (T.setVm vm₁) (tA 5) (tA 0) 30 75 (defaultValue .int) 30 j hj
      rw [hF, hTv] at this
      rw [this, ← arrV_new]
      rfl
    rw [outer_eq] at f2
    have hnx : nx (sM σ 30) = nx σ + 31 := rfl
    have hS95 : SCR = 95000 := rfl
    have hw2 : Wld false B0 adc tA D xs L0 (sM σ 30) F.heap := by
      refine ⟨fun _ => by rw [f1, hw1, hnx]; omega, fun a q hq => ?_, ⟨fun k => by rw [gI_sM, if_neg (by omega)]; exact hw.2.2.1.1 k, hw.2.2.1.2⟩, by show nx σ + 31 ≤ NOB; omega⟩
      have ha : a < nx σ + 31 := by
        have := (List.getElem?_eq_some_iff.mp hq).1
        rw [wsO_len] at this
        exact this
      rw [wsO_at (show a < nxx false (sM σ 30) from ha)] at hq
      cases hq
      by_cases h1 : a < nx σ
      · have e1 := wsO_at (ad := adr B0 adc) (tA := tA) (cx := false) (σ := σ) (show a < nxx false σ from h1)
        rw [ent_congr (σ' := sM σ 30) (σ := σ) (fun k => by rw [gI_sM, if_neg (by omega)]) (fun k => by rw [gL_sM, if_neg (by omega)]) (fun k => rfx_of (by rw [gR_sM, if_neg (by omega), if_neg (by omega)]))]
        have h2 := hw.2.1 a _ e1
        exact h2.kept (hold _ h2.lt)
      · by_cases h2 : a = nx σ
        · subst h2
          rw [ent_a7 hs]
          show F.heap[adr B0 adc (nx σ)]? = some (vp_cell _ _)
          rw [adr_lt (by omega), ← hw1, f2, vp_cell_q]
          refine congrArg some (congrArg (arrV (tA 5) 30) (funext fun j => ?_))
          show va_rf _ = va_rf (rr (adr B0 adc) (gR (sM σ 30) (nx σ) j))
          rw [gR_sM, if_pos rfl]
          by_cases hj : j < 30
          · rw [if_pos hj, if_pos hj, rr_lt (by omega), hw1]
            congr 2
            omega
          · rw [if_neg hj, if_neg hj]
            unfold rr
            rw [if_pos rfl]
        · obtain ⟨j, hj, rfl⟩ : ∃ j, j < 30 ∧ a = nx σ + 1 + j := ⟨a - nx σ - 1, by omega, by omega⟩
          rw [ent_a2 (hrow j hj)]
          show F.heap[adr B0 adc (nx σ + 1 + j)]? = some (vp_cell _ _)
          rw [adr_lt (by omega), show B0 + (nx σ + 1 + j) = H.size + 1 + j by omega, hin j hj, vp_cell_i]
          refine congrArg some (congrArg (arrV (tA 0) 75) (funext fun y => ?_))
          rw [gI_sM, if_pos (by omega)]
    have h9 := h _ _ _ hc2 F.heap locs lsM hw2 (hS.new (by omega) hold) hl (by show n0 ≤ nx σ + 31; omega)
    have e2 : nxx false (sM σ 30) - n0 = nx σ - n0 + 1 + 30 := by show nx σ + 31 - n0 = _; omega
    have e31 : nxx false (sM σ 30) = nx σ + 1 + 30 := by show nx σ + 31 = _; omega
    have e3 : szs (nxx false (sM σ 30)) - szs n0 = szs (nx σ) - szs n0 + 30 + 30 * 75 := by rw [e31]; omega
    rw [e2, e3, List.map_cons, show vmp (adr B0 adc) sv (.ref (nx σ)) = .ref H.size by show va_rf (rr (adr B0 adc) (nx σ)) = _; rw [rr_lt (by omega), hw1]; rfl] at h9
    obtain ⟨t, a1, b1⟩ := h9 F rfl X'
    refine ⟨t, step t ?_, b1⟩
    rw [show T.heap.size = H.size by rw [hTh]]
    exact a1
  · exact hc.elim
