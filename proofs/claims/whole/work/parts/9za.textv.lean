/-! TEXTS: the reference's pile -/
def MStk (σ : Sg) : List Int → Prop
  | [] => True
  | o :: r => rd σ 125 r.length = o ∧ MStk σ r
theorem MStk.of {σ σ' : Sg} : ∀ st : List Int, (∀ k, k < st.length → rd σ' 125 k = rd σ 125 k) → MStk σ st → MStk σ' st
  | [], _, _ => trivial
  | o :: r, h, ⟨h1, h2⟩ => ⟨(h r.length (Nat.lt_succ_self _)).trans h1, MStk.of r (fun k hk => h k (Nat.lt_succ_of_lt hk)) h2⟩
theorem MCode_app {σ : Sg} {t : Nat} : ∀ (a b : List (Int × Int)) (i : Nat), MCode σ t i (a ++ b) = (MCode σ t i a ∧ MCode σ t (i + a.length) b)
  | [], b, i => by
    show MCode σ t i b = (True ∧ MCode σ t (i + 0) b)
    rw [Nat.add_zero, true_and]
  | (o, v) :: r, b, i => by
    show ((rd σ 123 (705 * t + 97 + 2 * i) = o ∧ rd σ 123 (705 * t + 98 + 2 * i) = v) ∧ MCode σ t (i + 1) (r ++ b)) = (((rd σ 123 (705 * t + 97 + 2 * i) = o ∧ rd σ 123 (705 * t + 98 + 2 * i) = v) ∧ MCode σ t (i + 1) r) ∧ MCode σ t (i + (r.length + 1)) b)
    rw [MCode_app r b (i + 1), show i + 1 + r.length = i + (r.length + 1) from by omega]
    exact propext ⟨fun h => ⟨⟨h.1, h.2.1⟩, h.2.2⟩, fun h => ⟨h.1.1, h.1.2, h.2⟩⟩
theorem MCode_lt {σ σ' : Sg} {t : Nat} : ∀ (ops : List (Int × Int)) (i : Nat), (∀ k, 97 + 2 * i ≤ k → k < 97 + 2 * (i + ops.length) → rd σ' 123 (705 * t + k) = rd σ 123 (705 * t + k)) → MCode σ t i ops → MCode σ' t i ops
  | [], _, _, _ => trivial
  | (o, v) :: r, i, h, ⟨⟨h1, h2⟩, h3⟩ => by
    have hl : ((o, v) :: r).length = r.length + 1 := rfl
    refine ⟨⟨?_, ?_⟩, MCode_lt r (i + 1) (fun k k1 k2 => h k (by omega) (by omega)) h3⟩
    · have := h (97 + 2 * i) (by omega) (by omega)
      rw [show 705 * t + (97 + 2 * i) = 705 * t + 97 + 2 * i from by omega] at this
      rw [this]
      exact h1
    · have := h (98 + 2 * i) (by omega) (by omega)
      rw [show 705 * t + (98 + 2 * i) = 705 * t + 98 + 2 * i from by omega] at this
      rw [this]
      exact h2
def MPt (t l : Nat) (st : List Int) (cd : List (Int × Int)) (σ : Sg) : Prop := rd σ 120 12 = ((705 * t : Nat) : Int) ∧ rd σ 120 13 = (cd.length : Nat) ∧ rd σ 120 14 = (l : Nat) ∧ rd σ 120 16 = (st.length : Nat) ∧ MStk σ st ∧ rd σ 120 17 = (dep st : Nat) ∧ MCode σ t 0 cd ∧ rd σ 120 19 = (if l = 0 then 1 else 0)
abbrev FMs (t : Nat) : Ls := [(120, 13, 14), (120, 16, 18), (123, 705 * t + 97, 705 * t + 700)]
theorem FMs_no {t a k : Nat} (h : (a ≠ 120 ∨ (k ≠ 13 ∧ k ≠ 16 ∧ k ≠ 17)) ∧ (a ≠ 123 ∨ k < 705 * t + 97 ∨ 705 * t + 700 ≤ k)) : inS (FMs t) a k = false := not_inS (fun e he z => by
  obtain ⟨z1, z2, z3⟩ := z
  rcases List.mem_cons.mp he with rfl | he
  · have z1 : 120 = a := z1
    have z2 : 13 ≤ k := z2
    have z3 : k < 14 := z3
    omega
  rcases List.mem_cons.mp he with rfl | he
  · have z1 : 120 = a := z1
    have z2 : 16 ≤ k := z2
    have z3 : k < 18 := z3
    omega
  rw [List.mem_singleton] at he
  subst he
  have z1 : 123 = a := z1
  have z2 : 705 * t + 97 ≤ k := z2
  have z3 : k < 705 * t + 700 := z3
  omega)
theorem fsI {t k : Nat} {σ : Sg} {v : Int32} (h : k = 13 ∨ k = 16 ∨ k = 17) : Fr (FMs t) σ (sI σ 120 k v) := by
  rcases h with rfl | h
  · exact Fr.sI (inS_r (lo := 13) (hi := 14) (by simp) (by omega))
  · exact Fr.sI (inS_r (lo := 16) (hi := 18) (by simp) (by omega))
theorem sM_rank {d : Nat} {Φ : Po} {σ : Sg} {x : Int32} (hx : x.toInt ∈ opsL) (h : ∀ v : Int32, v.toInt = rk x.toInt → Φ (some (.int v)) σ) : wp true (d + 1) nM_rank [.int x] σ Φ := by
  have k40 : (40 : Int32).toInt = 40 := rfl
  have k22 : (22 : Int32).toInt = 22 := rfl
  have k21 : (21 : Int32).toInt = 21 := rfl
  have k20 : (20 : Int32).toInt = 20 := rfl
  have k10 : (10 : Int32).toInt = 10 := rfl
  have k3 : (3 : Int32).toInt = 3 := rfl
  have k2 : (2 : Int32).toInt = 2 := rfl
  have k8 : (8 : Int32).toInt = 8 := rfl
  have k6 : (6 : Int32).toInt = 6 := rfl
  unfold rk at h
  apply wM_rank
  simp only [pI, pL, pR, pV, i10, ↓reduceIte, eM_rank_0, eM_rank_10, eM_rank_20, eM_rank_30, eM_rank_40, eM_rank_50, eM_rank_66, eM_rank_71, eM_rank_82, eM_rank_83]
  simp only [ilt, ile, ieq, k40, k22, k21, k20, k10, k3, k2, k8, k6]
  generalize x.toInt = n at *
  by_cases c1 : n < 40
  · rw [if_pos c1]
    rw [if_neg (by omega)] at h
    by_cases c2 : n = 22
    · rw [if_pos c2] at h ⊢
      exact h 1 rfl
    rw [if_neg c2] at h ⊢
    by_cases c3 : n = 21
    · rw [if_pos c3] at h ⊢
      exact h 2 rfl
    rw [if_neg c3] at h ⊢
    by_cases c4 : n = 20
    · rw [if_pos c4] at h ⊢
      exact h 3 rfl
    rw [if_neg c4] at h ⊢
    by_cases c5 : n < 10
    · rw [if_pos c5]
      rw [if_neg (by omega)] at h
      by_cases c6 : n = 3
      · rw [if_pos c6]
        rw [if_pos (by omega)] at h
        exact h 7 rfl
      rw [if_neg c6]
      by_cases c7 : n = 2
      · rw [if_pos c7]
        rw [if_pos (by omega)] at h
        exact h 7 rfl
      rw [if_neg c7]
      by_cases c8 : n = 8
      · rw [if_pos c8]
        rw [if_pos (by omega)] at h
        exact h 7 rfl
      rw [if_neg c8]
      rw [if_neg (by omega)] at h
      by_cases c9 : n < 6
      · rw [if_pos c9]
        rw [if_neg (by omega)] at h
        exact h 5 rfl
      · rw [if_neg c9]
        rw [if_pos (by omega)] at h
        exact h 6 rfl
    · rw [if_neg c5]
      rw [if_pos (by omega)] at h
      exact h 4 rfl
  · rw [if_neg c1]
    rw [if_pos (by omega)] at h
    exact h 0 rfl
theorem sM_emit {d : Nat} {Φ : Po} {t : Nat} {cd : List (Int × Int)} {σ : Sg} {x1 x2 : Int32} {o v : Int} (ht : t < 4) (hP : rd σ 120 12 = ((705 * t : Nat) : Int) ∧ rd σ 120 13 = (cd.length : Nat) ∧ MCode σ t 0 cd) (h300 : cd.length < 300) (h1 : x1.toInt = o) (h2 : x2.toInt = v) (h : ∀ σ' : Sg, Fr (FMs t) σ σ' → rd σ' 120 13 = ((cd ++ [(o, v)]).length : Nat) → MCode σ' t 0 (cd ++ [(o, v)]) → (∀ k, k ≠ 13 → gI σ' 120 k = gI σ 120 k) → Φ none σ') : wp true (d + 1) nM_emit [.ref 120, .int x1, .int x2] σ Φ := by
  obtain ⟨p1, p2, p3⟩ := hP
  have l97 : (97 : Int32).toInt = 97 := rfl
  have l2 : (2 : Int32).toInt = 2 := rfl
  have g12 : (gI σ 120 12).toInt = ((705 * t : Nat) : Int) := p1
  have g13 : (gI σ 120 13).toInt = (cd.length : Nat) := p2
  have a1 : (gI σ 120 12 + 97).toInt = ((705 * t + 97 : Nat) : Int) := by rw [tP (by rw [g12, l97]; omega), g12, l97]; omega
  have a2 : (2 * gI σ 120 13).toInt = ((2 * cd.length : Nat) : Int) := by rw [tX (by rw [g13, l2]; omega), g13, l2]; omega
  have a3 : (gI σ 120 12 + 97 + 2 * gI σ 120 13).toInt = ((705 * t + 97 + 2 * cd.length : Nat) : Int) := by rw [tP (by rw [a1, a2]; omega), a1, a2]; omega
  have a4 : (gI σ 120 12 + 97 + 2 * gI σ 120 13 + 1).toInt = ((705 * t + 98 + 2 * cd.length : Nat) : Int) := by rw [tq1 _ (by omega), a3]; omega
  apply wM_emit
  simp only [pI, pL, pR, pV, i10, ↓reduceIte, eM_emit_0]
  simp only [gIne (show (120 : Nat) ≠ 123 by decide)]
  have i3 : ix (gI σ 120 12 + 97 + 2 * gI σ 120 13) = 705 * t + 97 + 2 * cd.length := ix_of a3
  have i4 : ix (gI σ 120 12 + 97 + 2 * gI σ 120 13 + 1) = 705 * t + 98 + 2 * cd.length := ix_of a4
  rw [i3, i4]
  generalize gI σ 120 12 + 97 + 2 * gI σ 120 13 + 1 = y4 at *
  generalize gI σ 120 12 + 97 + 2 * gI σ 120 13 = y3 at *
  refine ⟨⟨by omega, by omega⟩, ⟨by omega, by omega⟩, ?_⟩
  refine h _ (((Fr.sI (inS_r (lo := 705 * t + 97) (hi := 705 * t + 700) (by simp) (by omega))).tr (Fr.sI (inS_r (lo := 705 * t + 97) (hi := 705 * t + 700) (by simp) (by omega)))).tr (fsI (by omega))) ?_ ?_ (fun k hk => ?_)
  · rw [rdeq, List.length_append, List.length_singleton, tq1 _ (by omega), g13]
    omega
  · rw [MCode_app]
    refine ⟨MCode_lt _ _ (fun k k1 k2 => ?_) p3, ⟨?_, ?_⟩, trivial⟩
    · rw [rdne (by omega), rdne2 (by omega), rdne2 (by omega)]
    · rw [rdne (by omega), rdne2 (by omega), Nat.zero_add, rdeq]
      exact h1
    · rw [rdne (by omega), Nat.zero_add, rdeq]
      exact h2
  · rw [gIne2 hk, gIne (by omega), gIne (by omega)]
theorem hM_settle_0 (d : Nat) (Φ : Po) (ls st : List Value) (σ : Sg) (h : bM_settle_0 true NOB (wp true d) Φ (kM_settle d Φ) ls st σ) : kM_settle d Φ 0 ls st σ := Ev.i h
/-- what stands while a law is read, the frame's rest -/
theorem MPt.of {t l : Nat} {st : List Int} {cd : List (Int × Int)} {σ σ' : Sg} (h : MPt t l st cd σ) (e1 : ∀ k, k = 12 ∨ k = 13 ∨ k = 14 ∨ k = 16 ∨ k = 17 ∨ k = 19 → rd σ' 120 k = rd σ 120 k) (e2 : ∀ k, k < 160 → rd σ' 125 k = rd σ 125 k) (e3 : ∀ k, 97 ≤ k → k < 700 → rd σ' 123 (705 * t + k) = rd σ 123 (705 * t + k)) (h160 : st.length ≤ 160) (h300 : cd.length ≤ 300) : MPt t l st cd σ' := by
  obtain ⟨p1, p2, p3, p4, p5, p6, p7, p8⟩ := h
  exact ⟨by rw [e1 _ (by omega)]; exact p1, by rw [e1 _ (by omega)]; exact p2, by rw [e1 _ (by omega)]; exact p3, by rw [e1 _ (by omega)]; exact p4, MStk.of st (fun k hk => e2 k (by omega)) p5, by rw [e1 _ (by omega)]; exact p6, MCode_lt cd 0 (fun k k1 k2 => e3 k (by omega) (by omega)) p7, by rw [e1 _ (by omega)]; exact p8⟩
theorem lM_settle {d : Nat} {Φ : Po} {t l : Nat} {σ0 : Sg} {x1 : Int32} {k : Int} (ht : t < 4) (hx : x1.toInt = k) : ∀ (st : List Int) (cd : List (Int × Int)) (σ : Sg), (∀ x, x ∈ st → x ∈ opsL) → (1 ≤ k) → cd.length + st.length ≤ 300 → st.length ≤ 160 → Fr (FMs t) σ0 σ → MPt t l st cd σ → (∀ σ' : Sg, Fr (FMs t) σ0 σ' → MPt t l (setl k st).1 (cd ++ (setl k st).2) σ' → Φ none σ') → bM_settle_0 true NOB (wp true (d + 1)) Φ (kM_settle (d + 1) Φ) [.ref 120, .int x1] [] σ := by
  have k7 : (7 : Int32).toInt = 7 := rfl
  have k20 : (20 : Int32).toInt = 20 := rfl
  have k0 : (0 : Int32).toInt = 0 := rfl
  intro st
  induction st with
  | nil =>
    intro cd σ hv hk h300 h160 hF hP h
    have g16 : (gI σ 120 16).toInt = 0 := hP.2.2.2.1
    simp only [pI, pL, pR, pV, i10, ↓reduceIte, eM_settle_0]
    simp only [ile, g16, k0]
    rw [if_pos (by omega)]
    simp only [pI, pL, pR, pV, i10, ↓reduceIte, eM_settle_93]
    exact h σ hF (by show MPt t l [] (cd ++ []) σ; rw [List.append_nil]; exact hP)
  | cons o r ih =>
    intro cd σ hv hk h300 h160 hF hP h
    obtain ⟨p1, p2, p3, p4, p5, p6, p7, p8⟩ := hP
    have ho := hv o List.mem_cons_self
    have hdl := dep_le r
    rw [List.length_cons] at h300 h160 p4
    have g16 : (gI σ 120 16).toInt = ((r.length + 1 : Nat) : Int) := p4
    have g17 : (gI σ 120 17).toInt = ((dep (o :: r) : Nat) : Int) := p6
    have e : setl k (o :: r) = if k ≤ rk o then ((setl k r).1, (o, 0) :: (setl k r).2) else (o :: r, []) := rfl
    have a16 : (gI σ 120 16 - 1).toInt = (r.length : Nat) := by rw [tM (by rw [g16, tl1]; omega), g16, tl1]; omega
    have i16 : ix (gI σ 120 16 - 1) = r.length := ix_of a16
    have g125 : (gI σ 125 r.length).toInt = o := p5.1
    simp only [pI, pL, pR, pV, i10, ↓reduceIte, eM_settle_0]
    simp only [ile, g16, k0]
    rw [if_neg (by omega), i16]
    generalize hy : gI σ 120 16 - 1 = y at *
    refine ⟨⟨by omega, by omega⟩, ?_⟩
    refine sM_rank (by rw [g125]; exact ho) (fun v hv1 => ?_)
    rw [g125] at hv1
    simp only [pI, pL, pR, pV, i10, ↓reduceIte, eM_settle_21]
    simp only [ilt, hv1, hx, hy]
    by_cases c : k ≤ rk o
    · rw [if_neg (by omega)]
      rw [e, if_pos c] at h
      have b16 : (gI (sI σ 120 16 y) 120 16) = y := gIeq
      rw [b16, i16]
      have b125 : gI (sI σ 120 16 y) 125 r.length = gI σ 125 r.length := gIne (by omega)
      rw [b125]
      refine ⟨⟨by omega, by omega⟩, ?_⟩
      have hF1 : Fr (FMs t) σ (sI σ 120 16 y) := fsI (by omega)
      refine sM_emit (cd := cd) (o := o) (v := 0) ht ⟨by rw [rdne2 (by omega)]; exact p1, by rw [rdne2 (by omega)]; exact p2, MCode_lt cd 0 (fun j _ _ => rdne (by omega)) p7⟩ (by omega) g125 rfl (fun σ2 hF2 q13 qC qk => ?_)
      have n16 : gI σ2 120 16 = y := by rw [qk _ (by omega)]; exact b16
      have n125 : ∀ j, rd σ2 125 j = rd σ 125 j := fun j => by rw [hF2.rd (FMs_no (by omega)), rdne (by omega)]
      have n125' : (gI σ2 125 r.length).toInt = o := (n125 r.length).trans g125
      have nk : ∀ j, j ≠ 13 → j ≠ 16 → rd σ2 120 j = rd σ 120 j := fun j j1 j2 => by
        show (gI σ2 120 j).toInt = _
        rw [qk j j1, gIne2 j2]
        rfl
      have n17 : (gI σ2 120 17).toInt = ((dep (o :: r) : Nat) : Int) := (nk 17 (by omega) (by omega)).trans g17
      have hFa := (hF.tr hF1).tr hF2
      have nxt : ∀ σ3 : Sg, Fr (FMs t) σ0 σ3 → MPt t l r (cd ++ [(o, 0)]) σ3 → bM_settle_0 true NOB (wp true (d + 1)) Φ (kM_settle (d + 1) Φ) [.ref 120, .int x1] [] σ3 := fun σ3 a b => by
        refine ih (cd ++ [(o, 0)]) σ3 (fun x hx => hv x (List.mem_cons_of_mem _ hx)) hk (by rw [List.length_append, List.length_singleton]; omega) (by omega) a b (fun σ' c1 c2 => h σ' c1 ?_)
        rw [List.append_assoc] at c2
        exact c2
      have base : ∀ σ3 : Sg, (∀ j, j ≠ 17 → rd σ3 120 j = rd σ2 120 j) → (∀ a j, a ≠ 120 → rd σ3 a j = rd σ2 a j) → rd σ3 120 17 = (dep r : Nat) → MPt t l r (cd ++ [(o, 0)]) σ3 := fun σ3 a b c => by
        refine ⟨by rw [a _ (by omega), nk _ (by omega) (by omega)]; exact p1, by rw [a _ (by omega)]; exact q13, by rw [a _ (by omega), nk _ (by omega) (by omega)]; exact p3, ?_, MStk.of (σ := σ) r (fun j _ => by rw [b _ _ (by omega), n125]) p5.2, c, MCode_lt (σ := σ2) _ 0 (fun j _ _ => b _ _ (by omega)) qC, by rw [a _ (by omega), nk _ (by omega) (by omega)]; exact p8⟩
        rw [a _ (by omega)]
        show (gI σ2 120 16).toInt = _
        rw [n16]
        exact a16
      have dec : (rk o = 0 ∨ rk o = 3 ∨ rk o = 7) → bM_settle_80 true NOB (wp true (d + 1)) Φ (kM_settle (d + 1) Φ) [.ref 120, .int x1] [] σ2 := fun q => by
        have hdep : dep (o :: r) = dep r + 1 := by rw [dep_c, if_pos q]
        rw [hdep] at n17
        simp only [pI, pL, pR, pV, i10, ↓reduceIte, eM_settle_80]
        refine hM_settle_0 _ _ _ _ _ (nxt _ (hFa.tr (fsI (by omega))) (base _ (fun j hj => rdne2 hj) (fun a j hj => rdne hj) ?_))
        rw [rdeq, tM (by rw [n17, tl1]; omega), n17, tl1]
        omega
      simp only [pI, pL, pR, pV, i10, ↓reduceIte, eM_settle_49]
      rw [n16, i16]
      refine ⟨⟨by omega, by omega⟩, ?_⟩
      refine sM_rank (by rw [n125']; exact ho) (fun v2 hv2 => ?_)
      rw [n125'] at hv2
      simp only [pI, pL, pR, pV, i10, ↓reduceIte, eM_settle_61]
      simp only [ieq, hv2, k7, n16, i16, n125', k20]
      by_cases c7 : rk o = 7
      · rw [if_pos c7]
        exact dec (by omega)
      rw [if_neg c7]
      refine ⟨⟨by omega, by omega⟩, ?_⟩
      by_cases c20 : o = 20
      · rw [if_pos c20]
        exact dec (by rw [c20]; decide)
      rw [if_neg c20]
      have hdep : dep (o :: r) = dep r := by
        rw [dep_c, if_neg ?_]
        · rfl
        · have r3 : rk o = 3 → o = 20 := by
            intro q
            unfold rk at q
            repeat' split at q
            all_goals omega
          intro q
          rcases q with q | q | q
          · omega
          · exact c20 (r3 q)
          · exact c7 q
      rw [hdep] at n17
      exact hM_settle_0 _ _ _ _ _ (nxt _ hFa (base _ (fun _ _ => rfl) (fun _ _ _ => rfl) n17))
    · rw [if_pos (by omega)]
      rw [e, if_neg c] at h
      simp only [pI, pL, pR, pV, i10, ↓reduceIte, eM_settle_93]
      exact h σ hF (by show MPt t l (o :: r) (cd ++ []) σ; rw [List.append_nil]; exact ⟨p1, p2, p3, p4, p5, p6, p7, p8⟩)
theorem sM_settle {d : Nat} {Φ : Po} {t l : Nat} {σ : Sg} {x1 : Int32} {k : Int} {st : List Int} {cd : List (Int × Int)} (ht : t < 4) (hx : x1.toInt = k) (hv : ∀ x, x ∈ st → x ∈ opsL) (hk : 1 ≤ k) (h300 : cd.length + st.length ≤ 300) (h160 : st.length ≤ 160) (hP : MPt t l st cd σ) (h : ∀ σ' : Sg, Fr (FMs t) σ σ' → MPt t l (setl k st).1 (cd ++ (setl k st).2) σ' → Φ none σ') : wp true (d + 2) nM_settle [.ref 120, .int x1] σ Φ := by
  apply wM_settle
  exact lM_settle ht hx st cd σ hv hk h300 h160 Fr.rf hP h
