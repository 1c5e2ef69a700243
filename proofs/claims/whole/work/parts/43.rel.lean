/-! THE RELATION of the class's store and the reference's; its parts, what each reads -/
abbrev Ls : Type := List (Nat × Nat × Nat)
def dsj (S T : Ls) : Bool := S.all (fun e => T.all (fun f => !(Nat.beq e.1 f.1) || (Nat.ble e.2.2 f.2.1 || Nat.ble f.2.2 e.2.1)))
theorem inS_ex {S : Ls} {a k : Nat} (h : inS S a k = true) : ∃ e, e ∈ S ∧ e.1 = a ∧ e.2.1 ≤ k ∧ k < e.2.2 := by
  unfold inS at h
  rw [List.any_eq_true] at h
  obtain ⟨e, he, h⟩ := h
  rw [Bool.and_eq_true, Bool.and_eq_true] at h
  exact ⟨e, he, Nat.eq_of_beq_eq_true h.1, Nat.le_of_ble_eq_true h.2.1, Nat.le_of_ble_eq_true h.2.2⟩
theorem dsj_ok {S T : Ls} (h : dsj S T = true) {a k : Nat} (hs : inS S a k = true) : inS T a k = false := by
  apply Bool.eq_false_iff.mpr
  intro ht
  obtain ⟨e, he, e1, e2, e3⟩ := inS_ex hs
  obtain ⟨f, hf, f1, f2, f3⟩ := inS_ex ht
  unfold dsj at h
  rw [List.all_eq_true] at h
  have h := h e he
  rw [List.all_eq_true] at h
  have h := h f hf
  rw [Bool.or_eq_true, Bool.or_eq_true, Bool.not_eq_true'] at h
  rcases h with h | h | h
  · have : Nat.beq e.1 f.1 = true := by rw [e1, f1]; exact Nat.beq_refl a
    rw [this] at h
    cases h
  · have := Nat.le_of_ble_eq_true h
    omega
  · have := Nat.le_of_ble_eq_true h
    omega
/-- the cells of S stand as they stood -/
def Eqc (S : Ls) (σ σ' : Sg) : Prop := ∀ a k, inS S a k = true → rd σ' a k = rd σ a k
theorem Fr.eqc {S T : Ls} {σ σ' : Sg} (h : Fr T σ σ') (hd : dsj S T = true) : Eqc S σ σ' := fun _ _ q => h.rd (dsj_ok hd q)
theorem Eqc.mo {S T : Ls} {σ σ' : Sg} (h : Eqc T σ σ') (hs : ∀ e, e ∈ S → e ∈ T) : Eqc S σ σ' := fun a k q => by
  obtain ⟨e, he, e1, e2, e3⟩ := inS_ex q
  obtain ⟨x, lo, hi⟩ := e
  have e1 : x = a := e1
  subst e1
  exact h x k (inS_r (hs _ he) ⟨e2, e3⟩)
theorem Eqc.at {S : Ls} {σ σ' : Sg} (h : Eqc S σ σ') {a lo hi k : Nat} (hm : (a, lo, hi) ∈ S) (hk : lo ≤ k ∧ k < hi) : rd σ' a k = rd σ a k := h a k (inS_r hm hk)
/-- winds, villages, quarters, roofs -/
def fG1 (b a : Nat) : Ls := [(1 + b, 4, 5), (1 + b, 6, 7), (34 + b, 0, 6), (35 + b, 0, 6), (a, 0, 2), (a, 12, 13), (a, 20, 21), (a, 28, 29), (a, 36, 37), (a, 44, 45), (a, 52, 53), (a, 60, 61), (a, 64, 65), (a, 68, 69), (a, 72, 73), (a, 76, 77), (a, 80, 81)]
def G1 (b a : Nat) (σ : Sg) : Prop := rd σ (1 + b) 4 = rd σ a 0 ∧ rd σ (1 + b) 6 = rd σ a 1 ∧ (∀ w, w < 6 → rd σ (34 + b) w = rd σ a (12 + 8 * w)) ∧ (∀ v, v < 6 → rd σ (35 + b) v = rd σ a (60 + 4 * v)) ∧ (0 ≤ rd σ a 0 ∧ rd σ a 0 ≤ 6) ∧ (0 ≤ rd σ a 1 ∧ rd σ a 1 ≤ 6)
theorem fG1q {b a w : Nat} (h : w < 6) : inS (fG1 b a) a (12 + 8 * w) = true ∧ inS (fG1 b a) a (60 + 4 * w) = true := by
  have : w = 0 ∨ w = 1 ∨ w = 2 ∨ w = 3 ∨ w = 4 ∨ w = 5 := by omega
  rcases this with rfl | rfl | rfl | rfl | rfl | rfl
  · exact ⟨inS_r (lo := 12) (hi := 13) (by simp [fG1]) (by omega), inS_r (lo := 60) (hi := 61) (by simp [fG1]) (by omega)⟩
  · exact ⟨inS_r (lo := 20) (hi := 21) (by simp [fG1]) (by omega), inS_r (lo := 64) (hi := 65) (by simp [fG1]) (by omega)⟩
  · exact ⟨inS_r (lo := 28) (hi := 29) (by simp [fG1]) (by omega), inS_r (lo := 68) (hi := 69) (by simp [fG1]) (by omega)⟩
  · exact ⟨inS_r (lo := 36) (hi := 37) (by simp [fG1]) (by omega), inS_r (lo := 72) (hi := 73) (by simp [fG1]) (by omega)⟩
  · exact ⟨inS_r (lo := 44) (hi := 45) (by simp [fG1]) (by omega), inS_r (lo := 76) (hi := 77) (by simp [fG1]) (by omega)⟩
  · exact ⟨inS_r (lo := 52) (hi := 53) (by simp [fG1]) (by omega), inS_r (lo := 80) (hi := 81) (by simp [fG1]) (by omega)⟩
theorem G1.of {b a : Nat} {σ σ' : Sg} (h : Eqc (fG1 b a) σ σ') (g : G1 b a σ) : G1 b a σ' := by
  obtain ⟨g1, g2, g3, g4, g5, g6⟩ := g
  have e0 : rd σ' a 0 = rd σ a 0 := h.at (lo := 0) (hi := 2) (by simp [fG1]) (by omega)
  have e1 : rd σ' a 1 = rd σ a 1 := h.at (lo := 0) (hi := 2) (by simp [fG1]) (by omega)
  refine ⟨?_, ?_, fun w hw => ?_, fun w hw => ?_, by rw [e0]; exact g5, by rw [e1]; exact g6⟩
  · rw [e0, h.at (lo := 4) (hi := 5) (by simp [fG1]) (by omega), g1]
  · rw [e1, h.at (lo := 6) (hi := 7) (by simp [fG1]) (by omega), g2]
  · rw [h _ _ (fG1q hw).1, h.at (lo := 0) (hi := 6) (by simp [fG1]) (by omega), g3 w hw]
  · rw [h _ _ (fG1q hw).2, h.at (lo := 0) (hi := 6) (by simp [fG1]) (by omega), g4 w hw]
/-- ways -/
def fG2 (b a : Nat) : Ls := [(36 + b, 0, 36), (a, 84, 120)]
def G2 (b a : Nat) (σ : Sg) : Prop := ∀ i, i < 36 → rd σ (36 + b) i = rd σ a (84 + i) ∧ 0 ≤ rd σ a (84 + i) ∧ rd σ a (84 + i) ≤ 99
theorem G2.of {b a : Nat} {σ σ' : Sg} (h : Eqc (fG2 b a) σ σ') (g : G2 b a σ) : G2 b a σ' := fun i hi => by
  rw [h.at (a := a) (lo := 84) (hi := 120) (by simp [fG2]) (by omega), h.at (a := 36 + b) (lo := 0) (hi := 36) (by simp [fG2]) (by omega)]
  exact g i hi
/-- texts, the ruling one -/
def fG3 (b a : Nat) : Ls := [(1 + b, 9, 11), (a, 2, 4)]
def G3 (b a : Nat) (σ : Sg) : Prop := rd σ (1 + b) 9 = rd σ a 2 ∧ rd σ (1 + b) 10 = rd σ a 3 ∧ (0 ≤ rd σ a 2 ∧ rd σ a 2 ≤ 4) ∧ (-1 ≤ rd σ a 3 ∧ rd σ a 3 < rd σ a 2)
theorem G3.of {b a : Nat} {σ σ' : Sg} (h : Eqc (fG3 b a) σ σ') (g : G3 b a σ) : G3 b a σ' := by
  unfold G3
  rw [h.at (a := a) (lo := 2) (hi := 4) (k := 2) (by simp [fG3]) (by omega), h.at (a := a) (lo := 2) (hi := 4) (k := 3) (by simp [fG3]) (by omega), h.at (a := 1 + b) (lo := 9) (hi := 11) (k := 9) (by simp [fG3]) (by omega), h.at (a := 1 + b) (lo := 9) (hi := 11) (k := 10) (by simp [fG3]) (by omega)]
  exact g
/-- what was taken (told) -/
def fG4 (b a : Nat) : Ls := [(1 + b, 11, 12), (37 + b, 0, 8), (38 + b, 0, 8), (a, 5, 6), (a, 120, 136), (a, 1, 2)]
def G4 (b a : Nat) (σ : Sg) : Prop := rd σ (1 + b) 11 = rd σ a 5 ∧ (0 ≤ rd σ a 5 ∧ rd σ a 5 ≤ 8) ∧ (∀ k, k < 8 → rd σ (37 + b) k = rd σ a (120 + 2 * k) ∧ rd σ (38 + b) k = rd σ a (121 + 2 * k)) ∧ (∀ k : Nat, (k : Int) < rd σ a 5 → (0 ≤ rd σ a (120 + 2 * k) ∧ rd σ a (120 + 2 * k) < rd σ a 1) ∧ (0 ≤ rd σ a (121 + 2 * k) ∧ rd σ a (121 + 2 * k) ≤ 99))
theorem G4.of {b a : Nat} {σ σ' : Sg} (h : Eqc (fG4 b a) σ σ') (g : G4 b a σ) : G4 b a σ' := by
  have e5 : rd σ' a 5 = rd σ a 5 := h.at (lo := 5) (hi := 6) (by simp [fG4]) (by omega)
  have e1 : rd σ' a 1 = rd σ a 1 := h.at (lo := 1) (hi := 2) (by simp [fG4]) (by omega)
  have ec : rd σ' (1 + b) 11 = rd σ (1 + b) 11 := h.at (lo := 11) (hi := 12) (by simp [fG4]) (by omega)
  have ek : ∀ k, 120 ≤ k → k < 136 → rd σ' a k = rd σ a k := fun k h1 h2 => h.at (lo := 120) (hi := 136) (by simp [fG4]) (by omega)
  obtain ⟨g1, g2, g3, g4⟩ := g
  refine ⟨by rw [ec, e5]; exact g1, by rw [e5]; exact g2, fun k hk => ?_, fun k hk => ?_⟩
  · rw [ek _ (by omega) (by omega), ek _ (by omega) (by omega), h.at (a := 37 + b) (lo := 0) (hi := 8) (by simp [fG4]) (by omega), h.at (a := 38 + b) (lo := 0) (hi := 8) (by simp [fG4]) (by omega)]
    exact g3 k hk
  · rw [e5] at hk
    rw [e1, ek _ (by omega) (by omega), ek _ (by omega) (by omega)]
    exact g4 k hk
/-- torn sails -/
def fG5 (b a : Nat) : Ls := [(1 + b, 14, 15), (39 + b, 0, 5), (a, 6, 7), (a, 136, 141)]
def G5 (b a : Nat) (σ : Sg) : Prop := rd σ (1 + b) 14 = rd σ a 6 ∧ (0 ≤ rd σ a 6 ∧ rd σ a 6 ≤ 5) ∧ (∀ k, k < 5 → rd σ (39 + b) k = rd σ a (136 + k)) ∧ (∀ k : Nat, (k : Int) < rd σ a 6 → 0 ≤ rd σ a (136 + k) ∧ rd σ a (136 + k) ≤ 9)
theorem G5.of {b a : Nat} {σ σ' : Sg} (h : Eqc (fG5 b a) σ σ') (g : G5 b a σ) : G5 b a σ' := by
  have e6 : rd σ' a 6 = rd σ a 6 := h.at (lo := 6) (hi := 7) (by simp [fG5]) (by omega)
  have ec : rd σ' (1 + b) 14 = rd σ (1 + b) 14 := h.at (lo := 14) (hi := 15) (by simp [fG5]) (by omega)
  have ek : ∀ k, 136 ≤ k → k < 141 → rd σ' a k = rd σ a k := fun k h1 h2 => h.at (lo := 136) (hi := 141) (by simp [fG5]) (by omega)
  obtain ⟨g1, g2, g3, g4⟩ := g
  refine ⟨by rw [ec, e6]; exact g1, by rw [e6]; exact g2, fun k hk => ?_, fun k hk => ?_⟩
  · rw [ek _ (by omega) (by omega), h.at (a := 39 + b) (lo := 0) (hi := 5) (by simp [fG5]) (by omega)]
    exact g3 k hk
  · rw [e6] at hk
    rw [ek _ (by omega) (by omega)]
    exact g4 k hk
/-- kinds -/
def fG6 (b a : Nat) : Ls := [(1 + b, 16, 17), (40 + b, 0, 5), (a, 7, 8), (a, 141, 146)]
def G6 (b a : Nat) (σ : Sg) : Prop := rd σ (1 + b) 16 = rd σ a 7 ∧ (0 ≤ rd σ a 7 ∧ rd σ a 7 ≤ 5) ∧ (∀ k, k < 5 → rd σ (40 + b) k = rd σ a (141 + k)) ∧ (∀ k : Nat, (k : Int) < rd σ a 7 → 1 ≤ rd σ a (141 + k) ∧ rd σ a (141 + k) ≤ 99)
theorem G6.of {b a : Nat} {σ σ' : Sg} (h : Eqc (fG6 b a) σ σ') (g : G6 b a σ) : G6 b a σ' := by
  have e6 : rd σ' a 7 = rd σ a 7 := h.at (lo := 7) (hi := 8) (by simp [fG6]) (by omega)
  have ec : rd σ' (1 + b) 16 = rd σ (1 + b) 16 := h.at (lo := 16) (hi := 17) (by simp [fG6]) (by omega)
  have ek : ∀ k, 141 ≤ k → k < 146 → rd σ' a k = rd σ a k := fun k h1 h2 => h.at (lo := 141) (hi := 146) (by simp [fG6]) (by omega)
  obtain ⟨g1, g2, g3, g4⟩ := g
  refine ⟨by rw [ec, e6]; exact g1, by rw [e6]; exact g2, fun k hk => ?_, fun k hk => ?_⟩
  · rw [ek _ (by omega) (by omega), h.at (a := 40 + b) (lo := 0) (hi := 5) (by simp [fG6]) (by omega)]
    exact g3 k hk
  · rw [e6] at hk
    rw [ek _ (by omega) (by omega)]
    exact g4 k hk
/-- the environment without laws, and with the ruling ones -/
def E0 (σ : Sg) (a : Nat) : En := ((rd σ a 0).toNat, (rd σ a 1).toNat, (fun w => if w < 6 then rd σ a (12 + 8 * w) else 0), (fun v => if v < 6 then rd σ a (60 + 4 * v) else 0), fun _ => none)
abbrev Lws : Type := Nat → Nat → Option (List (Int × Int))
def EE (lws : Lws) (σ : Sg) : En := ((rd σ 121 0).toNat, (rd σ 121 1).toNat, (fun w => if w < 6 then rd σ 121 (12 + 8 * w) else 0), (fun v => if v < 6 then rd σ 121 (60 + 4 * v) else 0), fun l => if rd σ 121 3 < 0 then none else lws (rd σ 121 3).toNat l)
theorem E0_of {b a : Nat} {σ σ' : Sg} (h : Eqc (fG1 b a) σ σ') : E0 σ' a = E0 σ a := by
  unfold E0
  have e0 : rd σ' a 0 = rd σ a 0 := h.at (lo := 0) (hi := 2) (by simp [fG1]) (by omega)
  have e1 : rd σ' a 1 = rd σ a 1 := h.at (lo := 0) (hi := 2) (by simp [fG1]) (by omega)
  have e2 : (fun w => if w < 6 then rd σ' a (12 + 8 * w) else 0) = fun w => if w < 6 then rd σ a (12 + 8 * w) else 0 := by
    funext w
    by_cases q : w < 6
    · rw [if_pos q, if_pos q, h _ _ (fG1q q).1]
    · rw [if_neg q, if_neg q]
  have e3 : (fun w => if w < 6 then rd σ' a (60 + 4 * w) else 0) = fun w => if w < 6 then rd σ a (60 + 4 * w) else 0 := by
    funext w
    by_cases q : w < 6
    · rw [if_pos q, if_pos q, h _ _ (fG1q q).2]
    · rw [if_neg q, if_neg q]
  rw [e0, e1, e2, e3]
def WsOk (n : Nat) (c : Co) : Prop := wsum c n ≤ 9 * n
/-- the core, its bounds; what isn't told is 0 -/
def fG7 (b a : Nat) : Ls := (2 + b, 0, 44) :: fG1 b a ++ [(a, 8, 10), (a, 13, 20), (a, 21, 28), (a, 29, 36), (a, 37, 44), (a, 45, 52), (a, 53, 60), (a, 61, 64), (a, 65, 68), (a, 69, 72), (a, 73, 76), (a, 77, 80), (a, 81, 84)]
def fMx (a : Nat) : Ls := [(a, 8, 10), (a, 13, 20), (a, 21, 28), (a, 29, 36), (a, 37, 44), (a, 45, 52), (a, 53, 60), (a, 61, 64), (a, 65, 68), (a, 69, 72), (a, 73, 76), (a, 77, 80), (a, 81, 84)]
def COk (σ : Sg) (a : Nat) (c : Co) : Prop := Ok (E0 σ a) c ∧ TkOk (E0 σ a) c ∧ WsOk (rd σ a 0).toNat c
def Zr (σ : Sg) (a : Nat) : Prop := (∀ w : Nat, w < 6 → rd σ a 0 ≤ w → ∀ k, k < 8 → k ≠ 0 → rd σ a (12 + 8 * w + k) = 0) ∧ (∀ v : Nat, v < 6 → rd σ a 1 ≤ v → ∀ k, k < 4 → k ≠ 0 → rd σ a (60 + 4 * v + k) = 0)
def G7 (b a : Nat) (σ : Sg) : Prop := rc σ (2 + b) = mc σ a ∧ COk σ a (mc σ a) ∧ Zr σ a
theorem mx_in {a w k : Nat} (h : w < 6) (h0 : k ≠ 0) : (k < 8 → inS (fMx a) a (12 + 8 * w + k) = true) ∧ (k < 4 → inS (fMx a) a (60 + 4 * w + k) = true) := by
  have : w = 0 ∨ w = 1 ∨ w = 2 ∨ w = 3 ∨ w = 4 ∨ w = 5 := by omega
  rcases this with rfl | rfl | rfl | rfl | rfl | rfl
  · exact ⟨fun q => inS_r (lo := 13) (hi := 20) (by simp [fMx]) (by omega), fun q => inS_r (lo := 61) (hi := 64) (by simp [fMx]) (by omega)⟩
  · exact ⟨fun q => inS_r (lo := 21) (hi := 28) (by simp [fMx]) (by omega), fun q => inS_r (lo := 65) (hi := 68) (by simp [fMx]) (by omega)⟩
  · exact ⟨fun q => inS_r (lo := 29) (hi := 36) (by simp [fMx]) (by omega), fun q => inS_r (lo := 69) (hi := 72) (by simp [fMx]) (by omega)⟩
  · exact ⟨fun q => inS_r (lo := 37) (hi := 44) (by simp [fMx]) (by omega), fun q => inS_r (lo := 73) (hi := 76) (by simp [fMx]) (by omega)⟩
  · exact ⟨fun q => inS_r (lo := 45) (hi := 52) (by simp [fMx]) (by omega), fun q => inS_r (lo := 77) (hi := 80) (by simp [fMx]) (by omega)⟩
  · exact ⟨fun q => inS_r (lo := 53) (hi := 60) (by simp [fMx]) (by omega), fun q => inS_r (lo := 81) (hi := 84) (by simp [fMx]) (by omega)⟩
theorem mxc_in {a k : Nat} (h : k < 44) : inS (fMx a) a (mix k) = true := by
  by_cases a1 : k < 6
  · rw [mix_o a1]
    have := (mx_in (a := a) (w := k) (k := 3) (by omega) (by omega)).1 (by omega)
    rw [show 15 + 8 * k = 12 + 8 * k + 3 from by omega]; exact this
  by_cases a2 : k < 12
  · obtain ⟨w, rfl⟩ : ∃ w, k = 6 + w := ⟨k - 6, by omega⟩
    rw [mix_f (by omega), show 16 + 8 * w = 12 + 8 * w + 4 from by omega]
    exact (mx_in (by omega) (by omega)).1 (by omega)
  by_cases a3 : k < 18
  · obtain ⟨w, rfl⟩ : ∃ w, k = 12 + w := ⟨k - 12, by omega⟩
    rw [mix_w (by omega), show 13 + 8 * w = 12 + 8 * w + 1 from by omega]
    exact (mx_in (by omega) (by omega)).1 (by omega)
  by_cases a4 : k < 24
  · obtain ⟨w, rfl⟩ : ∃ w, k = 18 + w := ⟨k - 18, by omega⟩
    rw [mix_d (by omega), show 14 + 8 * w = 12 + 8 * w + 2 from by omega]
    exact (mx_in (by omega) (by omega)).1 (by omega)
  by_cases a5 : k < 30
  · obtain ⟨w, rfl⟩ : ∃ w, k = 24 + w := ⟨k - 24, by omega⟩
    rw [mix_g (by omega), show 17 + 8 * w = 12 + 8 * w + 5 from by omega]
    exact (mx_in (by omega) (by omega)).1 (by omega)
  by_cases a6 : k < 36
  · obtain ⟨w, rfl⟩ : ∃ w, k = 30 + w := ⟨k - 30, by omega⟩
    rw [mix_p (by omega), show 61 + 4 * w = 60 + 4 * w + 1 from by omega]
    exact (mx_in (by omega) (by omega)).2 (by omega)
  by_cases a7 : k < 42
  · obtain ⟨w, rfl⟩ : ∃ w, k = 36 + w := ⟨k - 36, by omega⟩
    rw [mix_t (by omega), show 62 + 4 * w = 60 + 4 * w + 2 from by omega]
    exact (mx_in (by omega) (by omega)).2 (by omega)
  · have : k = 42 ∨ k = 43 := by omega
    rcases this with rfl | rfl
    · exact inS_r (lo := 8) (hi := 10) (by simp [fMx]) (by decide)
    · exact inS_r (lo := 8) (hi := 10) (by simp [fMx]) (by decide)
theorem mc_of {a : Nat} {σ σ' : Sg} (h : Eqc (fMx a) σ σ') : mc σ' a = mc σ a := by
  funext k
  unfold mc
  by_cases q : k < 44
  · rw [if_pos q, if_pos q, h _ _ (mxc_in q)]
  · rw [if_neg q, if_neg q]
theorem COk_of {b a : Nat} {σ σ' : Sg} {c : Co} (h : Eqc (fG1 b a) σ σ') (g : COk σ a c) : COk σ' a c := by
  unfold COk at *
  rw [E0_of h, h.at (a := a) (lo := 0) (hi := 2) (k := 0) (by simp [fG1]) (by omega)]
  exact g
theorem Zr_of {b a : Nat} {σ σ' : Sg} (h1 : Eqc (fG1 b a) σ σ') (h : Eqc (fMx a) σ σ') (g : Zr σ a) : Zr σ' a := by
  obtain ⟨g1, g2⟩ := g
  refine ⟨fun w hw hn k hk h0 => ?_, fun w hw hn k hk h0 => ?_⟩
  · rw [h1.at (a := a) (lo := 0) (hi := 2) (k := 0) (by simp [fG1]) (by omega)] at hn
    rw [h _ _ ((mx_in hw h0).1 hk)]
    exact g1 w hw hn k hk h0
  · rw [h1.at (a := a) (lo := 0) (hi := 2) (k := 1) (by simp [fG1]) (by omega)] at hn
    rw [h _ _ ((mx_in hw h0).2 hk)]
    exact g2 w hw hn k hk h0
theorem G7.of {b a : Nat} {σ σ' : Sg} (h : Eqc (fG7 b a) σ σ') (g : G7 b a σ) : G7 b a σ' := by
  have h1 : Eqc (fG1 b a) σ σ' := h.mo (fun e he => by unfold fG7; exact List.mem_cons_of_mem _ (List.mem_append_left _ he))
  have h2 : Eqc (fMx a) σ σ' := h.mo (fun e he => by unfold fG7; exact List.mem_cons_of_mem _ (List.mem_append_right _ he))
  obtain ⟨g1, g2, g3⟩ := g
  have em := mc_of h2
  have er : rc σ' (2 + b) = rc σ (2 + b) := by
    funext k
    unfold rc
    by_cases q : k < 44
    · rw [if_pos q, if_pos q, h.at (a := 2 + b) (lo := 0) (hi := 44) (by unfold fG7; exact List.mem_cons_self) (by omega)]
    · rw [if_neg q, if_neg q]
  refine ⟨by rw [em, er]; exact g1, by rw [em]; exact COk_of h1 g2, Zr_of h1 h2 g3⟩
/-- the book: the class's row r, the reference's array a, up to page W -/
def Bk (r a : Nat) (σ : Sg) (W : Int) : Prop := ∀ p : Nat, (p : Int) < W → W ≤ p + 30 → ∃ w f t : Int, (-1 ≤ w ∧ w < 6) ∧ (0 ≤ f ∧ f ≤ 9) ∧ (0 ≤ t ∧ t ≤ 594) ∧ rd σ r (45 + p % 30) = pgV w f t p ∧ rd σ a (1556 + 2 * (p % 1230)) = p ∧ rd σ a (1557 + 2 * (p % 1230)) = (w + 1) * 10000 + f * 1000 + t
theorem Bk.of {r a : Nat} {σ σ' : Sg} {W : Int} (h1 : ∀ k, 44 ≤ k → k < 75 → rd σ' r k = rd σ r k) (h2 : ∀ k, 1556 ≤ k → k < 4016 → rd σ' a k = rd σ a k) (g : Bk r a σ W) : Bk r a σ' W := fun p hp hq => by
  obtain ⟨w, f, t, b1, b2, b3, e1, e2, e3⟩ := g p hp hq
  have m1 : p % 30 < 30 := Nat.mod_lt _ (by decide)
  have m2 : p % 1230 < 1230 := Nat.mod_lt _ (by decide)
  exact ⟨w, f, t, b1, b2, b3, by rw [h1 _ (by omega) (by omega)]; exact e1, by rw [h2 _ (by omega) (by omega)]; exact e2, by rw [h2 _ (by omega) (by omega)]; exact e3⟩
def fG8 (b a : Nat) : Ls := [(2 + b, 44, 75), (a, 8, 9), (a, 10, 11), (a, 1556, 4016)]
def G8 (b a : Nat) (σ : Sg) : Prop := rd σ (2 + b) 44 = rd σ a 10 ∧ rd σ a 10 = rd σ a 8 ∧ Bk (2 + b) a σ (rd σ a 10)
theorem G8.of {b a : Nat} {σ σ' : Sg} (h : Eqc (fG8 b a) σ σ') (g : G8 b a σ) : G8 b a σ' := by
  have e10 : rd σ' a 10 = rd σ a 10 := h.at (lo := 10) (hi := 11) (by simp [fG8]) (by omega)
  have e8 : rd σ' a 8 = rd σ a 8 := h.at (lo := 8) (hi := 9) (by simp [fG8]) (by omega)
  have er : ∀ k, 44 ≤ k → k < 75 → rd σ' (2 + b) k = rd σ (2 + b) k := fun k k1 k2 => h.at (lo := 44) (hi := 75) (by simp [fG8]) ⟨k1, k2⟩
  obtain ⟨g1, g2, g3⟩ := g
  refine ⟨by rw [er 44 (by omega) (by omega), e10]; exact g1, by rw [e10, e8]; exact g2, ?_⟩
  rw [e10]
  exact Bk.of er (fun k k1 k2 => h.at (lo := 1556) (hi := 4016) (by simp [fG8]) ⟨k1, k2⟩) g3
/-- the core behind taking step j back -/
def ks (σ : Sg) (a j : Nat) : Co := fun k =>
  if k < 6 then (if (k : Int) < rd σ a (146 + 47 * j) then rd σ a (153 + 47 * j + 5 * k) else 0) else
  if k < 12 then (if ((k - 6 : Nat) : Int) < rd σ a (146 + 47 * j) then rd σ a (154 + 47 * j + 5 * (k - 6)) else 0) else
  if k < 18 then (if ((k - 12 : Nat) : Int) < rd σ a (146 + 47 * j) then rd σ a (151 + 47 * j + 5 * (k - 12)) else rd σ a (18 + 8 * (k - 12))) else
  if k < 24 then (if ((k - 18 : Nat) : Int) < rd σ a (146 + 47 * j) then rd σ a (152 + 47 * j + 5 * (k - 18)) else rd σ a (19 + 8 * (k - 18))) else
  if k < 30 then (if ((k - 24 : Nat) : Int) < rd σ a (146 + 47 * j) then rd σ a (155 + 47 * j + 5 * (k - 24)) else 0) else
  if k < 36 then (if ((k - 30 : Nat) : Int) < rd σ a (147 + 47 * j) then rd σ a (181 + 47 * j + 2 * (k - 30)) else rd σ a (63 + 4 * (k - 30))) else
  if k < 42 then (if ((k - 36 : Nat) : Int) < rd σ a (147 + 47 * j) then rd σ a (182 + 47 * j + 2 * (k - 36)) else 0) else
  if k < 44 then rd σ a (148 + 47 * j + (k - 42)) else 0
theorem ks_of {a j j' : Nat} {σ σ' : Sg} (h1 : ∀ k, k < 47 → rd σ' a (146 + 47 * j' + k) = rd σ a (146 + 47 * j + k)) (h2 : ∀ w, w < 6 → rd σ' a (18 + 8 * w) = rd σ a (18 + 8 * w) ∧ rd σ' a (19 + 8 * w) = rd σ a (19 + 8 * w) ∧ rd σ' a (63 + 4 * w) = rd σ a (63 + 4 * w)) : ks σ' a j' = ks σ a j := by
  have g : ∀ x y d, d < 47 → x = 146 + 47 * j' + d → y = 146 + 47 * j + d → rd σ' a x = rd σ a y := fun x y d hd e1 e2 => by rw [e1, e2]; exact h1 d hd
  have g0 : rd σ' a (146 + 47 * j') = rd σ a (146 + 47 * j) := h1 0 (by omega)
  have gv : rd σ' a (147 + 47 * j') = rd σ a (147 + 47 * j) := g _ _ 1 (by omega) (by omega) (by omega)
  funext k
  unfold ks
  rw [g0, gv]
  by_cases a1 : k < 6
  · simp only [if_pos a1]
    rw [g _ (153 + 47 * j + 5 * k) (7 + 5 * k) (by omega) (by omega) (by omega)]
  simp only [if_neg a1]
  by_cases a2 : k < 12
  · simp only [if_pos a2]
    rw [g _ (154 + 47 * j + 5 * (k - 6)) (8 + 5 * (k - 6)) (by omega) (by omega) (by omega)]
  simp only [if_neg a2]
  by_cases a3 : k < 18
  · simp only [if_pos a3]
    rw [g _ (151 + 47 * j + 5 * (k - 12)) (5 + 5 * (k - 12)) (by omega) (by omega) (by omega), (h2 (k - 12) (by omega)).1]
  simp only [if_neg a3]
  by_cases a4 : k < 24
  · simp only [if_pos a4]
    rw [g _ (152 + 47 * j + 5 * (k - 18)) (6 + 5 * (k - 18)) (by omega) (by omega) (by omega), (h2 (k - 18) (by omega)).2.1]
  simp only [if_neg a4]
  by_cases a5 : k < 30
  · simp only [if_pos a5]
    rw [g _ (155 + 47 * j + 5 * (k - 24)) (9 + 5 * (k - 24)) (by omega) (by omega) (by omega)]
  simp only [if_neg a5]
  by_cases a6 : k < 36
  · simp only [if_pos a6]
    rw [g _ (181 + 47 * j + 2 * (k - 30)) (35 + 2 * (k - 30)) (by omega) (by omega) (by omega), (h2 (k - 30) (by omega)).2.2]
  simp only [if_neg a6]
  by_cases a7 : k < 42
  · simp only [if_pos a7]
    rw [g _ (182 + 47 * j + 2 * (k - 36)) (36 + 2 * (k - 36)) (by omega) (by omega) (by omega)]
  simp only [if_neg a7]
  by_cases a8 : k < 44
  · simp only [if_pos a8]
    rw [g _ (148 + 47 * j + (k - 42)) (2 + (k - 42)) (by omega) (by omega) (by omega)]
  · simp only [if_neg a8]
/-- a step that can be taken back: the class's row r, the reference's slot j -/
def StR (r a j : Nat) (σ : Sg) : Prop := rc σ r = ks σ a j ∧ rd σ r 44 = rd σ a (150 + 47 * j) ∧ rd σ a (150 + 47 * j) = rd σ a (148 + 47 * j) ∧ (0 ≤ rd σ a (146 + 47 * j) ∧ rd σ a (146 + 47 * j) ≤ rd σ a 0) ∧ (0 ≤ rd σ a (147 + 47 * j) ∧ rd σ a (147 + 47 * j) ≤ rd σ a 1) ∧ Bk r a σ (rd σ a (150 + 47 * j)) ∧ COk σ a (ks σ a j)
def rwK (b : Nat) (n s : Int) (j : Nat) : Nat := 4 + b + ((n + 30 - s + j) % 30).toNat
/-- the steps; D more days may pass before the next is kept -/
def G9 (D : Int) (b a : Nat) (σ : Sg) : Prop := rd σ (1 + b) 3 = rd σ a 4 ∧ (0 ≤ rd σ a 4 ∧ rd σ a 4 ≤ 30) ∧ (0 ≤ rd σ (1 + b) 2 ∧ rd σ (1 + b) 2 < 30) ∧ (∀ j : Nat, (j : Int) < rd σ a 4 → StR (rwK b (rd σ (1 + b) 2) (rd σ a 4) j) a j σ ∧ rd σ a (150 + 47 * j) ≤ rd σ a 10 ∧ rd σ a 10 + D ≤ rd σ a (150 + 47 * j) + 40 * (rd σ a 4 - j) ∧ (∀ i : Nat, i < j → rd σ a (150 + 47 * i) ≤ rd σ a (150 + 47 * j) ∧ rd σ a (150 + 47 * j) ≤ rd σ a (150 + 47 * i) + 40 * ((j : Int) - i)))
def fG9 (b a : Nat) : Ls := (List.range 30).map (fun i => (4 + b + i, 0, 75)) ++ (fG1 b a ++ (fMx a ++ [(1 + b, 2, 4), (a, 4, 5), (a, 10, 11), (a, 146, 1556), (a, 1556, 4016)]))
theorem G9.of {D : Int} {b a : Nat} {σ σ' : Sg} (h : Eqc (fG9 b a) σ σ') (g : G9 D b a σ) : G9 D b a σ' := by
  have hr : ∀ r k, 4 + b ≤ r → r < 34 + b → k < 75 → rd σ' r k = rd σ r k := fun r k r1 r2 hk => h.at (lo := 0) (hi := 75) (by
    unfold fG9
    refine List.mem_append_left _ (List.mem_map.mpr ⟨r - 4 - b, List.mem_range.mpr (by omega), ?_⟩)
    rw [show 4 + b + (r - 4 - b) = r from by omega]) ⟨by omega, hk⟩
  have h1 : Eqc (fG1 b a) σ σ' := h.mo (fun e he => by unfold fG9; exact List.mem_append_right _ (List.mem_append_left _ he))
  have h2 : Eqc (fMx a) σ σ' := h.mo (fun e he => by unfold fG9; exact List.mem_append_right _ (List.mem_append_right _ (List.mem_append_left _ he)))
  have h3 : Eqc [(1 + b, 2, 4), (a, 4, 5), (a, 10, 11), (a, 146, 1556), (a, 1556, 4016)] σ σ' := h.mo (fun e he => by unfold fG9; exact List.mem_append_right _ (List.mem_append_right _ (List.mem_append_right _ he)))
  have e0 : rd σ' a 0 = rd σ a 0 := h1.at (lo := 0) (hi := 2) (by simp [fG1]) (by omega)
  have e1 : rd σ' a 1 = rd σ a 1 := h1.at (lo := 0) (hi := 2) (by simp [fG1]) (by omega)
  have e4 : rd σ' a 4 = rd σ a 4 := h3.at (lo := 4) (hi := 5) (by simp) (by omega)
  have e10 : rd σ' a 10 = rd σ a 10 := h3.at (lo := 10) (hi := 11) (by simp) (by omega)
  have es : ∀ k, 146 ≤ k → k < 1556 → rd σ' a k = rd σ a k := fun k k1 k2 => h3.at (lo := 146) (hi := 1556) (by simp) ⟨k1, k2⟩
  have en : rd σ' (1 + b) 2 = rd σ (1 + b) 2 := h3.at (lo := 2) (hi := 4) (by simp) (by omega)
  have e3 : rd σ' (1 + b) 3 = rd σ (1 + b) 3 := h3.at (lo := 2) (hi := 4) (by simp) (by omega)
  obtain ⟨g1, g2, g3, g4⟩ := g
  refine ⟨by rw [e3, e4]; exact g1, by rw [e4]; exact g2, by rw [en]; exact g3, fun j hj => ?_⟩
  rw [e4] at hj
  obtain ⟨⟨s1, s2, s3, s4, s5, s6, s7⟩, s8, s9⟩ := g4 j hj
  have hj30 : j < 30 := by omega
  have hks : ks σ' a j = ks σ a j := ks_of (fun k hk => es _ (by omega) (by omega)) (fun w hw => ⟨by have := h2 _ _ ((mx_in (a := a) (w := w) (k := 6) hw (by omega)).1 (by omega)); rw [show 12 + 8 * w + 6 = 18 + 8 * w from by omega] at this; exact this, by have := h2 _ _ ((mx_in (a := a) (w := w) (k := 7) hw (by omega)).1 (by omega)); rw [show 12 + 8 * w + 7 = 19 + 8 * w from by omega] at this; exact this, by have := h2 _ _ ((mx_in (a := a) (w := w) (k := 3) hw (by omega)).2 (by omega)); rw [show 60 + 4 * w + 3 = 63 + 4 * w from by omega] at this; exact this⟩)
  rw [en, e4, e10, es (150 + 47 * j) (by omega) (by omega)]
  have hrw : 4 + b ≤ rwK b (rd σ (1 + b) 2) (rd σ a 4) j ∧ rwK b (rd σ (1 + b) 2) (rd σ a 4) j < 34 + b := by
    unfold rwK
    omega
  generalize rwK b (rd σ (1 + b) 2) (rd σ a 4) j = r at hrw s1 s2 s6
  have hrr : ∀ k, k < 75 → rd σ' r k = rd σ r k := fun k hk => hr r k hrw.1 hrw.2 hk
  refine ⟨⟨?_, ?_, ?_, ?_, ?_, ?_, ?_⟩, s8, s9.1, fun i hi => by rw [es (150 + 47 * i) (by omega) (by omega)]; exact s9.2 i hi⟩
  · rw [hks, ← s1]
    funext k
    unfold rc
    by_cases q : k < 44
    · rw [if_pos q, if_pos q, hrr k (by omega)]
    · rw [if_neg q, if_neg q]
  · rw [hrr 44 (by omega), es _ (by omega) (by omega)]; exact s2
  · rw [es _ (by omega) (by omega), es _ (by omega) (by omega)]; exact s3
  · rw [es _ (by omega) (by omega), e0]; exact s4
  · rw [es _ (by omega) (by omega), e1]; exact s5
  · rw [es _ (by omega) (by omega)]
    exact Bk.of (fun k k1 k2 => hrr k (by omega)) (fun k k1 k2 => h3.at (lo := 1556) (hi := 4016) (by simp) ⟨k1, k2⟩) s6
  · rw [hks]
    exact COk_of h1 s7
