/-! THE TOP: the relation at the start -/
theorem cpK_b (T : Sg) {a b n k : Nat} (hab : a ≠ b) (hk : k < n) : rd (cpK T a b n) b k = rd (cpK T a b n) a k := by
  show (if b = b ∧ k < n then T.1 a k else T.1 b k : Int32).toInt = (if a = b ∧ k < n then T.1 a k else T.1 a k : Int32).toInt
  rw [if_pos ⟨rfl, hk⟩, if_neg (fun q => hab q.1)]
set_option maxRecDepth 20000 in
theorem st_img {fi : Nat → Nat → Int32} {fl : Nat → Nat → Int64} {fr : Nat → Nat → Nat} {L : Nat} {k : Nat} (h : k < 4016) : rd (stAll (fi, fl, fr, 0, L)) 122 k = rd (stAll (fi, fl, fr, 0, L)) 121 k := cpK_b _ (by decide) h
set_option maxRecDepth 20000 in
theorem st_121b {fi : Nat → Nat → Int32} {fl : Nat → Nat → Int64} {fr : Nat → Nat → Nat} {L : Nat} : rd (stAll (fi, fl, fr, 0, L)) 121 9 = 127 ∧ rd (stAll (fi, fl, fr, 0, L)) 121 3 = -1 := ⟨rfl, rfl⟩
set_option maxRecDepth 20000 in
theorem st_r2 {fi : Nat → Nat → Int32} {fl : Nat → Nat → Int64} {fr : Nat → Nat → Nat} {L : Nat} {k : Nat} (h : k ≠ 43) : rd (stAll (fi, fl, fr, 0, L)) 2 k = 0 := by
  show rd (sI _ 2 43 127) 2 k = 0
  rw [rdne2 h]
  rfl
set_option maxRecDepth 20000 in
theorem st_r42 {fi : Nat → Nat → Int32} {fl : Nat → Nat → Int64} {fr : Nat → Nat → Nat} {L : Nat} {k : Nat} (h : k ≠ 43) : rd (stAll (fi, fl, fr, 0, L)) 42 k = 0 := by
  show rd (sI _ 42 43 127) 42 k = 0
  rw [rdne2 h]
  rfl
set_option maxRecDepth 20000 in
theorem st_r43 {fi : Nat → Nat → Int32} {fl : Nat → Nat → Int64} {fr : Nat → Nat → Nat} {L : Nat} : rd (stAll (fi, fl, fr, 0, L)) 2 43 = 127 ∧ rd (stAll (fi, fl, fr, 0, L)) 42 43 = 127 := ⟨rfl, rfl⟩
/-- a world's cells, and the reference's, as they are at the start -/
def St0 (b a : Nat) (σ : Sg) : Prop := (∀ k, k < 4016 → k ≠ 9 ∧ k ≠ 3 → rd σ a k = 0) ∧ rd σ a 9 = 127 ∧ rd σ a 3 = -1 ∧ (∀ k, k ≠ 43 → rd σ (2 + b) k = 0) ∧ rd σ (2 + b) 43 = 127 ∧ (rd σ (1 + b) 2 = 0 ∧ rd σ (1 + b) 3 = 0 ∧ rd σ (1 + b) 4 = 0 ∧ rd σ (1 + b) 6 = 0 ∧ rd σ (1 + b) 9 = 0 ∧ rd σ (1 + b) 10 = -1 ∧ rd σ (1 + b) 11 = 0 ∧ rd σ (1 + b) 14 = 0 ∧ rd σ (1 + b) 16 = 0) ∧ (∀ k, rd σ (34 + b) k = 0 ∧ rd σ (35 + b) k = 0 ∧ rd σ (36 + b) k = 0 ∧ rd σ (37 + b) k = 0 ∧ rd σ (38 + b) k = 0 ∧ rd σ (39 + b) k = 0 ∧ rd σ (40 + b) k = 0)
theorem St0_core {b a : Nat} {σ : Sg} (h : St0 b a σ) : rc σ (2 + b) = mc σ a ∧ mc σ a 42 = 0 ∧ mc σ a 43 = 127 := by
  obtain ⟨m0, m9, m3, r0, r43, -, -⟩ := h
  refine ⟨?_, ?_, ?_⟩
  · funext k
    unfold rc mc
    by_cases q : k < 44
    · rw [if_pos q, if_pos q]
      by_cases q2 : k = 43
      · subst q2
        rw [r43, show mix 43 = 9 from rfl, m9]
      · rw [r0 k q2, m0 (mix k) (by unfold mix; (repeat' split) <;> omega) (by unfold mix; (repeat' split) <;> omega)]
    · rw [if_neg q, if_neg q]
  · show rd σ a 8 = 0
    exact m0 8 (by omega) (by omega)
  · exact m9
theorem St0_ra {b a : Nat} {σ : Sg} (h : St0 b a σ) : RA 0 b a σ := by
  obtain ⟨hc, h42, h43⟩ := St0_core h
  obtain ⟨m0, m9, m3, r0, r43, ⟨w2, w3, w4, w6, w9, w10, w11, w14, w16⟩, z⟩ := h
  have e0 : rd σ a 0 = 0 := m0 0 (by omega) (by omega)
  have e1 : rd σ a 1 = 0 := m0 1 (by omega) (by omega)
  have e2 : rd σ a 2 = 0 := m0 2 (by omega) (by omega)
  have e4 : rd σ a 4 = 0 := m0 4 (by omega) (by omega)
  have e5 : rd σ a 5 = 0 := m0 5 (by omega) (by omega)
  have e6 : rd σ a 6 = 0 := m0 6 (by omega) (by omega)
  have e7 : rd σ a 7 = 0 := m0 7 (by omega) (by omega)
  have e8 : rd σ a 8 = 0 := m0 8 (by omega) (by omega)
  have e10 : rd σ a 10 = 0 := m0 10 (by omega) (by omega)
  refine ⟨⟨?_, ?_, ?_, ?_, ?_, ?_⟩, ?_, ⟨?_, ?_, ?_, ?_⟩, ⟨?_, ?_, ?_, ?_⟩, ⟨?_, ?_, ?_, ?_⟩, ⟨?_, ?_, ?_, ?_⟩, ⟨hc, ⟨⟨?_, ?_, ?_, ?_, ?_, ?_⟩, ?_, ?_⟩, ?_, ?_⟩, ⟨?_, ?_, ?_⟩, ⟨?_, ?_, ?_, ?_⟩⟩
  · rw [w4, e0]
  · rw [w6, e1]
  · intro w hw; rw [(z w).1, m0 (12 + 8 * w) (by omega) (by omega)]
  · intro v hv; rw [(z v).2.1, m0 (60 + 4 * v) (by omega) (by omega)]
  · omega
  · omega
  · intro i hi; rw [(z i).2.2.1, m0 (84 + i) (by omega) (by omega)]; exact ⟨rfl, by decide, by decide⟩
  · rw [w9, e2]
  · rw [w10, m3]
  · omega
  · omega
  · rw [w11, e5]
  · omega
  · intro k hk; rw [(z k).2.2.2.1, (z k).2.2.2.2.1, m0 (120 + 2 * k) (by omega) (by omega), m0 (121 + 2 * k) (by omega) (by omega)]; exact ⟨rfl, rfl⟩
  · intro k hk; omega
  · rw [w14, e6]
  · omega
  · intro k hk; rw [(z k).2.2.2.2.2.1, m0 (136 + k) (by omega) (by omega)]
  · intro k hk; omega
  · rw [w16, e7]
  · omega
  · intro k hk; rw [(z k).2.2.2.2.2.2, m0 (141 + k) (by omega) (by omega)]
  · intro k hk; omega
  · show (rd σ a 0).toNat ≤ 6
    omega
  · show (rd σ a 1).toNat ≤ 6
    omega
  · omega
  · omega
  · intro w hw
    have hw : w < (rd σ a 0).toNat := hw
    exact absurd hw (by omega)
  · intro w hw
    have hw : w < (rd σ a 1).toNat := hw
    exact absurd hw (by omega)
  · intro w hw
    have hw : w < (rd σ a 1).toNat := hw
    exact absurd hw (by omega)
  · show wsum (mc σ a) (rd σ a 0).toNat ≤ 9 * (((rd σ a 0).toNat : Nat) : Int)
    rw [e0]
    exact Int.le_refl 0
  · intro w hw _ k hk h0; exact m0 _ (by omega) (by omega)
  · intro v hv _ k hk h0; exact m0 _ (by omega) (by omega)
  · rw [r0 44 (by omega), e10]
  · rw [e10, e8]
  · intro p hp; exact absurd hp (by omega)
  · rw [w3, e4]
  · omega
  · omega
  · intro j hj; exact absurd hj (by omega)
set_option maxRecDepth 20000 in
theorem st_0a {fi : Nat → Nat → Int32} {fl : Nat → Nat → Int64} {fr : Nat → Nat → Nat} {L : Nat} : St0 0 121 (stAll (fi, fl, fr, 0, L)) := ⟨fun _ _ h => st_121 h, rfl, rfl, fun _ h => st_r2 h, rfl, ⟨rfl, rfl, rfl, rfl, rfl, rfl, rfl, rfl, rfl⟩, fun _ => ⟨rfl, rfl, rfl, rfl, rfl, rfl, rfl⟩⟩
set_option maxRecDepth 20000 in
theorem st_0b {fi : Nat → Nat → Int32} {fl : Nat → Nat → Int64} {fr : Nat → Nat → Nat} {L : Nat} : St0 40 122 (stAll (fi, fl, fr, 0, L)) := ⟨fun _ q h => (st_img q).trans (st_121 h), (st_img (by decide)).trans st_121b.1, (st_img (by decide)).trans st_121b.2, fun _ h => st_r42 h, rfl, ⟨rfl, rfl, rfl, rfl, rfl, rfl, rfl, rfl, rfl⟩, fun _ => ⟨rfl, rfl, rfl, rfl, rfl, rfl, rfl⟩⟩
set_option maxRecDepth 20000 in
theorem st_rf {fi : Nat → Nat → Int32} {fl : Nat → Nat → Int64} {fr : Nat → Nat → Nat} {L : Nat} : rd (stAll (fi, fl, fr, 0, L)) 0 4 = 0 ∧ rd (stAll (fi, fl, fr, 0, L)) 120 4 = 0 ∧ rd (stAll (fi, fl, fr, 0, L)) 83 13 = -1 ∧ rd (stAll (fi, fl, fr, 0, L)) 120 5 = -1 ∧ rd (stAll (fi, fl, fr, 0, L)) 83 14 = -1 ∧ rd (stAll (fi, fl, fr, 0, L)) 120 6 = -1 ∧ rd (stAll (fi, fl, fr, 0, L)) 120 24 = 1 := ⟨rfl, rfl, rfl, rfl, rfl, rfl, rfl⟩
theorem st_rel (fi : Nat → Nat → Int32) (fl : Nat → Nat → Int64) (fr : Nat → Nat → Nat) (L : Nat) : Rel (stAll (fi, fl, fr, 0, L)) := by
  have ha := st_0a (fi := fi) (fl := fl) (fr := fr) (L := L)
  have hb := st_0b (fi := fi) (fl := fl) (fr := fr) (L := L)
  obtain ⟨f1, f2, f3, f4, f5, f6, f7⟩ := st_rf (fi := fi) (fl := fl) (fr := fr) (L := L)
  generalize (stAll (fi, fl, fr, 0, L)) = σ at ha hb f1 f2 f3 f4 f5 f6 f7 ⊢
  have e2 : rd σ 121 2 = 0 := ha.1 2 (by omega) (by omega)
  have i2 : rd σ 122 2 = 0 := hb.1 2 (by omega) (by omega)
  refine ⟨fun _ _ => none, St0_ra ha, St0_ra hb, ⟨fun t _ h => absurd h (by omega), fun t l ops _ _ h => by cases h⟩, ⟨by rw [f1, f2], by omega, fun k _ h => by omega, by rw [f3, f4], by rw [f5, f6], f7, by omega⟩⟩
