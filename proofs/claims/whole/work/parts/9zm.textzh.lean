/-! TEXTS: the pair -/
theorem Tx1.of2 {lws lws2 : Lws} {σ σ' : Sg} {t : Nat} (ht : t < 4) (hlw : lws2 t = lws t) (hx : ∀ x k, 88 + 5 * t ≤ x → x < 93 + 5 * t → k < 400 → rd σ' x k = rd σ x k) (hm : ∀ k, 705 * t ≤ k → k < 705 * t + 705 → rd σ' 123 k = rd σ 123 k) (g : Tx1 lws σ t) : Tx1 lws2 σ' t := by
  have hml : ∀ k, k < 705 → rd σ' 123 (705 * t + k) = rd σ 123 (705 * t + k) := fun k hk => hm _ (by omega) (by omega)
  obtain ⟨g1, g2, g3, g4⟩ := g
  have e0 := hm (705 * t) (by omega) (by omega)
  refine ⟨by rw [hx _ _ (by omega) (by omega) (by omega), e0]; exact g1, by rw [e0]; exact g2, fun k hk => ?_, fun l hl => ?_⟩
  · rw [e0] at hk
    have := g3 k hk
    unfold ClR at *
    rw [hx (92 + 5 * t) (4 * k) (by omega) (by omega) (by omega), hx (92 + 5 * t) (4 * k + 1) (by omega) (by omega) (by omega), hx (92 + 5 * t) (4 * k + 2) (by omega) (by omega) (by omega), hx (92 + 5 * t) (4 * k + 3) (by omega) (by omega) (by omega), hm _ (by omega) (by omega), hm _ (by omega) (by omega), hm _ (by omega) (by omega), hm _ (by omega) (by omega)]
    exact this
  rw [hlw]
  constructor
  · have h := (g4 l hl).1
    cases hq : lws t l with
    | none =>
      rw [hq] at h
      show rd σ' (90 + 5 * t) l = -1
      rw [hx _ _ (by omega) (by omega) (by omega)]
      exact h
    | some ops =>
      rw [hq] at h
      obtain ⟨b1, b2, b3, b4⟩ := h
      show 0 ≤ rd σ' (90 + 5 * t) l ∧ rd σ' (91 + 5 * t) l = rd σ' (90 + 5 * t) l + ops.length ∧ rd σ' (91 + 5 * t) l ≤ 300 ∧ CodeAt σ' t (rd σ' (90 + 5 * t) l).toNat ops
      rw [hx (90 + 5 * t) _ (by omega) (by omega) (by omega), hx (91 + 5 * t) _ (by omega) (by omega) (by omega)]
      exact ⟨b1, b2, b3, CodeAt_b (fun k hk => hx _ _ (by omega) (by omega) (by omega)) _ _ (by omega) b4⟩
  · have h := (g4 l hl).2
    cases hq : lws t l with
    | none =>
      rw [hq] at h
      intro k hk
      rw [e0] at hk
      rw [hm _ (by omega) (by omega)]
      exact h k hk
    | some ops =>
      rw [hq] at h
      obtain ⟨k, h1, h2, h3, h4, h5, h6, h7⟩ := h
      refine ⟨k, by rw [e0]; exact h1, by rw [hm _ (by omega) (by omega)]; exact h2, fun j hj => by rw [hm _ (by omega) (by omega)]; exact h3 j hj, by rw [hm _ (by omega) (by omega)]; exact h4, by rw [hm _ (by omega) (by omega), hm _ (by omega) (by omega)]; exact h5, by rw [hm _ (by omega) (by omega)]; exact h6, ?_⟩
      rw [hm _ (by omega) (by omega)]
      exact MCode_lt _ _ (fun k k1 k2 => hml k (by omega)) h7
theorem Tx1_new {lws : Lws} {σ : Sg} {t i : Nat} {T : TT} (ht : t < 4) (hi : i ≤ 300) (hlw : ∀ l, lws t l = (T.2.2.2 l).map Prod.snd) (hC : TC t T σ) (hB : TMb t T σ) (hN : rd σ 123 (705 * t) = (T.1 : Nat)) (hP : PInv i T) : Tx1 lws σ t := by
  obtain ⟨c1, c2, c3, c4, c5⟩ := hC
  obtain ⟨m1, m2, m3, m4, m5⟩ := hB
  obtain ⟨p1, p2, p3, p4, p5⟩ := hP
  refine ⟨by rw [hN]; exact c1, by rw [hN]; exact ⟨by omega, by omega⟩, fun k hk => ?_, fun l hl => ?_⟩
  · rw [hN] at hk
    have hk : k < T.1 := by omega
    obtain ⟨a1, a2⟩ := c2 k hk
    obtain ⟨b1, b2, b3, b4⟩ := m2 k hk
    obtain ⟨q1, q2⟩ := p5 k hk
    unfold ClR
    rw [b1]
    refine ⟨a1, q1, fun z => by rw [b2]; exact (a2 z).1, fun z z2 => by rw [b3 z2]; exact (a2 z).2.1, fun z => by rw [b4 z]; exact (a2 (by omega)).2.2, fun z => by rw [b2]; exact q2 z⟩
  · rw [hlw l]
    obtain ⟨d1, d2⟩ := c5 l hl
    cases hq : T.2.2.2 l with
    | none =>
      refine ⟨d1 hq, fun k hk => ?_⟩
      rw [hN] at hk
      have hk : k < T.1 := by omega
      rw [(m2 k hk).1]
      exact p4 l hl hq k hk
    | some x =>
      obtain ⟨f, ops⟩ := x
      obtain ⟨e1, e2⟩ := d2 f ops hq
      obtain ⟨⟨r1, r2, r3, r4⟩, -, k, hk, r5, r6⟩ := p3 l f ops hl hq
      have hlen : T.2.2.1.length = r1.length + (ops.length + r2.length) := by rw [r3, List.length_append, List.length_append]
      have cc : CodeAt σ t f ops := by
        rw [r3, CodeAt_app, CodeAt_app, Nat.zero_add, r4] at c4
        exact c4.2.1
      have mm : MCode σ t f ops := by
        rw [r3, MCode_app, MCode_app, Nat.zero_add, r4] at m4
        exact m4.2.1
      obtain ⟨b1, b2, b3, b4⟩ := m2 k hk
      rw [r5] at b1 b2 b3
      refine ⟨?_, k, by rw [hN]; omega, b1, fun j hj => by rw [(m2 j (by omega)).1]; exact r6 j hj, ?_, ?_, ?_, ?_⟩
      · show 0 ≤ rd σ (90 + 5 * t) l ∧ rd σ (91 + 5 * t) l = rd σ (90 + 5 * t) l + ops.length ∧ rd σ (91 + 5 * t) l ≤ 300 ∧ CodeAt σ t (rd σ (90 + 5 * t) l).toNat ops
        rw [e1, e2]
        exact ⟨by omega, by omega, by omega, cc⟩
      · rw [b2]
        exact Int.natCast_nonneg f
      · have b3 := b3 (show ((l : Nat) : Int) ≠ 10 by omega)
        rw [b3, b2]
        show ((f + ops.length : Nat) : Int) = ((f : Nat) : Int) + ops.length
        omega
      · have b3 := b3 (show ((l : Nat) : Int) ≠ 10 by omega)
        rw [b3]
        show ((f + ops.length : Nat) : Int) ≤ 300
        omega
      · rw [b2]
        show MCode σ t ((f : Nat) : Int).toNat ops
        rw [Int.toNat_natCast]
        exact mm
