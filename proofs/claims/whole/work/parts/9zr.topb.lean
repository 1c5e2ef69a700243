/-! THE TOP: what the start leaves, part two -/
def AG (P : Nat × Nat → Prop) : List (Nat × Nat) → Prop
  | [] => True
  | q :: r => P q ∧ AG P r
def AF (P : Nat → Nat × Nat → Prop) : Nat → List (List (Nat × Nat)) → Prop
  | _, [] => True
  | a, l :: r => AG (P a) l ∧ AF P (a + 1) r
theorem AG_mem {P : Nat × Nat → Prop} : ∀ (l : List (Nat × Nat)), AG P l → ∀ q, q ∈ l → P q
  | [], _, q, h => by cases h
  | x :: r, g, q, h => by
    rcases List.mem_cons.mp h with h | h
    · rw [h]; exact g.1
    · exact AG_mem r g.2 q h
theorem AF_mem {P : Nat → Nat × Nat → Prop} : ∀ (T : List (List (Nat × Nat))) (a : Nat), AF P a T → ∀ i q, q ∈ T.getD i [] → P (a + i) q
  | [], _, _, i, q, h => by simp at h
  | l :: r, a, g, 0, q, h => AG_mem l g.1 q h
  | l :: r, a, g, i + 1, q, h => by
    have h9 := AF_mem r (a + 1) g.2 i q h
    rw [show a + (i + 1) = a + 1 + i from by omega]
    exact h9
set_option maxRecDepth 20000 in
theorem fx_0 {fi : Nat → Nat → Int32} {fl : Nat → Nat → Int64} {fr : Nat → Nat → Nat} {L : Nat} : AG (fun q => gR (stAll (fi, fl, fr, 0, L)) 0 q.1 = q.2) [(0, 1), (1, 41), (2, 81), (3, 82), (5, 83), (6, 110), (7, 111), (8, 115), (9, 108), (10, 85), (11, 86)] := ⟨rfl, rfl, rfl, rfl, rfl, rfl, rfl, rfl, rfl, rfl, rfl, trivial⟩
set_option maxRecDepth 20000 in
theorem fx_1 {fi : Nat → Nat → Int32} {fl : Nat → Nat → Int64} {fr : Nat → Nat → Nat} {L : Nat} : AG (fun q => gR (stAll (fi, fl, fr, 0, L)) 1 q.1 = q.2) [(0, 2), (1, 3), (5, 34), (7, 35), (8, 36), (12, 37), (13, 38), (15, 39), (17, 40)] := ⟨rfl, rfl, rfl, rfl, rfl, rfl, rfl, rfl, rfl, trivial⟩
set_option maxRecDepth 20000 in
theorem fx_41 {fi : Nat → Nat → Int32} {fl : Nat → Nat → Int64} {fr : Nat → Nat → Nat} {L : Nat} : AG (fun q => gR (stAll (fi, fl, fr, 0, L)) 41 q.1 = q.2) [(0, 42), (1, 43), (5, 74), (7, 75), (8, 76), (12, 77), (13, 78), (15, 79), (17, 80)] := ⟨rfl, rfl, rfl, rfl, rfl, rfl, rfl, rfl, rfl, trivial⟩
set_option maxRecDepth 20000 in
theorem fx_83 {fi : Nat → Nat → Int32} {fl : Nat → Nat → Int64} {fr : Nat → Nat → Nat} {L : Nat} : AG (fun q => gR (stAll (fi, fl, fr, 0, L)) 83 q.1 = q.2) [(0, 82), (10, 84)] := ⟨rfl, rfl, trivial⟩
set_option maxRecDepth 20000 in
theorem fx_86 {fi : Nat → Nat → Int32} {fl : Nat → Nat → Int64} {fr : Nat → Nat → Nat} {L : Nat} : AG (fun q => gR (stAll (fi, fl, fr, 0, L)) 86 q.1 = q.2) [(0, 87)] := ⟨rfl, trivial⟩
set_option maxRecDepth 20000 in
theorem fx_88 {fi : Nat → Nat → Int32} {fl : Nat → Nat → Int64} {fr : Nat → Nat → Nat} {L : Nat} : AG (fun q => gR (stAll (fi, fl, fr, 0, L)) 88 q.1 = q.2) [(0, 89), (2, 90), (3, 91), (4, 92)] := ⟨rfl, rfl, rfl, rfl, trivial⟩
set_option maxRecDepth 20000 in
theorem fx_93 {fi : Nat → Nat → Int32} {fl : Nat → Nat → Int64} {fr : Nat → Nat → Nat} {L : Nat} : AG (fun q => gR (stAll (fi, fl, fr, 0, L)) 93 q.1 = q.2) [(0, 94), (2, 95), (3, 96), (4, 97)] := ⟨rfl, rfl, rfl, rfl, trivial⟩
set_option maxRecDepth 20000 in
theorem fx_98 {fi : Nat → Nat → Int32} {fl : Nat → Nat → Int64} {fr : Nat → Nat → Nat} {L : Nat} : AG (fun q => gR (stAll (fi, fl, fr, 0, L)) 98 q.1 = q.2) [(0, 99), (2, 100), (3, 101), (4, 102)] := ⟨rfl, rfl, rfl, rfl, trivial⟩
set_option maxRecDepth 20000 in
theorem fx_103 {fi : Nat → Nat → Int32} {fl : Nat → Nat → Int64} {fr : Nat → Nat → Nat} {L : Nat} : AG (fun q => gR (stAll (fi, fl, fr, 0, L)) 103 q.1 = q.2) [(0, 104), (2, 105), (3, 106), (4, 107)] := ⟨rfl, rfl, rfl, rfl, trivial⟩
set_option maxRecDepth 20000 in
theorem fx_108 {fi : Nat → Nat → Int32} {fl : Nat → Nat → Int64} {fr : Nat → Nat → Nat} {L : Nat} : AG (fun q => gR (stAll (fi, fl, fr, 0, L)) 108 q.1 = q.2) [(0, 1), (1, 81), (2, 109)] := ⟨rfl, rfl, rfl, trivial⟩
set_option maxRecDepth 20000 in
theorem fx_110 {fi : Nat → Nat → Int32} {fl : Nat → Nat → Int64} {fr : Nat → Nat → Nat} {L : Nat} : AG (fun q => gR (stAll (fi, fl, fr, 0, L)) 110 q.1 = q.2) [(0, 1), (1, 108)] := ⟨rfl, rfl, trivial⟩
set_option maxRecDepth 20000 in
theorem fx_111 {fi : Nat → Nat → Int32} {fl : Nat → Nat → Int64} {fr : Nat → Nat → Nat} {L : Nat} : AG (fun q => gR (stAll (fi, fl, fr, 0, L)) 111 q.1 = q.2) [(0, 1), (1, 110), (2, 112), (7, 113), (9, 114)] := ⟨rfl, rfl, rfl, rfl, rfl, trivial⟩
set_option maxRecDepth 20000 in
theorem fx_115 {fi : Nat → Nat → Int32} {fl : Nat → Nat → Int64} {fr : Nat → Nat → Nat} {L : Nat} : AG (fun q => gR (stAll (fi, fl, fr, 0, L)) 115 q.1 = q.2) [(0, 1), (1, 108), (2, 116), (3, 117), (4, 118), (5, 119)] := ⟨rfl, rfl, rfl, rfl, rfl, rfl, trivial⟩
set_option maxRecDepth 20000 in
theorem fx_120 {fi : Nat → Nat → Int32} {fl : Nat → Nat → Int64} {fr : Nat → Nat → Nat} {L : Nat} : AG (fun q => gR (stAll (fi, fl, fr, 0, L)) 120 q.1 = q.2) [(0, 121), (1, 122), (2, 123), (3, 124), (15, 125), (21, 126), (22, 127), (23, 128), (29, 129), (30, 130), (31, 131), (32, 132), (33, 133), (34, 134), (36, 135), (37, 136)] := ⟨rfl, rfl, rfl, rfl, rfl, rfl, rfl, rfl, rfl, rfl, rfl, rfl, rfl, rfl, rfl, rfl, trivial⟩
set_option maxRecDepth 20000 in
theorem fx_all {fi : Nat → Nat → Int32} {fl : Nat → Nat → Int64} {fr : Nat → Nat → Nat} {L : Nat} : AF (fun a q => gR (stAll (fi, fl, fr, 0, L)) a q.1 = q.2) 0 fixL := ⟨fx_0 (fi := fi) (fl := fl) (fr := fr) (L := L), fx_1 (fi := fi) (fl := fl) (fr := fr) (L := L), trivial, trivial, trivial, trivial, trivial, trivial, trivial, trivial, trivial, trivial, trivial, trivial, trivial, trivial, trivial, trivial, trivial, trivial, trivial, trivial, trivial, trivial, trivial, trivial, trivial, trivial, trivial, trivial, trivial, trivial, trivial, trivial, trivial, trivial, trivial, trivial, trivial, trivial, trivial, fx_41 (fi := fi) (fl := fl) (fr := fr) (L := L), trivial, trivial, trivial, trivial, trivial, trivial, trivial, trivial, trivial, trivial, trivial, trivial, trivial, trivial, trivial, trivial, trivial, trivial, trivial, trivial, trivial, trivial, trivial, trivial, trivial, trivial, trivial, trivial, trivial, trivial, trivial, trivial, trivial, trivial, trivial, trivial, trivial, trivial, trivial, trivial, trivial, fx_83 (fi := fi) (fl := fl) (fr := fr) (L := L), trivial, trivial, fx_86 (fi := fi) (fl := fl) (fr := fr) (L := L), trivial, fx_88 (fi := fi) (fl := fl) (fr := fr) (L := L), trivial, trivial, trivial, trivial, fx_93 (fi := fi) (fl := fl) (fr := fr) (L := L), trivial, trivial, trivial, trivial, fx_98 (fi := fi) (fl := fl) (fr := fr) (L := L), trivial, trivial, trivial, trivial, fx_103 (fi := fi) (fl := fl) (fr := fr) (L := L), trivial, trivial, trivial, trivial, fx_108 (fi := fi) (fl := fl) (fr := fr) (L := L), trivial, fx_110 (fi := fi) (fl := fl) (fr := fr) (L := L), fx_111 (fi := fi) (fl := fl) (fr := fr) (L := L), trivial, trivial, trivial, fx_115 (fi := fi) (fl := fl) (fr := fr) (L := L), trivial, trivial, trivial, trivial, fx_120 (fi := fi) (fl := fl) (fr := fr) (L := L), trivial, trivial, trivial, trivial, trivial, trivial, trivial, trivial, trivial, trivial, trivial, trivial, trivial, trivial, trivial, trivial, trivial⟩
set_option maxRecDepth 20000 in
theorem fx_3 {fi : Nat → Nat → Int32} {fl : Nat → Nat → Int64} {fr : Nat → Nat → Nat} {L : Nat} {k : Nat} (h : k < 30) : gR (stAll (fi, fl, fr, 0, L)) 3 k = 4 + k := by
  show (if k < 30 then 3 + 1 + k else NUL) = 4 + k
  exact (if_pos h).trans (by omega)
set_option maxRecDepth 20000 in
theorem fx_43 {fi : Nat → Nat → Int32} {fl : Nat → Nat → Int64} {fr : Nat → Nat → Nat} {L : Nat} {k : Nat} (h : k < 30) : gR (stAll (fi, fl, fr, 0, L)) 43 k = 44 + k := by
  show (if k < 30 then 43 + 1 + k else NUL) = 44 + k
  exact (if_pos h).trans (by omega)
set_option maxRecDepth 20000 in
theorem fx_81 {fi : Nat → Nat → Int32} {fl : Nat → Nat → Int64} {fr : Nat → Nat → Nat} {L : Nat} : gR (stAll (fi, fl, fr, 0, L)) 81 0 = 88 ∧ gR (stAll (fi, fl, fr, 0, L)) 81 1 = 93 ∧ gR (stAll (fi, fl, fr, 0, L)) 81 2 = 98 ∧ gR (stAll (fi, fl, fr, 0, L)) 81 3 = 103 := ⟨rfl, rfl, rfl, rfl⟩
theorem st_fix (fi : Nat → Nat → Int32) (fl : Nat → Nat → Int64) (fr : Nat → Nat → Nat) (L : Nat) : Fixed (stAll (fi, fl, fr, 0, L)) := by
  intro a k v h
  unfold keptR at h
  cases h1 : (Nat.beq a idKa && Nat.blt k 30) with
  | true =>
    rw [h1] at h
    rw [Bool.and_eq_true] at h1
    have e : a = 3 := Nat.eq_of_beq_eq_true h1.1
    have hk : k < 30 := Nat.le_of_ble_eq_true h1.2
    subst e
    have h : some (3 + 1 + k) = some v := h
    have h8 := Option.some.inj h
    rw [fx_3 hk]
    omega
  | false =>
    rw [h1] at h
    cases h2 : (Nat.beq a idKb && Nat.blt k 30) with
    | true =>
      rw [h2] at h
      rw [Bool.and_eq_true] at h2
      have e : a = 43 := Nat.eq_of_beq_eq_true h2.1
      have hk : k < 30 := Nat.le_of_ble_eq_true h2.2
      subst e
      have h : some (43 + 1 + k) = some v := h
      have h8 := Option.some.inj h
      rw [fx_43 hk]
      omega
    | false =>
      rw [h2] at h
      cases h3 : (Nat.beq a idTs && Nat.blt k 4) with
      | true =>
        rw [h3] at h
        rw [Bool.and_eq_true] at h3
        have e : a = 81 := Nat.eq_of_beq_eq_true h3.1
        have hk : k < 4 := Nat.le_of_ble_eq_true h3.2
        subst e
        have h : some (88 + 5 * k) = some v := h
        rw [← Option.some.inj h]
        have : k = 0 ∨ k = 1 ∨ k = 2 ∨ k = 3 := by omega
        rcases this with rfl | rfl | rfl | rfl
        · exact fx_81.1
        · exact fx_81.2.1
        · exact fx_81.2.2.1
        · exact fx_81.2.2.2
      | false =>
        rw [h3] at h
        have h : fixR a k = some v := h
        unfold fixR at h
        cases hq : (fixL.getD a []).find? (fun q => Nat.beq q.1 k) with
        | none => rw [hq] at h; cases h
        | some q =>
          rw [hq] at h
          have h : some q.2 = some v := h
          have hm := List.mem_of_find?_eq_some hq
          have hk : Nat.beq q.1 k = true := List.find?_some (p := fun (q : Nat × Nat) => Nat.beq q.1 k) hq
          have hk : q.1 = k := Nat.eq_of_beq_eq_true hk
          have h9 : gR (stAll (fi, fl, fr, 0, L)) (0 + a) q.1 = q.2 := AF_mem fixL 0 (fx_all (fi := fi) (fl := fl) (fr := fr) (L := L)) a q hm
          rw [Nat.zero_add, hk, Option.some.inj h] at h9
          exact h9
