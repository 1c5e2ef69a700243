/-! THE TOP: the store that the constructors leave -/
theorem st_nx {fi : Nat → Nat → Int32} {fl : Nat → Nat → Int64} {fr : Nat → Nat → Nat} {L : Nat} : nx (stAll (fi, fl, fr, 0, L)) = NOB ∧ ln (stAll (fi, fl, fr, 0, L)) = L := ⟨rfl, rfl⟩
theorem st_82 {fi : Nat → Nat → Int32} {fl : Nat → Nat → Int64} {fr : Nat → Nat → Nat} {L k : Nat} : rd (stAll (fi, fl, fr, 0, L)) 82 k = 0 := rfl
theorem st_124 {fi : Nat → Nat → Int32} {fl : Nat → Nat → Int64} {fr : Nat → Nat → Nat} {L k : Nat} : rd (stAll (fi, fl, fr, 0, L)) 124 k = 0 := rfl
theorem st_34 {fi : Nat → Nat → Int32} {fl : Nat → Nat → Int64} {fr : Nat → Nat → Nat} {L k : Nat} : rd (stAll (fi, fl, fr, 0, L)) 34 k = 0 := rfl
theorem st_1 {fi : Nat → Nat → Int32} {fl : Nat → Nat → Int64} {fr : Nat → Nat → Nat} {L : Nat} : rd (stAll (fi, fl, fr, 0, L)) 1 4 = 0 ∧ rd (stAll (fi, fl, fr, 0, L)) 1 6 = 0 ∧ rd (stAll (fi, fl, fr, 0, L)) 1 9 = 0 ∧ rd (stAll (fi, fl, fr, 0, L)) 1 10 = -1 ∧ rd (stAll (fi, fl, fr, 0, L)) 120 24 = 1 ∧ rd (stAll (fi, fl, fr, 0, L)) 121 3 = -1 := ⟨rfl, rfl, rfl, rfl, rfl, rfl⟩
