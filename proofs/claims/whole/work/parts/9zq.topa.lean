/-! THE TOP: the store that the constructors leave -/
theorem st_nx {fi : Nat → Nat → Int32} {fl : Nat → Nat → Int64} {fr : Nat → Nat → Nat} {L : Nat} : nx (stAll (fi, fl, fr, 0, L)) = NOB ∧ ln (stAll (fi, fl, fr, 0, L)) = L := ⟨rfl, rfl⟩
theorem st_82 {fi : Nat → Nat → Int32} {fl : Nat → Nat → Int64} {fr : Nat → Nat → Nat} {L k : Nat} : rd (stAll (fi, fl, fr, 0, L)) 82 k = 0 := rfl
theorem st_124 {fi : Nat → Nat → Int32} {fl : Nat → Nat → Int64} {fr : Nat → Nat → Nat} {L k : Nat} : rd (stAll (fi, fl, fr, 0, L)) 124 k = 0 := rfl
theorem st_34 {fi : Nat → Nat → Int32} {fl : Nat → Nat → Int64} {fr : Nat → Nat → Nat} {L k : Nat} : rd (stAll (fi, fl, fr, 0, L)) 34 k = 0 := rfl
theorem st_1 {fi : Nat → Nat → Int32} {fl : Nat → Nat → Int64} {fr : Nat → Nat → Nat} {L : Nat} : rd (stAll (fi, fl, fr, 0, L)) 1 4 = 0 ∧ rd (stAll (fi, fl, fr, 0, L)) 1 6 = 0 ∧ rd (stAll (fi, fl, fr, 0, L)) 1 9 = 0 ∧ rd (stAll (fi, fl, fr, 0, L)) 1 10 = -1 ∧ rd (stAll (fi, fl, fr, 0, L)) 120 24 = 1 ∧ rd (stAll (fi, fl, fr, 0, L)) 121 3 = -1 := ⟨rfl, rfl, rfl, rfl, rfl, rfl⟩
def PL (_ : Nat → Int32) (L : Nat) (σ : Sg) : Prop := nx σ = NOB ∧ Fixed σ ∧ Rel σ ∧ ln σ = L
theorem PL_h1 (hrel : ∀ (fi : Nat → Nat → Int32) (fl : Nat → Nat → Int64) (fr : Nat → Nat → Nat) (L : Nat), Rel (stAll (fi, fl, fr, 0, L))) (hfix : ∀ (fi : Nat → Nat → Int32) (fl : Nat → Nat → Int64) (fr : Nat → Nat → Nat) (L : Nat), Fixed (stAll (fi, fl, fr, 0, L))) : ∀ (xs : Nat → Int32) (L : Nat) (c : Ct) (σ : Sg), nx σ = 0 → (∀ k, gI σ SCR k = xs k) → ln σ = L → (∀ σ', PL xs L σ' → c [.ref SCR, .ref 0, .ref 120, .int 0] [] σ') → b0 NOB (wp false 13) c [.ref SCR, .retAddr 0, .retAddr 0, .retAddr 0] [] σ := by
  intro xs L c σ hn hk hl hc
  obtain ⟨fi, fl, fr, n, L'⟩ := σ
  have hn : n = 0 := hn
  subst hn
  exact made_ok rfl (hc _ ⟨st_nx.1, hfix fi fl fr L', hrel fi fl fr L', st_nx.2.trans hl⟩)
theorem PL_h2 : ∀ (xs : Nat → Int32) (L : Nat) (σ : Sg), L ≤ 3072 → PL xs L σ → Ev (fY_law true NOB (wp true 13) ΦL) 18 [.ref SCR, .ref 0, .ref 120, .int 0] [] σ := fun _ _ σ hL hP => law_all 3078 σ 0 hP.2.2.1 (by rw [hP.2.2.2]; exact hL) (by decide) (by decide) (by decide)
/-- the reference's cells at the start -/
theorem st_121 {fi : Nat → Nat → Int32} {fl : Nat → Nat → Int64} {fr : Nat → Nat → Nat} {L k : Nat} (h : k ≠ 9 ∧ k ≠ 3) : rd (stAll (fi, fl, fr, 0, L)) 121 k = 0 := by
  show rd (sI (sI _ 121 9 127) 121 3 (-1)) 121 k = 0
  rw [rdne2 h.2, rdne2 h.1]
  rfl
