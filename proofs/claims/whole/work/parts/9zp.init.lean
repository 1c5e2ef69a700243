/-! the constructors: what they make (by program) -/
def stW_init_1 (σ : Sg) : Sg := (sI (sR (sN (sI (sR (sN (sI (sR (sN (sR (sN (sI (sI (sI (sR (sN (sR (sN (sI (sR (sN (sI (sI (sI (sR (sM (sR (sN σ) 1 0 2) 30) 1 1 3) 1 2 0) 1 3 0) 1 4 0)) 1 5 34) 1 6 0)) 1 7 35)) 1 8 36) 1 9 0) 1 10 (-1)) 1 11 0)) 1 12 37)) 1 13 38) 1 14 0)) 1 15 39) 1 16 0)) 1 17 40) 2 43 127)
theorem i_W_init_1 (d : Nat) {Φ : Po} {σ : Sg} (hn : nx σ = 2) (h : Φ none (stW_init_1 σ)) : wp false (d + 1) nW_init [.ref 1] σ Φ := by
  obtain ⟨fi, fl, fr, n, L⟩ := σ
  have hn : n = 2 := hn
  subst hn
  exact Ev.i (And.intro ⟨by decide, by decide⟩ (And.intro (rfl : nx (stW_init_1 (fi, fl, fr, 2, L)) = 41) h))
def stW_init_41 (σ : Sg) : Sg := (sI (sR (sN (sI (sR (sN (sI (sR (sN (sR (sN (sI (sI (sI (sR (sN (sR (sN (sI (sR (sN (sI (sI (sI (sR (sM (sR (sN σ) 41 0 42) 30) 41 1 43) 41 2 0) 41 3 0) 41 4 0)) 41 5 74) 41 6 0)) 41 7 75)) 41 8 76) 41 9 0) 41 10 (-1)) 41 11 0)) 41 12 77)) 41 13 78) 41 14 0)) 41 15 79) 41 16 0)) 41 17 80) 42 43 127)
theorem i_W_init_41 (d : Nat) {Φ : Po} {σ : Sg} (hn : nx σ = 42) (h : Φ none (stW_init_41 σ)) : wp false (d + 1) nW_init [.ref 41] σ Φ := by
  obtain ⟨fi, fl, fr, n, L⟩ := σ
  have hn : n = 42 := hn
  subst hn
  exact Ev.i (And.intro ⟨by decide, by decide⟩ (And.intro (rfl : nx (stW_init_41 (fi, fl, fr, 42, L)) = 81) h))
def stR_init_83 (σ : Sg) : Sg := (sR (sI (sI (sI (sI (sR (sN (sI (sI (sI (sR (sI (sR (sI (sI (sI σ 83 1 0) 83 2 0) 83 3 0) 83 4 90040) 83 5 0) 83 6 99999) 83 7 (-1)) 83 8 1) 83 9 0)) 83 10 84) 83 11 0) 83 12 0) 83 13 (-1)) 83 14 (-1)) 83 0 82)
theorem i_R_init_83 (d : Nat) {Φ : Po} {σ : Sg} (hn : nx σ = 84) (h : Φ none (stR_init_83 σ)) : wp false (d + 1) nR_init [.ref 83, .ref 82] σ Φ := by
  obtain ⟨fi, fl, fr, n, L⟩ := σ
  have hn : n = 84 := hn
  subst hn
  exact Ev.i (And.intro (rfl : nx (stR_init_83 (fi, fl, fr, 84, L)) = 85) h)
def stQ_init_85 (σ : Sg) : Sg := (sL (sL σ 85 0 0) 85 1 1)
theorem i_Q_init_85 (d : Nat) {Φ : Po} {σ : Sg} (hn : nx σ = 86) (h : Φ none (stQ_init_85 σ)) : wp false (d + 1) nQ_init [.ref 85] σ Φ := by
  obtain ⟨fi, fl, fr, n, L⟩ := σ
  have hn : n = 86 := hn
  subst hn
  exact Ev.i (And.intro (rfl : nx (stQ_init_85 (fi, fl, fr, 86, L)) = 86) h)
def stC_init_86 (σ : Sg) : Sg := (sR (sN σ) 86 0 87)
theorem i_C_init_86 (d : Nat) {Φ : Po} {σ : Sg} (hn : nx σ = 87) (h : Φ none (stC_init_86 σ)) : wp false (d + 1) nC_init [.ref 86] σ Φ := by
  obtain ⟨fi, fl, fr, n, L⟩ := σ
  have hn : n = 87 := hn
  subst hn
  exact Ev.i (And.intro (rfl : nx (stC_init_86 (fi, fl, fr, 87, L)) = 88) h)
def stT_init_88 (σ : Sg) : Sg := (sI (sR (sN (sR (sN (sR (sN (sI (sR (sN σ) 88 0 89) 88 1 0)) 88 2 90)) 88 3 91)) 88 4 92) 88 5 0)
theorem i_T_init_88 (d : Nat) {Φ : Po} {σ : Sg} (hn : nx σ = 89) (h : Φ none (stT_init_88 σ)) : wp false (d + 1) nT_init [.ref 88] σ Φ := by
  obtain ⟨fi, fl, fr, n, L⟩ := σ
  have hn : n = 89 := hn
  subst hn
  exact Ev.i (And.intro (rfl : nx (stT_init_88 (fi, fl, fr, 89, L)) = 93) h)
def stT_init_93 (σ : Sg) : Sg := (sI (sR (sN (sR (sN (sR (sN (sI (sR (sN σ) 93 0 94) 93 1 0)) 93 2 95)) 93 3 96)) 93 4 97) 93 5 0)
theorem i_T_init_93 (d : Nat) {Φ : Po} {σ : Sg} (hn : nx σ = 94) (h : Φ none (stT_init_93 σ)) : wp false (d + 1) nT_init [.ref 93] σ Φ := by
  obtain ⟨fi, fl, fr, n, L⟩ := σ
  have hn : n = 94 := hn
  subst hn
  exact Ev.i (And.intro (rfl : nx (stT_init_93 (fi, fl, fr, 94, L)) = 98) h)
def stT_init_98 (σ : Sg) : Sg := (sI (sR (sN (sR (sN (sR (sN (sI (sR (sN σ) 98 0 99) 98 1 0)) 98 2 100)) 98 3 101)) 98 4 102) 98 5 0)
theorem i_T_init_98 (d : Nat) {Φ : Po} {σ : Sg} (hn : nx σ = 99) (h : Φ none (stT_init_98 σ)) : wp false (d + 1) nT_init [.ref 98] σ Φ := by
  obtain ⟨fi, fl, fr, n, L⟩ := σ
  have hn : n = 99 := hn
  subst hn
  exact Ev.i (And.intro (rfl : nx (stT_init_98 (fi, fl, fr, 99, L)) = 103) h)
def stT_init_103 (σ : Sg) : Sg := (sI (sR (sN (sR (sN (sR (sN (sI (sR (sN σ) 103 0 104) 103 1 0)) 103 2 105)) 103 3 106)) 103 4 107) 103 5 0)
theorem i_T_init_103 (d : Nat) {Φ : Po} {σ : Sg} (hn : nx σ = 104) (h : Φ none (stT_init_103 σ)) : wp false (d + 1) nT_init [.ref 103] σ Φ := by
  obtain ⟨fi, fl, fr, n, L⟩ := σ
  have hn : n = 104 := hn
  subst hn
  exact Ev.i (And.intro (rfl : nx (stT_init_103 (fi, fl, fr, 104, L)) = 108) h)
def stL_init_108 (σ : Sg) : Sg := (sR (sR (sR (sN σ) 108 2 109) 108 0 1) 108 1 81)
theorem i_L_init_108 (d : Nat) {Φ : Po} {σ : Sg} (hn : nx σ = 109) (h : Φ none (stL_init_108 σ)) : wp false (d + 1) nL_init [.ref 108, .ref 1, .ref 81] σ Φ := by
  obtain ⟨fi, fl, fr, n, L⟩ := σ
  have hn : n = 109 := hn
  subst hn
  exact Ev.i (And.intro (rfl : nx (stL_init_108 (fi, fl, fr, 109, L)) = 110) h)
def stD_init_110 (σ : Sg) : Sg := (sR (sR (sI (sI (sI σ 110 2 (-1)) 110 3 0) 110 4 0) 110 0 1) 110 1 108)
theorem i_D_init_110 (d : Nat) {Φ : Po} {σ : Sg} (hn : nx σ = 111) (h : Φ none (stD_init_110 σ)) : wp false (d + 1) nD_init [.ref 110, .ref 1, .ref 108] σ Φ := by
  obtain ⟨fi, fl, fr, n, L⟩ := σ
  have hn : n = 111 := hn
  subst hn
  exact Ev.i (And.intro (rfl : nx (stD_init_110 (fi, fl, fr, 111, L)) = 111) h)
def stF_init_111 (σ : Sg) : Sg := (sR (sR (sR (sN (sI (sR (sN (sI (sI (sI (sI (sR (sN σ) 111 2 112) 111 3 (-1)) 111 4 (-1)) 111 5 0) 111 6 0)) 111 7 113) 111 8 0)) 111 9 114) 111 0 1) 111 1 110)
theorem i_F_init_111 (d : Nat) {Φ : Po} {σ : Sg} (hn : nx σ = 112) (h : Φ none (stF_init_111 σ)) : wp false (d + 1) nF_init [.ref 111, .ref 1, .ref 110] σ Φ := by
  obtain ⟨fi, fl, fr, n, L⟩ := σ
  have hn : n = 112 := hn
  subst hn
  exact Ev.i (And.intro (rfl : nx (stF_init_111 (fi, fl, fr, 112, L)) = 115) h)
def stZ_init_115 (σ : Sg) : Sg := (sR (sR (sR (sN (sR (sN (sR (sN (sR (sN σ) 115 2 116)) 115 3 117)) 115 4 118)) 115 5 119) 115 0 1) 115 1 108)
theorem i_Z_init_115 (d : Nat) {Φ : Po} {σ : Sg} (hn : nx σ = 116) (h : Φ none (stZ_init_115 σ)) : wp false (d + 1) nZ_init [.ref 115, .ref 1, .ref 108] σ Φ := by
  obtain ⟨fi, fl, fr, n, L⟩ := σ
  have hn : n = 116 := hn
  subst hn
  exact Ev.i (And.intro (rfl : nx (stZ_init_115 (fi, fl, fr, 116, L)) = 120) h)
def cpK (σ : Sg) (a b n : Nat) : Sg := (fun x y => if x = b ∧ y < n then σ.1 a y else σ.1 x y, σ.2)
theorem cpK_0 (σ : Sg) (a b : Nat) : cpK σ a b 0 = σ := by
  unfold cpK
  have : (fun x y => if x = b ∧ y < 0 then σ.1 a y else σ.1 x y) = σ.1 := by funext x y; rw [if_neg (by omega)]
  rw [this]
theorem cpK_s (σ : Sg) {a b : Nat} (h : a ≠ b) (n : Nat) : sI (cpK σ a b n) b n (gI (cpK σ a b n) a n) = cpK σ a b (n + 1) := by
  have e : gI (cpK σ a b n) a n = σ.1 a n := by
    show (if a = b ∧ n < n then _ else σ.1 a n) = _
    rw [if_neg (fun q => h q.1)]
  rw [e]
  unfold sI cpK
  congr 1
  funext x y
  show (if x = b ∧ y = n then σ.1 a n else (if x = b ∧ y < n then σ.1 a y else σ.1 x y)) = if x = b ∧ y < n + 1 then σ.1 a y else σ.1 x y
  by_cases hx : x = b
  · by_cases hy : y = n
    · subst hy; rw [if_pos ⟨hx, rfl⟩, if_pos ⟨hx, by omega⟩]
    · rw [if_neg (fun q => hy q.2)]
      by_cases h2 : y < n
      · rw [if_pos ⟨hx, h2⟩, if_pos ⟨hx, by omega⟩]
      · rw [if_neg (fun q => h2 q.2), if_neg (fun q => by omega)]
  · rw [if_neg (fun q => hx q.1), if_neg (fun q => hx q.1), if_neg (fun q => hx q.1)]
theorem ofNat_s (n : Nat) : Int32.ofNat n + 1 = Int32.ofNat (n + 1) := by
  rw [Int32.ofNat_add]; rfl
theorem i_M_copyL (d : Nat) {Φ : Po} (fi : Nat → Nat → Int32) (fl : Nat → Nat → Int64) (fr : Nat → Nat → Nat) (L : Nat) (h : Φ none (cpK (fi, fl, fr, 137, L) 121 122 4016)) : ∀ n i, i + n = 4016 →
    fM_copy false 137 (wp false d) (fin false 137 Φ) (Ev (fM_copy false 137 (wp false d) (fin false 137 Φ))) 2 [.ref 121, .ref 122, .int (Int32.ofNat i)] [] (cpK (fi, fl, fr, 137, L) 121 122 i)
  | 0, i, e => by
    have e : i = 4016 := by omega
    subst e
    exact (And.intro (rfl : nx (cpK (fi, fl, fr, 137, L) 121 122 4016) = 137) h)
  | n + 1, i, e => by
    have ih := i_M_copyL d fi fl fr L h n (i + 1) (by omega)
    have ht : (Int32.ofNat i).toInt = (i : Int) := nI_T (by omega)
    have hix : ix (Int32.ofNat i) = i := by unfold ix; rw [ht]; exact Int.toNat_natCast i
    have hin : inb (Int32.ofNat i) 4016 := by unfold inb; rw [ht]; omega
    have hc : ¬ ((4016 : Int32) ≤ Int32.ofNat i) := by
      rw [Int32.le_iff_toInt_le, ht]
      show ¬ ((4016 : Int) ≤ i)
      omega
    show (if (4016 : Int32) ≤ Int32.ofNat i then (nx (cpK (fi, fl, fr, 137, L) 121 122 i) = 137 ∧ Φ none (cpK (fi, fl, fr, 137, L) 121 122 i)) else (inb (Int32.ofNat i) 4016 ∧ (inb (Int32.ofNat i) 4016 ∧ Ev (fM_copy false 137 (wp false d) (fin false 137 Φ)) 2 [.ref 121, .ref 122, .int (Int32.ofNat i + 1)] [] (sI (cpK (fi, fl, fr, 137, L) 121 122 i) 122 (ix (Int32.ofNat i)) (gI (cpK (fi, fl, fr, 137, L) 121 122 i) 121 (ix (Int32.ofNat i)))))))
    rw [if_neg hc, hix, ofNat_s, cpK_s _ (by decide)]
    exact ⟨hin, hin, Ev.i ih⟩
theorem i_M_copy (d : Nat) {Φ : Po} {σ : Sg} (hn : nx σ = 137) (h : Φ none (cpK σ 121 122 4016)) : wp false (d + 1) nM_copy [.ref 121, .ref 122] σ Φ := by
  obtain ⟨fi, fl, fr, n, L⟩ := σ
  have hn : n = 137 := hn
  subst hn
  refine Ev.i ?_
  have h9 := i_M_copyL d fi fl fr L h 4016 0 rfl
  rw [cpK_0] at h9
  exact h9
def stX_init (σ : Sg) : Sg := (sR (stZ_init_115 (sN (sR (stF_init_111 (sN (sR (stD_init_110 (sN (sR (stL_init_108 (sN (sR (stT_init_103 (sN (sR (stT_init_98 (sN (sR (stT_init_93 (sN (sR (stT_init_88 (sN (sR (stC_init_86 (sN (sR (stQ_init_85 (sN (sR (stR_init_83 (sN (sI (sR (sN (sR (sN (sR (stW_init_41 (sN (sR (stW_init_1 (sN σ)) 0 0 1))) 0 1 41)) 0 2 81)) 0 3 82) 0 4 0))) 0 5 83))) 0 10 85))) 0 11 86))) 81 0 88))) 81 1 93))) 81 2 98))) 81 3 103))) 0 9 108))) 0 6 110))) 0 7 111))) 0 8 115)
set_option maxRecDepth 20000 in
theorem i_X_init (d : Nat) {Φ : Po} {σ : Sg} (hn : nx σ = 1) (h : Φ none (stX_init σ)) : wp false (d + 2) nX_init [.ref 0] σ Φ := by
  obtain ⟨fi, fl, fr, n, L⟩ := σ
  have hn : n = 1 := hn
  subst hn
  refine Ev.i ?_
  show wp false (d + 1) nW_init [.ref 1] (sN (fi, fl, fr, 1, L)) (pV (bX_init_12 false 120 (wp false (d + 1)) (fin false 120 Φ) _) [.ref 0, .retAddr 0] [.ref 1, .ref 0])
  refine i_W_init_1 d rfl ?_
  show wp false (d + 1) nW_init [.ref 41] (sN (sR (stW_init_1 (sN (fi, fl, fr, 1, L))) 0 0 1)) (pV (bX_init_23 false 120 (wp false (d + 1)) (fin false 120 Φ) _) [.ref 0, .retAddr 0] [.ref 41, .ref 0])
  refine i_W_init_41 d rfl ?_
  show wp false (d + 1) nR_init [.ref 83, .ref 82] (sN (sI (sR (sN (sR (sN (sR (stW_init_41 (sN (sR (stW_init_1 (sN (fi, fl, fr, 1, L))) 0 0 1))) 0 1 41)) 0 2 81)) 0 3 82) 0 4 0)) (pV (bX_init_60 false 120 (wp false (d + 1)) (fin false 120 Φ) _) [.ref 0, .retAddr 0] [.ref 83, .ref 0])
  refine i_R_init_83 d rfl ?_
  show wp false (d + 1) nQ_init [.ref 85] (sN (sR (stR_init_83 (sN (sI (sR (sN (sR (sN (sR (stW_init_41 (sN (sR (stW_init_1 (sN (fi, fl, fr, 1, L))) 0 0 1))) 0 1 41)) 0 2 81)) 0 3 82) 0 4 0))) 0 5 83)) (pV (bX_init_71 false 120 (wp false (d + 1)) (fin false 120 Φ) _) [.ref 0, .retAddr 0] [.ref 85, .ref 0])
  refine i_Q_init_85 d rfl ?_
  show wp false (d + 1) nC_init [.ref 86] (sN (sR (stQ_init_85 (sN (sR (stR_init_83 (sN (sI (sR (sN (sR (sN (sR (stW_init_41 (sN (sR (stW_init_1 (sN (fi, fl, fr, 1, L))) 0 0 1))) 0 1 41)) 0 2 81)) 0 3 82) 0 4 0))) 0 5 83))) 0 10 85)) (pV (bX_init_82 false 120 (wp false (d + 1)) (fin false 120 Φ) _) [.ref 0, .retAddr 0] [.ref 86, .ref 0])
  refine i_C_init_86 d rfl ?_
  show wp false (d + 1) nT_init [.ref 88] (sN (sR (stC_init_86 (sN (sR (stQ_init_85 (sN (sR (stR_init_83 (sN (sI (sR (sN (sR (sN (sR (stW_init_41 (sN (sR (stW_init_1 (sN (fi, fl, fr, 1, L))) 0 0 1))) 0 1 41)) 0 2 81)) 0 3 82) 0 4 0))) 0 5 83))) 0 10 85))) 0 11 86)) (pV (bX_init_104 false 120 (wp false (d + 1)) (fin false 120 Φ) _) [.ref 0, .int 0] [.ref 88, .int 0, .ref 81])
  refine i_T_init_88 d rfl ?_
  refine And.intro ⟨by decide, by decide⟩ (Ev.i ?_)
  show wp false (d + 1) nT_init [.ref 93] (sN (sR (stT_init_88 (sN (sR (stC_init_86 (sN (sR (stQ_init_85 (sN (sR (stR_init_83 (sN (sI (sR (sN (sR (sN (sR (stW_init_41 (sN (sR (stW_init_1 (sN (fi, fl, fr, 1, L))) 0 0 1))) 0 1 41)) 0 2 81)) 0 3 82) 0 4 0))) 0 5 83))) 0 10 85))) 0 11 86))) 81 0 88)) (pV (bX_init_104 false 120 (wp false (d + 1)) (fin false 120 Φ) _) [.ref 0, .int (0 + 1)] [.ref 93, .int (0 + 1), .ref 81])
  refine i_T_init_93 d rfl ?_
  refine And.intro ⟨by decide, by decide⟩ (Ev.i ?_)
  show wp false (d + 1) nT_init [.ref 98] (sN (sR (stT_init_93 (sN (sR (stT_init_88 (sN (sR (stC_init_86 (sN (sR (stQ_init_85 (sN (sR (stR_init_83 (sN (sI (sR (sN (sR (sN (sR (stW_init_41 (sN (sR (stW_init_1 (sN (fi, fl, fr, 1, L))) 0 0 1))) 0 1 41)) 0 2 81)) 0 3 82) 0 4 0))) 0 5 83))) 0 10 85))) 0 11 86))) 81 0 88))) 81 1 93)) (pV (bX_init_104 false 120 (wp false (d + 1)) (fin false 120 Φ) _) [.ref 0, .int ((0 + 1) + 1)] [.ref 98, .int ((0 + 1) + 1), .ref 81])
  refine i_T_init_98 d rfl ?_
  refine And.intro ⟨by decide, by decide⟩ (Ev.i ?_)
  show wp false (d + 1) nT_init [.ref 103] (sN (sR (stT_init_98 (sN (sR (stT_init_93 (sN (sR (stT_init_88 (sN (sR (stC_init_86 (sN (sR (stQ_init_85 (sN (sR (stR_init_83 (sN (sI (sR (sN (sR (sN (sR (stW_init_41 (sN (sR (stW_init_1 (sN (fi, fl, fr, 1, L))) 0 0 1))) 0 1 41)) 0 2 81)) 0 3 82) 0 4 0))) 0 5 83))) 0 10 85))) 0 11 86))) 81 0 88))) 81 1 93))) 81 2 98)) (pV (bX_init_104 false 120 (wp false (d + 1)) (fin false 120 Φ) _) [.ref 0, .int (((0 + 1) + 1) + 1)] [.ref 103, .int (((0 + 1) + 1) + 1), .ref 81])
  refine i_T_init_103 d rfl ?_
  refine And.intro ⟨by decide, by decide⟩ (Ev.i ?_)
  show wp false (d + 1) nL_init [.ref 108, .ref 1, .ref 81] (sN (sR (stT_init_103 (sN (sR (stT_init_98 (sN (sR (stT_init_93 (sN (sR (stT_init_88 (sN (sR (stC_init_86 (sN (sR (stQ_init_85 (sN (sR (stR_init_83 (sN (sI (sR (sN (sR (sN (sR (stW_init_41 (sN (sR (stW_init_1 (sN (fi, fl, fr, 1, L))) 0 0 1))) 0 1 41)) 0 2 81)) 0 3 82) 0 4 0))) 0 5 83))) 0 10 85))) 0 11 86))) 81 0 88))) 81 1 93))) 81 2 98))) 81 3 103)) (pV (bX_init_127 false 120 (wp false (d + 1)) (fin false 120 Φ) _) [.ref 0, .int ((((0 + 1) + 1) + 1) + 1)] [.ref 108, .ref 0])
  refine i_L_init_108 d rfl ?_
  show wp false (d + 1) nD_init [.ref 110, .ref 1, .ref 108] (sN (sR (stL_init_108 (sN (sR (stT_init_103 (sN (sR (stT_init_98 (sN (sR (stT_init_93 (sN (sR (stT_init_88 (sN (sR (stC_init_86 (sN (sR (stQ_init_85 (sN (sR (stR_init_83 (sN (sI (sR (sN (sR (sN (sR (stW_init_41 (sN (sR (stW_init_1 (sN (fi, fl, fr, 1, L))) 0 0 1))) 0 1 41)) 0 2 81)) 0 3 82) 0 4 0))) 0 5 83))) 0 10 85))) 0 11 86))) 81 0 88))) 81 1 93))) 81 2 98))) 81 3 103))) 0 9 108)) (pV (bX_init_146 false 120 (wp false (d + 1)) (fin false 120 Φ) _) [.ref 0, .int ((((0 + 1) + 1) + 1) + 1)] [.ref 110, .ref 0])
  refine i_D_init_110 d rfl ?_
  show wp false (d + 1) nF_init [.ref 111, .ref 1, .ref 110] (sN (sR (stD_init_110 (sN (sR (stL_init_108 (sN (sR (stT_init_103 (sN (sR (stT_init_98 (sN (sR (stT_init_93 (sN (sR (stT_init_88 (sN (sR (stC_init_86 (sN (sR (stQ_init_85 (sN (sR (stR_init_83 (sN (sI (sR (sN (sR (sN (sR (stW_init_41 (sN (sR (stW_init_1 (sN (fi, fl, fr, 1, L))) 0 0 1))) 0 1 41)) 0 2 81)) 0 3 82) 0 4 0))) 0 5 83))) 0 10 85))) 0 11 86))) 81 0 88))) 81 1 93))) 81 2 98))) 81 3 103))) 0 9 108))) 0 6 110)) (pV (bX_init_165 false 120 (wp false (d + 1)) (fin false 120 Φ) _) [.ref 0, .int ((((0 + 1) + 1) + 1) + 1)] [.ref 111, .ref 0])
  refine i_F_init_111 d rfl ?_
  show wp false (d + 1) nZ_init [.ref 115, .ref 1, .ref 108] (sN (sR (stF_init_111 (sN (sR (stD_init_110 (sN (sR (stL_init_108 (sN (sR (stT_init_103 (sN (sR (stT_init_98 (sN (sR (stT_init_93 (sN (sR (stT_init_88 (sN (sR (stC_init_86 (sN (sR (stQ_init_85 (sN (sR (stR_init_83 (sN (sI (sR (sN (sR (sN (sR (stW_init_41 (sN (sR (stW_init_1 (sN (fi, fl, fr, 1, L))) 0 0 1))) 0 1 41)) 0 2 81)) 0 3 82) 0 4 0))) 0 5 83))) 0 10 85))) 0 11 86))) 81 0 88))) 81 1 93))) 81 2 98))) 81 3 103))) 0 9 108))) 0 6 110))) 0 7 111)) (pV (bX_init_184 false 120 (wp false (d + 1)) (fin false 120 Φ) _) [.ref 0, .int ((((0 + 1) + 1) + 1) + 1)] [.ref 115, .ref 0])
  refine i_Z_init_115 d rfl ?_
  exact And.intro (rfl : nx (stX_init (fi, fl, fr, 1, L)) = 120) h
def stM_init (σ : Sg) : Sg := (cpK (sI (sI (sR (sN (sR (sN (sR (sN (sR (sN (sR (sN (sR (sN (sR (sN (sR (sN (sI (sR (sN (sR (sN (sR (sN (sR (sN (sI (sI (sR (sN (sR (sN (sR (sN (sR (sN σ) 120 0 121)) 120 1 122)) 120 2 123)) 120 3 124) 120 5 (-1)) 120 6 (-1))) 120 15 125)) 120 21 126)) 120 22 127)) 120 23 128) 120 24 1)) 120 29 129)) 120 30 130)) 120 31 131)) 120 32 132)) 120 33 133)) 120 34 134)) 120 36 135)) 120 37 136) 121 9 127) 121 3 (-1)) 121 122 4016)
theorem i_M_init (d : Nat) {Φ : Po} {σ : Sg} (hn : nx σ = 121) (h : Φ none (stM_init σ)) : wp false (d + 2) nM_init [.ref 120] σ Φ := by
  obtain ⟨fi, fl, fr, n, L⟩ := σ
  have hn : n = 121 := hn
  subst hn
  refine Ev.i ?_
  refine And.intro ⟨by decide, by decide⟩ (And.intro ⟨by decide, by decide⟩ ?_)
  show wp false (d + 1) nM_copy [.ref 121, .ref 122] (sI (sI (sR (sN (sR (sN (sR (sN (sR (sN (sR (sN (sR (sN (sR (sN (sR (sN (sI (sR (sN (sR (sN (sR (sN (sR (sN (sI (sI (sR (sN (sR (sN (sR (sN (sR (sN (fi, fl, fr, 121, L)) 120 0 121)) 120 1 122)) 120 2 123)) 120 3 124) 120 5 (-1)) 120 6 (-1))) 120 15 125)) 120 21 126)) 120 22 127)) 120 23 128) 120 24 1)) 120 29 129)) 120 30 130)) 120 31 131)) 120 32 132)) 120 33 133)) 120 34 134)) 120 36 135)) 120 37 136) 121 9 127) 121 3 (-1)) (pV (bM_init_181 false 137 (wp false (d + 1)) (fin false 137 Φ) _) [.ref 120] [])
  refine i_M_copy d rfl ?_
  exact And.intro (rfl : nx (stM_init (fi, fl, fr, 121, L)) = 137) h
def stAll (σ : Sg) : Sg := stM_init (sN (stX_init (sN σ)))
theorem made_ok {c : Ct} {σ : Sg} (hn : nx σ = 0) (h : c [.ref SCR, .ref 0, .ref 120, .int 0] [] (stAll σ)) : b0 NOB (wp false 13) c [.ref SCR, .retAddr 0, .retAddr 0, .retAddr 0] [] σ := by
  obtain ⟨fi, fl, fr, n, L⟩ := σ
  have hn : n = 0 := hn
  subst hn
  show wp false 13 nX_init [.ref 0] (sN (fi, fl, fr, 0, L)) (pV (o_as 1 (o_new false NOB 11 (o_dup (o_ini false NOB (wp false 13) nM_init 0 (o_as 2 (o_ic 0 (o_is 3 c))))))) [.ref SCR, .retAddr 0, .retAddr 0, .retAddr 0] [.ref 0])
  refine i_X_init 11 rfl ?_
  show wp false 13 nM_init [.ref 120] (sN (stX_init (sN (fi, fl, fr, 0, L)))) (pV (o_as 2 (o_ic 0 (o_is 3 c))) [.ref SCR, .ref 0, .retAddr 0, .retAddr 0] [.ref 120])
  refine i_M_init 11 rfl ?_
  exact h
