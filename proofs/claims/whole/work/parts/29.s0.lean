/-! THE START: what the Statement gives, as the pure machine's world. -/
def N0 : List Cond := flatC (Jvm.Cond.and given_1 narrow_1)
theorem n0 {args : Array Value} {s : State} (h : (Jvm.Cond.and given_1 narrow_1).before args s = true) {i : Nat} {w : Cond} (hi : N0[i]? = some w) : w.before args s = true := flat_of_before _ h w (List.mem_of_getElem? hi)
def cpS : List Nat := [170, 176, 179, 182, 185, 188, 191, 194, 197, 200, 203, 206, 209, 212, 215, 218, 221, 224, 227, 230, 233, 236, 239, 242, 245, 248, 251, 254, 257, 260, 263, 266, 269, 272, 275, 278, 281, 284, 287]
abbrev wdT (i : Nat) : Term := .static "OwedToWinds$Word" (wordNm.getD i "") "LOwedToWinds$Word;"
abbrev stT (i : Nat) : Term := .string "OwedToWinds$Word" (cpS.getD i 0)
abbrev alT : Term := .static "OwedToWinds$Word" "ALL" "[LOwedToWinds$Word;"
abbrev orT : Term := .static "OwedToWinds$Fraction" "ORDERS" "[I"
abbrev vaT (i : Nat) : Term := .field (stT i) "java/lang/String" "value" "[B"
def exI : List Nat := [174, 180, 186, 192, 198, 204, 210, 216, 222, 228, 234, 240, 246, 146, 140, 252, 258, 152, 158, 86, 122, 116, 110, 264, 270, 276, 282, 288, 294, 300, 104, 306, 312, 80, 98, 74, 92, 128, 134, 68, 4, 62]
def orI : List Nat := [175, 181, 187, 193, 199, 205, 211, 217, 223, 229, 235, 241, 247, 147, 141, 253, 259, 153, 159, 87, 123, 117, 111, 265, 271, 277, 283, 289, 295, 301, 105, 307, 313, 81, 99, 75, 93, 129, 135, 69, 5, 63]
def clI : List Nat := [177, 183, 189, 195, 201, 207, 213, 219, 225, 231, 237, 243, 249, 149, 143, 255, 261, 155, 161, 89, 125, 119, 113, 267, 273, 279, 285, 291, 297, 303, 107, 309, 315, 83, 101, 77, 95, 131, 137, 71, 7, 65]
def cdI : List Nat := [178, 184, 190, 196, 202, 208, 214, 220, 226, 232, 238, 244, 250, 150, 144, 256, 262, 156, 162, 90, 126, 120, 114, 268, 274, 280, 286, 292, 298, 304, 108, 310, 316, 84, 102, 78, 96, 132, 138, 72, 8, 66]
def lvI : List Nat := [179, 185, 191, 197, 203, 209, 215, 221, 227, 233, 239, 245, 251, 151, 145, 257, 263, 157, 163, 91, 127, 121, 115, 269, 275, 281, 287, 293, 299, 305, 109, 311, 317, 85, 103, 79, 97, 133, 139, 73, 9, 67]
def spI : List Nat := [176, 182, 188, 194, 200, 206, 212, 218, 224, 230, 236, 242, 248, 148, 142, 254, 260, 154, 160, 88, 124, 118, 112, 266, 272, 278, 284, 290, 296, 302, 106, 308, 314, 82, 100, 76, 94, 130, 136, 70, 6, 64]
def seI : List Nat := [439, 448, 457, 466, 475, 483, 491, 502, 509, 516, 525, 532, 543, 417, 407, 551, 560, 424, 433, 352, 391, 384, 377, 568, 573, 579, 584, 590, 595, 600, 372, 605, 610, 344, 363, 340, 358, 397, 402]
def lsI : List Nat := [1953, 1954, 1955, 1956, 1957, 1958, 1959, 1960, 1961, 1962, 1963, 1964, 1965, 645, 639, 1966, 1967, 647, 649, 569, 601, 599, 593, 1968, 1969, 1970, 1971, 1972, 1973, 1974, 591, 1975, 1976, 567, 581, 565, 579, 615, 621, 527, 138, 518]
def alE : Nat := 15
def orE : Nat := 167
def fxI (n : String) : List Nat := if n = "clause" then clI else if n = "code" then cdI else lvI
theorem lsI_ok : ∀ i, i < wordNm.length → tables_1[lsI.getD i 0]? = some (.laysStatic "OwedToWinds$Word" (wordNm.getD i "") "LOwedToWinds$Word;") := by decide +kernel
theorem exI_ok : ∀ i, i < wordNm.length → N0[exI.getD i 0]? = some (.exactly (wdT i) "OwedToWinds$Word") := by decide +kernel
theorem orI_ok : ∀ i, i < wordNm.length → N0[orI.getD i 0]? = some (.eq (.field (wdT i) "java/lang/Enum" "ordinal" "I") (.int (Int32.ofNat i))) := by decide +kernel
theorem fxI_ok : ∀ q ∈ wordFl, ∀ i, i < wordNm.length → N0[(fxI q.2.1).getD i 0]? = some (.eq (.field (wdT i) q.1 q.2.1 q.2.2.1) (.int (q.2.2.2.getD i 0))) := by decide +kernel
theorem spI_ok : ∀ i, i < 42 → N0[spI.getD i 0]? = some (.eq (.field (wdT i) "OwedToWinds$Word" "spelling" "Ljava/lang/String;") (stT (wfS (90000 + i) - 91000))) := by decide +kernel
theorem sp_lt : ∀ i, i < 42 → 91000 ≤ wfS (90000 + i) ∧ wfS (90000 + i) < 91039 := by decide +kernel
theorem seI_ok : ∀ i, i < 39 → N0[seI.getD i 0]? = some (.exactly (stT i) "java/lang/String") := by decide +kernel
theorem seC_ok : ∀ i, i < 39 → N0[seI.getD i 0 + 1]? = some (.eq (.field (stT i) "java/lang/String" "coder" "B") (.int 0)) := by decide +kernel
theorem seA_ok : ∀ i, i < 39 → N0[seI.getD i 0 + 2]? = some (.arrayOf (vaT i) .byte) := by decide +kernel
theorem seL_ok : ∀ i, i < 39 → N0[seI.getD i 0 + 3]? = some (.eq (.length (vaT i)) (.int (Int32.ofNat (textLen.getD i 0)))) := by decide +kernel
theorem seE_ok : ∀ i, i < 39 → ∀ j, j < textLen.getD i 0 → N0[seI.getD i 0 + 4 + j]? = some (.eq (.elem (vaT i) (.int (Int32.ofNat j))) (.int ((textByt.getD i []).getD j 0))) := by decide +kernel
theorem alE_ok : ∀ j, j < 42 → N0[alE + j]? = some (.eq (.elem alT (.int (Int32.ofNat j))) (wdT j)) := by decide +kernel
theorem orE_ok : ∀ j, j < 7 → N0[orE + j]? = some (.eq (.elem orT (.int (Int32.ofNat j))) (.int (ordL.getD j 0))) := by decide +kernel
def difS (i j : Nat) : Bool := (Int32.ofNat (textLen.getD i 0) != Int32.ofNat (textLen.getD j 0)) || (List.range (min (textLen.getD i 0) (textLen.getD j 0))).any (fun k => (textByt.getD i []).getD k 0 != (textByt.getD j []).getD k 0)
theorem difS_ok : ∀ i, i < 39 → ∀ j, j < 39 → i = j ∨ difS i j = true := by decide +kernel
theorem len_lt : ∀ i, i < 39 → textLen.getD i 0 < 2 ^ 31 := by decide +kernel
theorem ord_ne : ∀ i, i < 42 → ∀ j, j < 42 → i ≠ j → Int32.ofNat i ≠ Int32.ofNat j := by decide +kernel
theorem neL {args : Array Value} {s : State} {t u : Term} {a b : Nat} (ht : t.eval args s none [] s = some (.ref a)) (hu : u.eval args s none [] s = some (.ref b)) (hab : a ≠ b) : (Cond.not (.eq t u)).before args s = true := by
  simp [Cond.before, Cond.holds, Cond.value, ht, hu, hab]
theorem word_ne {args : Array Value} {s : State} (h : (Jvm.Cond.and given_1 narrow_1).before args s = true) (i j : Nat) (hi : i < wordNm.length) (hj : j < wordNm.length) (hij : i ≠ j) : (Cond.not (.eq (wdT i) (wdT j))).before args s = true := by
  obtain ⟨a, _, _, _, q1, _⟩ := Cond.exactly_spec (n0 h (exI_ok i hi))
  obtain ⟨b, _, _, _, p1, _⟩ := Cond.exactly_spec (n0 h (exI_ok j hj))
  refine neL q1 p1 (fun e => ?_)
  subst e
  have h1 := va_eqt (n0 h (orI_ok i hi))
  have h2 := va_eqt (n0 h (orI_ok j hj))
  rw [va_fe q1] at h1
  rw [va_fe p1, h1] at h2
  exact ord_ne i hi j hj hij (Value.int.inj (Option.some.inj h2))
theorem str_ne {args : Array Value} {s : State} (h : (Jvm.Cond.and given_1 narrow_1).before args s = true) (i j : Nat) (hi : i < 39) (hj : j < 39) (hij : i ≠ j) : (Cond.not (.eq (stT i) (stT j))).before args s = true := by
  obtain ⟨a, _, _, _, q1, _⟩ := Cond.exactly_spec (n0 h (seI_ok i hi))
  obtain ⟨b, _, _, _, p1, _⟩ := Cond.exactly_spec (n0 h (seI_ok j hj))
  refine neL q1 p1 (fun e => ?_)
  subst e
  have T := fun (i : Nat) (hi : i < 39) => va_Tof (A := fun _ => False) (f := fun j => .int ((textByt.getD i []).getD j 0)) (len_lt i hi) (n0 h (seA_ok i hi)) (va_eqt (n0 h (seL_ok i hi))) (fun j hj => va_eqt (n0 h (seE_ok i hi j hj))) (fun _ _ q => q)
  obtain ⟨t, ht, c1, x1, _, _, _, x5, x6, _⟩ := T i hi
  obtain ⟨u, hu, c2, y1, _, _, _, y5, y6, _⟩ := T j hj
  rw [va_fe q1] at ht
  rw [va_fe p1, ht] at hu
  cases hu
  rw [x1] at y1
  cases y1
  rcases difS_ok i hi j hj with h0 | h0
  · exact hij h0
  · unfold difS at h0
    rw [Bool.or_eq_true] at h0
    rcases h0 with h0 | h0
    · exact (bne_iff_ne.mp h0) (x5.symm.trans y5)
    · obtain ⟨k, hk, hne⟩ := List.any_eq_true.mp h0
      have hk := List.mem_range.mp hk
      have e1 := x6 k (by omega)
      have e2 := y6 k (by omega)
      rw [e1] at e2
      exact (bne_iff_ne.mp hne) (Value.int.inj (Option.some.inj e2))
theorem va_En_congr {E d : String} {nm : List String} {F : List (String × String × String × List Int32)} {ad ad' : Nat → Nat} {A : Nat → Prop} {U : State} {H : Heap} (he : ∀ i, i < nm.length → ad' i = ad i) (h : va_En E d nm F ad A U H) : va_En E d nm F ad' A U H := by
  refine ⟨fun i hi => ?_, fun i j hi hj e => h.2 i j hi hj (by rw [← he i hi, ← he j hj]; exact e)⟩
  rw [he i hi]
  exact h.1 i hi
theorem vk_S_congr {N : Nat} {len : List Nat} {byt : List (List Int32)} {adK adV adK' adV' : Nat → Nat} {A : Nat → Prop} {U : State} {H : Heap} (h1 : ∀ i, i < N → adK' i = adK i) (h2 : ∀ i, i < N → adV' i = adV i) (h : vk_S N len byt adK adV A U H) : vk_S N len byt adK' adV' A U H := by
  refine ⟨fun i hi => ?_, fun i j hi hj e => h.2 i j hi hj (by rw [← h1 i hi, ← h1 j hj]; exact e)⟩
  rw [h1 i hi, h2 i hi]
  exact h.1 i hi
def adcF (b tA tO : Nat) (aW aK aV : Nat → Nat) (a : Nat) : Nat := if a = 95000 then b else if a = 94000 then tA else if a = 94001 then tO else if 92000 ≤ a then aV (a - 92000) else if 91000 ≤ a then aK (a - 91000) else aW (a - 90000)
theorem ltb_of {b : Nat} {s : State} (hts : ∀ w ∈ lw_tbl, w.before #[Value.ref b] s = true) {i : Nat} {w : Cond} (h : tables_1[i]? = some w) : w.before #[Value.ref b] s = true := hts w (List.mem_append_right _ (List.mem_of_getElem? h))
theorem env0 {p : Program} {s : State} {m : MethodId} {meth : Method} {c : Code} {b L : Nat} {xs : Nat → Int32} (C0 : lw_At p s m meth c b L xs) :
    ∃ (adc : Nat → Nat) (sv : Value), sv.category = 1 ∧ adc SCR = b ∧ EnvOK s.heap.size (adr s.heap.size adc) sv s s.heap := by
  obtain ⟨-, -, -, -, -, hts, -, -, -, hg⟩ := C0
  have hA : ∀ a : Nat, a < s.heap.size → ¬ Af s.heap.size a := fun a h q => by
    have q : s.heap.size ≤ a := q
    omega
  have hiW : (Cond.initialized "OwedToWinds$Word").before #[Value.ref b] s = true := ltb_of hts (i := 5) (by decide +kernel)
  have hiS : (Cond.initialized "java/lang/String").before #[Value.ref b] s = true := ltb_of hts (i := 15) (by decide +kernel)
  have hiP : (Cond.initialized "jdk/internal/util/Preconditions").before #[Value.ref b] s = true := ltb_of hts (i := 17) (by decide +kernel)
  have hiF : (Cond.initialized "OwedToWinds$Fraction").before #[Value.ref b] s = true := ltb_of hts (i := 6) (by decide +kernel)
  obtain ⟨aW, hW, hWe⟩ := va_Enof2 (E := "OwedToWinds$Word") (d := "LOwedToWinds$Word;") (nm := wordNm) (F := wordFl) (A := Af s.heap.size) (fun i hi => ltb_of hts (lsI_ok i hi)) hiW (fun i hi => n0 hg (exI_ok i hi)) (fun q hq i hi => n0 hg (fxI_ok q hq i hi)) (fun i j hi hj hij => Or.inl (word_ne hg i j hi hj hij)) hA
  obtain ⟨aK, aV, hS, hSe⟩ := vk_Sof (N := 39) (tm := stT) (len := textLen) (byt := textByt) (A := Af s.heap.size) len_lt (fun i hi => n0 hg (seI_ok i hi)) (fun i hi => n0 hg (seC_ok i hi)) (fun i hi => n0 hg (seA_ok i hi)) (fun i hi => n0 hg (seL_ok i hi)) (fun i hi j hj => n0 hg (seE_ok i hi j hj)) (fun i j hi hj hij => Or.inl (str_ne hg i j hi hj hij)) hA
  have hwl : wordNm.length = 42 := by decide
  obtain ⟨tA, hAe, hAT⟩ := va_Tof (N := 42) (ty := .object "OwedToWinds$Word") (tm := alT) (f := fun j => .ref (aW j)) (A := Af s.heap.size) (by decide) (n0 hg (i := 12) (by decide +kernel)) (va_eqt (n0 hg (i := 13) (by decide +kernel))) (fun j hj => va_eqv (n0 hg (alE_ok j hj)) (hWe j (by omega))) hA
  obtain ⟨tO, hOe, hOT⟩ := va_Tof (N := 7) (ty := .int) (tm := orT) (f := fun j => .int (ordL.getD j 0)) (A := Af s.heap.size) (by decide) (n0 hg (i := 165) (by decide +kernel)) (va_eqt (n0 hg (i := 166) (by decide +kernel))) (fun j hj => va_eqt (n0 hg (orE_ok j hj))) hA
  have hq := va_Zqof (A := Af s.heap.size) (ltb_of hts (i := 494) (by decide +kernel)) hiP (n0 hg (i := 58) (w := .isRef (.static "jdk/internal/util/Preconditions" "SIOOBE_FORMATTER" "Ljava/util/function/BiFunction;")) (by decide +kernel)) hA
  have hsv : ∃ sv : Value, sv.category = 1 ∧ va_Z "jdk/internal/util/Preconditions" "SIOOBE_FORMATTER" "Ljava/util/function/BiFunction;" sv (Af s.heap.size) s s.heap := by
    rcases hq with hq | ⟨t, hq⟩
    · exact ⟨.null, rfl, hq⟩
    · exact ⟨.ref t, rfl, hq⟩
  obtain ⟨sv, hsv, hZq⟩ := hsv
  have aw : ∀ i, i < 42 → adr s.heap.size (adcF b tA tO aW aK aV) (90000 + i) = aW i := fun i hi => by
    unfold adr adcF
    rw [if_neg (by omega), if_neg (by omega), if_neg (by omega), if_neg (by omega), if_neg (by omega), if_neg (by omega), Nat.add_sub_cancel_left]
  have ak : ∀ i, i < 39 → adr s.heap.size (adcF b tA tO aW aK aV) (91000 + i) = aK i := fun i hi => by
    unfold adr adcF
    rw [if_neg (by omega), if_neg (by omega), if_neg (by omega), if_neg (by omega), if_neg (by omega), if_pos (by omega), Nat.add_sub_cancel_left]
  have av : ∀ i, i < 39 → adr s.heap.size (adcF b tA tO aW aK aV) (92000 + i) = aV i := fun i hi => by
    unfold adr adcF
    rw [if_neg (by omega), if_neg (by omega), if_neg (by omega), if_neg (by omega), if_pos (by omega), Nat.add_sub_cancel_left]
  have aA : adr s.heap.size (adcF b tA tO aW aK aV) 94000 = tA := rfl
  have aO : adr s.heap.size (adcF b tA tO aW aK aV) 94001 = tO := rfl
  refine ⟨adcF b tA tO aW aK aV, sv, hsv, rfl, va_En_congr (fun i hi => aw i (by omega)) hW, ?_, ?_, ?_, vk_S_congr ak av hS, ?_, hZq, ?_, ?_⟩
  · refine va_Efof (nm := wordNm) (d0 := "LOwedToWinds$Word;") (E := "OwedToWinds$Word") (tm := fun i => stT (wfS (90000 + i) - 91000)) (fun i hi => ?_) (fun i hi => n0 hg (spI_ok i hi)) (fun i hi => ?_) hA
    · rw [aw i hi]; exact hWe i (by omega)
    · have h1 := sp_lt i hi
      have h2 := ak (wfS (90000 + i) - 91000) (by omega)
      rw [show 91000 + (wfS (90000 + i) - 91000) = wfS (90000 + i) by omega] at h2
      rw [h2]
      exact hSe _ (by omega)
  · rw [aA]; exact va_Zref (ltb_of hts (i := 464) (by decide +kernel)) hiW hAe hA
  · rw [aA]
    obtain ⟨cell, g1, g2, g3, g4, g5, g6, g7⟩ := hAT
    exact ⟨cell, g1, g2, g3, g4, g5, fun j hj => by rw [g6 j hj]; exact congrArg (fun z => some (Value.ref z)) (aw j hj).symm, g7⟩
  · exact va_Zof (ltb_of hts (i := 478) (by decide +kernel)) hiS (va_eqt (n0 hg (i := 57) (by decide +kernel))) hA
  · rw [aO]; exact va_Zref (ltb_of hts (i := 1037) (by decide +kernel)) hiF hOe hA
  · rw [aO]; exact hOT
theorem gtb_hts {b : Nat} {s : State} (hts : ∀ w ∈ lw_tbl, w.before #[Value.ref b] s = true) : ∀ w ∈ gtb, w.before #[Value.ref b] s = true := fun w hw => hts w (List.mem_filter.mp hw).1
theorem aos0 {b : Nat} {s : State} (hts : ∀ w ∈ lw_tbl, w.before #[Value.ref b] s = true) : AOs s := by
  refine ⟨va_AO.of (ltb_of hts (i := 130) (by decide +kernel)), va_AO.of (ltb_of hts (i := 140) (by decide +kernel)), ?_, ?_⟩
  · have h := ltb_of hts (i := 36) (w := .arrayOver (.array .int)) (by decide +kernel)
    simp only [Cond.before, Cond.holds, Cond.value] at h ⊢
    exact h
  · intro w hw
    simp only [nestL, List.mem_cons, List.not_mem_nil, or_false] at hw
    rcases hw with rfl | rfl | rfl | rfl | rfl
    · exact va_Nw.of rfl (ltb_of hts (i := 191) (by decide +kernel))
    · exact va_Nw.of rfl (ltb_of hts (i := 206) (by decide +kernel))
    · exact va_Nw.of rfl (ltb_of hts (i := 216) (by decide +kernel))
    · exact va_Nw.of rfl (ltb_of hts (i := 463) (by decide +kernel))
    · exact va_Nw.of rfl (ltb_of hts (i := 919) (by decide +kernel))
theorem know0 {b : Nat} {s : State} (hts : ∀ w ∈ lw_tbl, w.before #[Value.ref b] s = true) : ∃ (D : va_G) (tA : Nat → ClassId), va_K D cls (tyl tA) s := by
  have h1 : ∀ ci : Nat, ∃ x : ClassId × (Nat → Nat), ∀ q, cls[ci]? = some q → u_Kn s q.1 q.2.1 q.2.2 x.1 x.2 := by
    intro ci
    cases hq : cls[ci]? with
    | none => exact ⟨(0, fun _ => 0), fun q h => by cases h⟩
    | some q =>
      have key : ∀ cj, ∀ q', cls[cj]? = some q' → cj ≠ 8 → ∃ x : ClassId × (Nat → Nat), u_Kn s q'.1 q'.2.1 q'.2.2 x.1 x.2 := by
        intro cj q' hq' h8
        obtain ⟨ty0, -, -, hin, -, -, -, hinst, -⟩ := clsF (C := q'.1) (T := q'.2.1) (N := q'.2.2) hq' h8
        obtain ⟨cC, iS, hk⟩ := u_known (gtb_hts hts) hin (gtb_hts hts _ hinst)
        exact ⟨(cC, iS), hk⟩
      have : ∃ x : ClassId × (Nat → Nat), u_Kn s q.1 q.2.1 q.2.2 x.1 x.2 := by
        by_cases h8 : ci = 8
        · subst h8
          have e : cls[0]? = cls[8]? := rfl
          exact key 0 q (e.trans hq) (by decide)
        · exact key ci q hq h8
      obtain ⟨x, hx⟩ := this
      exact ⟨x, fun q' h => by cases h; exact hx⟩
  obtain ⟨f, hf⟩ := Classical.axiomOfChoice h1
  have prim : ∀ (ty : FieldType), (Cond.arrayClass ty).before #[Value.ref b] s = true → ∃ (cA : ClassId) (kA : Class) (comp : ClassId), s.vm.findClass ("[" ++ ty.toString) = some cA ∧ s.vm.classes[cA]? = some kA ∧ kA.kind = .array comp ty := fun ty h => Cond.arrayClass_spec h
  obtain ⟨c0, k0, p0, x0, y0, z0⟩ := prim .int (ltb_of hts (i := 128) (by decide +kernel))
  obtain ⟨c1, k1, p1, x1, y1, z1⟩ := prim .boolean (ltb_of hts (i := 353) (by decide +kernel))
  obtain ⟨c2, k2, p2, x2, y2, z2⟩ := prim .long (ltb_of hts (i := 1338) (by decide +kernel))
  obtain ⟨p3, c3, k3, u3, -, y3, z3, x3⟩ := Cond.arrayOver_spec (ltb_of hts (i := 130) (w := .arrayOver (.object "OwedToWinds$Text")) (by decide +kernel))
  obtain ⟨p4, c4, k4, u4, -, y4, z4, x4⟩ := Cond.arrayOver_spec (ltb_of hts (i := 140) (w := .arrayOver (.object "OwedToWinds$Word")) (by decide +kernel))
  obtain ⟨p5, c5, k5, u5, y5, z5, x5⟩ := Cond.arrayOver_specA (ltb_of hts (i := 36) (w := .arrayOver (.array .int)) (by decide +kernel))
  have arr : ∀ (cA : ClassId) (kA : Class) (comp : ClassId) (ty : FieldType), s.vm.classes[cA]? = some kA → kA.kind = .array comp ty → ArrOfT s cA ty := fun cA kA comp ty h2 h3 n z => ⟨fun k h => (by cases h), kA, h2, comp, h3⟩
  refine ⟨(fun ci => (f ci).1, fun ci => (f ci).2), fun k => match k with | 0 => c0 | 1 => c1 | 2 => c2 | 3 => c3 | 4 => c4 | _ => c5, fun ci q hq => hf ci q hq, fun k q hq => ?_⟩
  match k, hq with
  | 0, hq => cases hq; exact ⟨arr _ _ _ _ y0 z0, x0⟩
  | 1, hq => cases hq; exact ⟨arr _ _ _ _ y1 z1, x1⟩
  | 2, hq => cases hq; exact ⟨arr _ _ _ _ y2 z2, x2⟩
  | 3, hq => cases hq; exact ⟨arr _ _ _ _ y3 z3, k3, p3, y3, z3, u3, x3⟩
  | 4, hq => cases hq; exact ⟨arr _ _ _ _ y4 z4, k4, p4, y4, z4, u4, x4⟩
  | 5, hq => cases hq; exact ⟨arr _ _ _ _ y5 z5, x5⟩
  | n + 6, hq => simp [tyl] at hq
