/-! THE LAW'S LOOP over the pairs of calls (by program) -/
theorem ite_i {c a b : Prop} [Decidable c] (h1 : c → a) (h2 : ¬ c → b) : if c then a else b := by
  by_cases q : c
  · rw [if_pos q]; exact h1 q
  · rw [if_neg q]; exact h2 q
theorem nI_T {n : Nat} (h : n < 2147483648) : (Int32.ofNat n).toInt = (n : Int) := toInt_of rfl h
theorem cmp_self (v : Int64) : lg_cmp v v = 0 := by simp [lg_cmp]
theorem zBv {v : Int32} (h : v = 0 ∨ v = 1) : zB v = true := by rcases h with rfl | rfl <;> rfl
abbrev LwH (σ : Sg) (i : Int32) : Prop := ∀ j : Int32, 0 ≤ j.toInt → j.toInt < 6 → inb (i + j) (ln σ)
theorem case0 {Rel : Sg → Prop} (p0 : ∀ a b c : Int32, PairI Rel nX_wind nM_wind [.int a, .int b, .int c]) {σ : Sg} {i : Int32} (hR : Rel σ) (hi : LwH σ i) (next : ∀ σ'', Sm σ σ'' → Rel σ'' → kY_law 13 ΦL 18 [.ref 95000, .ref 0, .ref 120, .int (i + 6)] [] σ'') : bY_law_236 true NOB (wp true 13) ΦL (kY_law 13 ΦL) [.ref 95000, .ref 0, .ref 120, .int i] [] σ := by
  rw [eY_law_236]
  refine ⟨hi 1 (by decide) (by decide), hi 2 (by decide) (by decide), hi 3 (by decide) (by decide), (p0 _ _ _) σ hR _ (fun v σ' hs hm => ?_)⟩
  show bY_law_255 true NOB (wp true 13) ΦL (kY_law 13 ΦL) [.ref 95000, .ref 0, .ref 120, .int i] [.int v] σ'
  rw [eY_law_255]
  refine ⟨by rw [hs.2]; exact hi 1 (by decide) (by decide), by rw [hs.2]; exact hi 2 (by decide) (by decide), by rw [hs.2]; exact hi 3 (by decide) (by decide), ?_⟩
  simp only [hs.1]
  refine hm _ (fun σ'' hs' hR' => ?_)
  show bY_law_274 true NOB (wp true 13) ΦL (kY_law 13 ΦL) [.ref 95000, .ref 0, .ref 120, .int i] [.int v, .int v] σ''
  rw [eY_law_274, if_pos (rfl), eY_law_1678]
  exact next σ'' (hs.tr hs') hR'

theorem case1 {Rel : Sg → Prop} (p1 : ∀ a b : Int32, PairI Rel nX_village nM_village [.int a, .int b]) {σ : Sg} {i : Int32} (hR : Rel σ) (hi : LwH σ i) (next : ∀ σ'', Sm σ σ'' → Rel σ'' → kY_law 13 ΦL 18 [.ref 95000, .ref 0, .ref 120, .int (i + 6)] [] σ'') : bY_law_279 true NOB (wp true 13) ΦL (kY_law 13 ΦL) [.ref 95000, .ref 0, .ref 120, .int i] [] σ := by
  rw [eY_law_279]
  refine ⟨hi 1 (by decide) (by decide), hi 2 (by decide) (by decide), (p1 _ _) σ hR _ (fun v σ' hs hm => ?_)⟩
  show bY_law_293 true NOB (wp true 13) ΦL (kY_law 13 ΦL) [.ref 95000, .ref 0, .ref 120, .int i] [.int v] σ'
  rw [eY_law_293]
  refine ⟨by rw [hs.2]; exact hi 1 (by decide) (by decide), by rw [hs.2]; exact hi 2 (by decide) (by decide), ?_⟩
  simp only [hs.1]
  refine hm _ (fun σ'' hs' hR' => ?_)
  show bY_law_307 true NOB (wp true 13) ΦL (kY_law 13 ΦL) [.ref 95000, .ref 0, .ref 120, .int i] [.int v, .int v] σ''
  rw [eY_law_307, if_pos (rfl), eY_law_1678]
  exact next σ'' (hs.tr hs') hR'

theorem case2 {Rel : Sg → Prop} (p2 : ∀ a b c : Int32, PairI Rel nX_way nM_way [.int a, .int b, .int c]) {σ : Sg} {i : Int32} (hR : Rel σ) (hi : LwH σ i) (next : ∀ σ'', Sm σ σ'' → Rel σ'' → kY_law 13 ΦL 18 [.ref 95000, .ref 0, .ref 120, .int (i + 6)] [] σ'') : bY_law_312 true NOB (wp true 13) ΦL (kY_law 13 ΦL) [.ref 95000, .ref 0, .ref 120, .int i] [] σ := by
  rw [eY_law_312]
  refine ⟨hi 1 (by decide) (by decide), hi 2 (by decide) (by decide), hi 3 (by decide) (by decide), (p2 _ _ _) σ hR _ (fun v σ' hs hm => ?_)⟩
  show bY_law_331 true NOB (wp true 13) ΦL (kY_law 13 ΦL) [.ref 95000, .ref 0, .ref 120, .int i] [.int v] σ'
  rw [eY_law_331]
  refine ⟨by rw [hs.2]; exact hi 1 (by decide) (by decide), by rw [hs.2]; exact hi 2 (by decide) (by decide), by rw [hs.2]; exact hi 3 (by decide) (by decide), ?_⟩
  simp only [hs.1]
  refine hm _ (fun σ'' hs' hR' => ?_)
  show bY_law_350 true NOB (wp true 13) ΦL (kY_law 13 ΦL) [.ref 95000, .ref 0, .ref 120, .int i] [.int v, .int v] σ''
  rw [eY_law_350, if_pos (rfl), eY_law_1678]
  exact next σ'' (hs.tr hs') hR'

theorem case3 {Rel : Sg → Prop} (p3 : ∀ a b c d e : Int32, PairI Rel nX_feed nM_feed [.int a, .int b, .int c, .int d, .int e]) {σ : Sg} {i : Int32} (hR : Rel σ) (hi : LwH σ i) (next : ∀ σ'', Sm σ σ'' → Rel σ'' → kY_law 13 ΦL 18 [.ref 95000, .ref 0, .ref 120, .int (i + 6)] [] σ'') : bY_law_355 true NOB (wp true 13) ΦL (kY_law 13 ΦL) [.ref 95000, .ref 0, .ref 120, .int i] [] σ := by
  rw [eY_law_355]
  refine ⟨hi 1 (by decide) (by decide), hi 2 (by decide) (by decide), hi 3 (by decide) (by decide), hi 4 (by decide) (by decide), hi 5 (by decide) (by decide), (p3 _ _ _ _ _) σ hR _ (fun v σ' hs hm => ?_)⟩
  show bY_law_384 true NOB (wp true 13) ΦL (kY_law 13 ΦL) [.ref 95000, .ref 0, .ref 120, .int i] [.int v] σ'
  rw [eY_law_384]
  refine ⟨by rw [hs.2]; exact hi 1 (by decide) (by decide), by rw [hs.2]; exact hi 2 (by decide) (by decide), by rw [hs.2]; exact hi 3 (by decide) (by decide), by rw [hs.2]; exact hi 4 (by decide) (by decide), by rw [hs.2]; exact hi 5 (by decide) (by decide), ?_⟩
  simp only [hs.1]
  refine hm _ (fun σ'' hs' hR' => ?_)
  show bY_law_413 true NOB (wp true 13) ΦL (kY_law 13 ΦL) [.ref 95000, .ref 0, .ref 120, .int i] [.int v, .int v] σ''
  rw [eY_law_413, if_pos (rfl), eY_law_1678]
  exact next σ'' (hs.tr hs') hR'

theorem case4 {Rel : Sg → Prop} (p4 : ∀ a : Int32, PairI Rel nX_end nM_end [.int a]) {σ : Sg} {i : Int32} (hR : Rel σ) (hi : LwH σ i) (next : ∀ σ'', Sm σ σ'' → Rel σ'' → kY_law 13 ΦL 18 [.ref 95000, .ref 0, .ref 120, .int (i + 6)] [] σ'') : bY_law_418 true NOB (wp true 13) ΦL (kY_law 13 ΦL) [.ref 95000, .ref 0, .ref 120, .int i] [] σ := by
  rw [eY_law_418]
  refine ⟨hi 1 (by decide) (by decide), (p4 _) σ hR _ (fun v σ' hs hm => ?_)⟩
  show bY_law_427 true NOB (wp true 13) ΦL (kY_law 13 ΦL) [.ref 95000, .ref 0, .ref 120, .int i] [.int v] σ'
  rw [eY_law_427]
  refine ⟨by rw [hs.2]; exact hi 1 (by decide) (by decide), ?_⟩
  simp only [hs.1]
  refine hm _ (fun σ'' hs' hR' => ?_)
  show bY_law_436 true NOB (wp true 13) ΦL (kY_law 13 ΦL) [.ref 95000, .ref 0, .ref 120, .int i] [.int v, .int v] σ''
  rw [eY_law_436, if_pos (rfl), eY_law_1678]
  exact next σ'' (hs.tr hs') hR'

theorem case5 {Rel : Sg → Prop} (p5 : PairI Rel nX_text nM_text []) {σ : Sg} {i : Int32} (hR : Rel σ) (hi : LwH σ i) (next : ∀ σ'', Sm σ σ'' → Rel σ'' → kY_law 13 ΦL 18 [.ref 95000, .ref 0, .ref 120, .int (i + 6)] [] σ'') : bY_law_441 true NOB (wp true 13) ΦL (kY_law 13 ΦL) [.ref 95000, .ref 0, .ref 120, .int i] [] σ := by
  rw [eY_law_441]
  refine p5 σ hR _ (fun v σ' hs hm => ?_)
  show bY_law_445 true NOB (wp true 13) ΦL (kY_law 13 ΦL) [.ref 95000, .ref 0, .ref 120, .int i] [.int v] σ'
  rw [eY_law_445]
  skip
  refine hm _ (fun σ'' hs' hR' => ?_)
  show bY_law_449 true NOB (wp true 13) ΦL (kY_law 13 ΦL) [.ref 95000, .ref 0, .ref 120, .int i] [.int v, .int v] σ''
  rw [eY_law_449, if_pos (rfl), eY_law_1678]
  exact next σ'' (hs.tr hs') hR'

theorem case6 {Rel : Sg → Prop} (p6 : ∀ a : Int32, PairI Rel nX_fault nM_fault [.int a]) {σ : Sg} {i : Int32} (hR : Rel σ) (hi : LwH σ i) (next : ∀ σ'', Sm σ σ'' → Rel σ'' → kY_law 13 ΦL 18 [.ref 95000, .ref 0, .ref 120, .int (i + 6)] [] σ'') : bY_law_454 true NOB (wp true 13) ΦL (kY_law 13 ΦL) [.ref 95000, .ref 0, .ref 120, .int i] [] σ := by
  rw [eY_law_454]
  refine ⟨hi 1 (by decide) (by decide), (p6 _) σ hR _ (fun v σ' hs hm => ?_)⟩
  show bY_law_463 true NOB (wp true 13) ΦL (kY_law 13 ΦL) [.ref 95000, .ref 0, .ref 120, .int i] [.int v] σ'
  rw [eY_law_463]
  refine ⟨by rw [hs.2]; exact hi 1 (by decide) (by decide), ?_⟩
  simp only [hs.1]
  refine hm _ (fun σ'' hs' hR' => ?_)
  show bY_law_472 true NOB (wp true 13) ΦL (kY_law 13 ΦL) [.ref 95000, .ref 0, .ref 120, .int i] [.int v, .int v] σ''
  rw [eY_law_472, if_pos (rfl), eY_law_1678]
  exact next σ'' (hs.tr hs') hR'

theorem case7 {Rel : Sg → Prop} (p7 : ∀ a : Int32, PairI Rel nX_by nM_by [.int a]) {σ : Sg} {i : Int32} (hR : Rel σ) (hi : LwH σ i) (next : ∀ σ'', Sm σ σ'' → Rel σ'' → kY_law 13 ΦL 18 [.ref 95000, .ref 0, .ref 120, .int (i + 6)] [] σ'') : bY_law_477 true NOB (wp true 13) ΦL (kY_law 13 ΦL) [.ref 95000, .ref 0, .ref 120, .int i] [] σ := by
  rw [eY_law_477]
  refine ⟨hi 1 (by decide) (by decide), (p7 _) σ hR _ (fun v σ' hs hm => ?_)⟩
  show bY_law_486 true NOB (wp true 13) ΦL (kY_law 13 ΦL) [.ref 95000, .ref 0, .ref 120, .int i] [.int v] σ'
  rw [eY_law_486]
  refine ⟨by rw [hs.2]; exact hi 1 (by decide) (by decide), ?_⟩
  simp only [hs.1]
  refine hm _ (fun σ'' hs' hR' => ?_)
  show bY_law_495 true NOB (wp true 13) ΦL (kY_law 13 ΦL) [.ref 95000, .ref 0, .ref 120, .int i] [.int v, .int v] σ''
  rw [eY_law_495, if_pos (rfl), eY_law_1678]
  exact next σ'' (hs.tr hs') hR'

theorem case8 {Rel : Sg → Prop} (p8 : ∀ a b c : Int32, PairI Rel nX_pay nM_pay [.int a, .int b, .int c]) {σ : Sg} {i : Int32} (hR : Rel σ) (hi : LwH σ i) (next : ∀ σ'', Sm σ σ'' → Rel σ'' → kY_law 13 ΦL 18 [.ref 95000, .ref 0, .ref 120, .int (i + 6)] [] σ'') : bY_law_500 true NOB (wp true 13) ΦL (kY_law 13 ΦL) [.ref 95000, .ref 0, .ref 120, .int i] [] σ := by
  rw [eY_law_500]
  refine ⟨hi 1 (by decide) (by decide), hi 2 (by decide) (by decide), hi 3 (by decide) (by decide), (p8 _ _ _) σ hR _ (fun v σ' hs hm => ?_)⟩
  show bY_law_519 true NOB (wp true 13) ΦL (kY_law 13 ΦL) [.ref 95000, .ref 0, .ref 120, .int i] [.int v] σ'
  rw [eY_law_519]
  refine ⟨by rw [hs.2]; exact hi 1 (by decide) (by decide), by rw [hs.2]; exact hi 2 (by decide) (by decide), by rw [hs.2]; exact hi 3 (by decide) (by decide), ?_⟩
  simp only [hs.1]
  refine hm _ (fun σ'' hs' hR' => ?_)
  show bY_law_538 true NOB (wp true 13) ΦL (kY_law 13 ΦL) [.ref 95000, .ref 0, .ref 120, .int i] [.int v, .int v] σ''
  rw [eY_law_538, if_pos (rfl), eY_law_1678]
  exact next σ'' (hs.tr hs') hR'

theorem case9 {Rel : Sg → Prop} (p9 : ∀ a b : Int32, PairI Rel nX_merge nM_merge [.int a, .int b]) {σ : Sg} {i : Int32} (hR : Rel σ) (hi : LwH σ i) (next : ∀ σ'', Sm σ σ'' → Rel σ'' → kY_law 13 ΦL 18 [.ref 95000, .ref 0, .ref 120, .int (i + 6)] [] σ'') : bY_law_543 true NOB (wp true 13) ΦL (kY_law 13 ΦL) [.ref 95000, .ref 0, .ref 120, .int i] [] σ := by
  rw [eY_law_543]
  refine ⟨hi 1 (by decide) (by decide), hi 2 (by decide) (by decide), (p9 _ _) σ hR _ (fun v σ' hs hm => ?_)⟩
  show bY_law_557 true NOB (wp true 13) ΦL (kY_law 13 ΦL) [.ref 95000, .ref 0, .ref 120, .int i] [.int v] σ'
  rw [eY_law_557]
  refine ⟨by rw [hs.2]; exact hi 1 (by decide) (by decide), by rw [hs.2]; exact hi 2 (by decide) (by decide), ?_⟩
  simp only [hs.1]
  refine hm _ (fun σ'' hs' hR' => ?_)
  show bY_law_571 true NOB (wp true 13) ΦL (kY_law 13 ΦL) [.ref 95000, .ref 0, .ref 120, .int i] [.int v, .int v] σ''
  rw [eY_law_571, if_pos (rfl), eY_law_1678]
  exact next σ'' (hs.tr hs') hR'

theorem case10 {Rel : Sg → Prop} (p10 : ∀ a : Int32, PairI Rel nX_day nM_day [.int a]) {σ : Sg} {i : Int32} (hR : Rel σ) (hi : LwH σ i) (next : ∀ σ'', Sm σ σ'' → Rel σ'' → kY_law 13 ΦL 18 [.ref 95000, .ref 0, .ref 120, .int (i + 6)] [] σ'') : bY_law_576 true NOB (wp true 13) ΦL (kY_law 13 ΦL) [.ref 95000, .ref 0, .ref 120, .int i] [] σ := by
  rw [eY_law_576]
  refine ⟨hi 1 (by decide) (by decide), (p10 _) σ hR _ (fun v σ' hs hm => ?_)⟩
  show bY_law_585 true NOB (wp true 13) ΦL (kY_law 13 ΦL) [.ref 95000, .ref 0, .ref 120, .int i] [.int v] σ'
  rw [eY_law_585]
  refine ⟨by rw [hs.2]; exact hi 1 (by decide) (by decide), ?_⟩
  simp only [hs.1]
  refine hm _ (fun σ'' hs' hR' => ?_)
  show bY_law_594 true NOB (wp true 13) ΦL (kY_law 13 ΦL) [.ref 95000, .ref 0, .ref 120, .int i] [.int v, .int v] σ''
  rw [eY_law_594, if_pos (rfl), eY_law_1678]
  exact next σ'' (hs.tr hs') hR'

theorem case11 {Rel : Sg → Prop} (p11 : ∀ a : Int32, PairI Rel nX_played nM_played [.int a]) {σ : Sg} {i : Int32} (hR : Rel σ) (hi : LwH σ i) (next : ∀ σ'', Sm σ σ'' → Rel σ'' → kY_law 13 ΦL 18 [.ref 95000, .ref 0, .ref 120, .int (i + 6)] [] σ'') : bY_law_599 true NOB (wp true 13) ΦL (kY_law 13 ΦL) [.ref 95000, .ref 0, .ref 120, .int i] [] σ := by
  rw [eY_law_599]
  refine ⟨hi 1 (by decide) (by decide), (p11 _) σ hR _ (fun v σ' hs hm => ?_)⟩
  show bY_law_608 true NOB (wp true 13) ΦL (kY_law 13 ΦL) [.ref 95000, .ref 0, .ref 120, .int i] [.int v] σ'
  rw [eY_law_608]
  refine ⟨by rw [hs.2]; exact hi 1 (by decide) (by decide), ?_⟩
  simp only [hs.1]
  refine hm _ (fun σ'' hs' hR' => ?_)
  show bY_law_617 true NOB (wp true 13) ΦL (kY_law 13 ΦL) [.ref 95000, .ref 0, .ref 120, .int i] [.int v, .int v] σ''
  rw [eY_law_617, if_pos (rfl), eY_law_1678]
  exact next σ'' (hs.tr hs') hR'

theorem case12 {Rel : Sg → Prop} (p12 : ∀ a b : Int32, PairI Rel nX_years nM_years [.int a, .int b]) {σ : Sg} {i : Int32} (hR : Rel σ) (hi : LwH σ i) (next : ∀ σ'', Sm σ σ'' → Rel σ'' → kY_law 13 ΦL 18 [.ref 95000, .ref 0, .ref 120, .int (i + 6)] [] σ'') : bY_law_622 true NOB (wp true 13) ΦL (kY_law 13 ΦL) [.ref 95000, .ref 0, .ref 120, .int i] [] σ := by
  rw [eY_law_622]
  refine ⟨hi 1 (by decide) (by decide), hi 2 (by decide) (by decide), (p12 _ _) σ hR _ (fun v σ' hs hm => ?_)⟩
  show bY_law_636 true NOB (wp true 13) ΦL (kY_law 13 ΦL) [.ref 95000, .ref 0, .ref 120, .int i] [.int v] σ'
  rw [eY_law_636]
  refine ⟨by rw [hs.2]; exact hi 1 (by decide) (by decide), by rw [hs.2]; exact hi 2 (by decide) (by decide), ?_⟩
  simp only [hs.1]
  refine hm _ (fun σ'' hs' hR' => ?_)
  show bY_law_650 true NOB (wp true 13) ΦL (kY_law 13 ΦL) [.ref 95000, .ref 0, .ref 120, .int i] [.int v, .int v] σ''
  rw [eY_law_650, if_pos (rfl), eY_law_1678]
  exact next σ'' (hs.tr hs') hR'

theorem case13 {Rel : Sg → Prop} (p13 : PairI Rel nX_undo nM_undo []) {σ : Sg} {i : Int32} (hR : Rel σ) (hi : LwH σ i) (next : ∀ σ'', Sm σ σ'' → Rel σ'' → kY_law 13 ΦL 18 [.ref 95000, .ref 0, .ref 120, .int (i + 6)] [] σ'') : bY_law_655 true NOB (wp true 13) ΦL (kY_law 13 ΦL) [.ref 95000, .ref 0, .ref 120, .int i] [] σ := by
  rw [eY_law_655]
  refine p13 σ hR _ (fun v σ' hs hm => ?_)
  show bY_law_659 true NOB (wp true 13) ΦL (kY_law 13 ΦL) [.ref 95000, .ref 0, .ref 120, .int i] [.int v] σ'
  rw [eY_law_659]
  skip
  refine hm _ (fun σ'' hs' hR' => ?_)
  show bY_law_663 true NOB (wp true 13) ΦL (kY_law 13 ΦL) [.ref 95000, .ref 0, .ref 120, .int i] [.int v, .int v] σ''
  rw [eY_law_663, if_pos (rfl), eY_law_1678]
  exact next σ'' (hs.tr hs') hR'

theorem case14 {Rel : Sg → Prop} (p14 : ∀ a b : Int32, PairI Rel nX_ofWind nM_ofWind [.int a, .int b]) {σ : Sg} {i : Int32} (hR : Rel σ) (hi : LwH σ i) (next : ∀ σ'', Sm σ σ'' → Rel σ'' → kY_law 13 ΦL 18 [.ref 95000, .ref 0, .ref 120, .int (i + 6)] [] σ'') : bY_law_668 true NOB (wp true 13) ΦL (kY_law 13 ΦL) [.ref 95000, .ref 0, .ref 120, .int i] [] σ := by
  rw [eY_law_668]
  refine ⟨hi 1 (by decide) (by decide), hi 2 (by decide) (by decide), (p14 _ _) σ hR _ (fun v σ' hs hm => ?_)⟩
  show bY_law_682 true NOB (wp true 13) ΦL (kY_law 13 ΦL) [.ref 95000, .ref 0, .ref 120, .int i] [.int v] σ'
  rw [eY_law_682]
  refine ⟨by rw [hs.2]; exact hi 1 (by decide) (by decide), by rw [hs.2]; exact hi 2 (by decide) (by decide), ?_⟩
  simp only [hs.1]
  refine hm _ (fun σ'' hs' hR' => ?_)
  show bY_law_696 true NOB (wp true 13) ΦL (kY_law 13 ΦL) [.ref 95000, .ref 0, .ref 120, .int i] [.int v, .int v] σ''
  rw [eY_law_696, if_pos (rfl), eY_law_1678]
  exact next σ'' (hs.tr hs') hR'

theorem case15 {Rel : Sg → Prop} (p15 : ∀ a b : Int32, PairI Rel nX_ofVillage nM_ofVillage [.int a, .int b]) {σ : Sg} {i : Int32} (hR : Rel σ) (hi : LwH σ i) (next : ∀ σ'', Sm σ σ'' → Rel σ'' → kY_law 13 ΦL 18 [.ref 95000, .ref 0, .ref 120, .int (i + 6)] [] σ'') : bY_law_701 true NOB (wp true 13) ΦL (kY_law 13 ΦL) [.ref 95000, .ref 0, .ref 120, .int i] [] σ := by
  rw [eY_law_701]
  refine ⟨hi 1 (by decide) (by decide), hi 2 (by decide) (by decide), (p15 _ _) σ hR _ (fun v σ' hs hm => ?_)⟩
  show bY_law_715 true NOB (wp true 13) ΦL (kY_law 13 ΦL) [.ref 95000, .ref 0, .ref 120, .int i] [.int v] σ'
  rw [eY_law_715]
  refine ⟨by rw [hs.2]; exact hi 1 (by decide) (by decide), by rw [hs.2]; exact hi 2 (by decide) (by decide), ?_⟩
  simp only [hs.1]
  refine hm _ (fun σ'' hs' hR' => ?_)
  show bY_law_729 true NOB (wp true 13) ΦL (kY_law 13 ΦL) [.ref 95000, .ref 0, .ref 120, .int i] [.int v, .int v] σ''
  rw [eY_law_729, if_pos (rfl), eY_law_1678]
  exact next σ'' (hs.tr hs') hR'

theorem case16 {Rel : Sg → Prop} (p16 : ∀ a b c : Int32, PairI Rel nX_takes nM_takes [.int a, .int b, .int c]) {σ : Sg} {i : Int32} (hR : Rel σ) (hi : LwH σ i) (next : ∀ σ'', Sm σ σ'' → Rel σ'' → kY_law 13 ΦL 18 [.ref 95000, .ref 0, .ref 120, .int (i + 6)] [] σ'') : bY_law_734 true NOB (wp true 13) ΦL (kY_law 13 ΦL) [.ref 95000, .ref 0, .ref 120, .int i] [] σ := by
  rw [eY_law_734]
  refine ⟨hi 1 (by decide) (by decide), hi 2 (by decide) (by decide), hi 3 (by decide) (by decide), (p16 _ _ _) σ hR _ (fun v σ' hs hm => ?_)⟩
  show bY_law_753 true NOB (wp true 13) ΦL (kY_law 13 ΦL) [.ref 95000, .ref 0, .ref 120, .int i] [.int v] σ'
  rw [eY_law_753]
  refine ⟨by rw [hs.2]; exact hi 1 (by decide) (by decide), by rw [hs.2]; exact hi 2 (by decide) (by decide), by rw [hs.2]; exact hi 3 (by decide) (by decide), ?_⟩
  simp only [hs.1]
  refine hm _ (fun σ'' hs' hR' => ?_)
  show bY_law_772 true NOB (wp true 13) ΦL (kY_law 13 ΦL) [.ref 95000, .ref 0, .ref 120, .int i] [.int v, .int v] σ''
  rw [eY_law_772, if_pos (rfl), eY_law_1678]
  exact next σ'' (hs.tr hs') hR'

theorem case17 {Rel : Sg → Prop} (p17 : ∀ a b c : Int32, PairI Rel nX_catches nM_catches [.int a, .int b, .int c]) {σ : Sg} {i : Int32} (hR : Rel σ) (hi : LwH σ i) (next : ∀ σ'', Sm σ σ'' → Rel σ'' → kY_law 13 ΦL 18 [.ref 95000, .ref 0, .ref 120, .int (i + 6)] [] σ'') : bY_law_777 true NOB (wp true 13) ΦL (kY_law 13 ΦL) [.ref 95000, .ref 0, .ref 120, .int i] [] σ := by
  rw [eY_law_777]
  refine ⟨hi 1 (by decide) (by decide), hi 2 (by decide) (by decide), hi 3 (by decide) (by decide), (p17 _ _ _) σ hR _ (fun v σ' hs hm => ?_)⟩
  show bY_law_796 true NOB (wp true 13) ΦL (kY_law 13 ΦL) [.ref 95000, .ref 0, .ref 120, .int i] [.int v] σ'
  rw [eY_law_796]
  refine ⟨by rw [hs.2]; exact hi 1 (by decide) (by decide), by rw [hs.2]; exact hi 2 (by decide) (by decide), by rw [hs.2]; exact hi 3 (by decide) (by decide), ?_⟩
  simp only [hs.1]
  refine hm _ (fun σ'' hs' hR' => ?_)
  show bY_law_815 true NOB (wp true 13) ΦL (kY_law 13 ΦL) [.ref 95000, .ref 0, .ref 120, .int i] [.int v, .int v] σ''
  rw [eY_law_815, if_pos (rfl), eY_law_1678]
  exact next σ'' (hs.tr hs') hR'

theorem case18 {Rel : Sg → Prop} (p18 : ∀ a : Int32, PairI Rel nX_is nM_is [.int a]) {σ : Sg} {i : Int32} (hR : Rel σ) (hi : LwH σ i) (next : ∀ σ'', Sm σ σ'' → Rel σ'' → kY_law 13 ΦL 18 [.ref 95000, .ref 0, .ref 120, .int (i + 6)] [] σ'') : bY_law_820 true NOB (wp true 13) ΦL (kY_law 13 ΦL) [.ref 95000, .ref 0, .ref 120, .int i] [] σ := by
  rw [eY_law_820]
  refine ⟨hi 1 (by decide) (by decide), (p18 _) σ hR _ (fun v σ' hs hm => ?_)⟩
  show bY_law_829 true NOB (wp true 13) ΦL (kY_law 13 ΦL) [.ref 95000, .ref 0, .ref 120, .int i] [.int v] σ'
  rw [eY_law_829]
  refine ⟨by rw [hs.2]; exact hi 1 (by decide) (by decide), ?_⟩
  simp only [hs.1]
  refine hm _ (fun σ'' hs' hR' => ?_)
  show bY_law_838 true NOB (wp true 13) ΦL (kY_law 13 ΦL) [.ref 95000, .ref 0, .ref 120, .int i] [.int v, .int v] σ''
  rw [eY_law_838, if_pos (rfl), eY_law_1678]
  exact next σ'' (hs.tr hs') hR'

theorem case19 {Rel : Sg → Prop} (p19 : ∀ a b : Int32, PairI Rel nX_book nM_book [.int a, .int b]) {σ : Sg} {i : Int32} (hR : Rel σ) (hi : LwH σ i) (next : ∀ σ'', Sm σ σ'' → Rel σ'' → kY_law 13 ΦL 18 [.ref 95000, .ref 0, .ref 120, .int (i + 6)] [] σ'') : bY_law_843 true NOB (wp true 13) ΦL (kY_law 13 ΦL) [.ref 95000, .ref 0, .ref 120, .int i] [] σ := by
  rw [eY_law_843]
  refine ⟨hi 1 (by decide) (by decide), hi 2 (by decide) (by decide), (p19 _ _) σ hR _ (fun v σ' hs hm => ?_)⟩
  show bY_law_857 true NOB (wp true 13) ΦL (kY_law 13 ΦL) [.ref 95000, .ref 0, .ref 120, .int i] [.int v] σ'
  rw [eY_law_857]
  refine ⟨by rw [hs.2]; exact hi 1 (by decide) (by decide), by rw [hs.2]; exact hi 2 (by decide) (by decide), ?_⟩
  simp only [hs.1]
  refine hm _ (fun σ'' hs' hR' => ?_)
  show bY_law_871 true NOB (wp true 13) ΦL (kY_law 13 ΦL) [.ref 95000, .ref 0, .ref 120, .int i] [.int v, .int v] σ''
  rw [eY_law_871, if_pos (rfl), eY_law_1678]
  exact next σ'' (hs.tr hs') hR'

theorem case20 {Rel : Sg → Prop} (p20 : ∀ a : Int32, PairI Rel nX_foretold nM_foretold [.int a]) {σ : Sg} {i : Int32} (hR : Rel σ) (hi : LwH σ i) (next : ∀ σ'', Sm σ σ'' → Rel σ'' → kY_law 13 ΦL 18 [.ref 95000, .ref 0, .ref 120, .int (i + 6)] [] σ'') : bY_law_876 true NOB (wp true 13) ΦL (kY_law 13 ΦL) [.ref 95000, .ref 0, .ref 120, .int i] [] σ := by
  rw [eY_law_876]
  refine ⟨hi 1 (by decide) (by decide), (p20 _) σ hR _ (fun v σ' hs hm => ?_)⟩
  show bY_law_885 true NOB (wp true 13) ΦL (kY_law 13 ΦL) [.ref 95000, .ref 0, .ref 120, .int i] [.int v] σ'
  rw [eY_law_885]
  refine ⟨by rw [hs.2]; exact hi 1 (by decide) (by decide), ?_⟩
  simp only [hs.1]
  refine hm _ (fun σ'' hs' hR' => ?_)
  show bY_law_894 true NOB (wp true 13) ΦL (kY_law 13 ΦL) [.ref 95000, .ref 0, .ref 120, .int i] [.int v, .int v] σ''
  rw [eY_law_894, if_pos (rfl), eY_law_1678]
  exact next σ'' (hs.tr hs') hR'

theorem case21 {Rel : Sg → Prop} (p21 : ∀ a b : Int32, PairI Rel nX_purse nM_purse [.int a, .int b]) {σ : Sg} {i : Int32} (hR : Rel σ) (hi : LwH σ i) (next : ∀ σ'', Sm σ σ'' → Rel σ'' → kY_law 13 ΦL 18 [.ref 95000, .ref 0, .ref 120, .int (i + 6)] [] σ'') : bY_law_899 true NOB (wp true 13) ΦL (kY_law 13 ΦL) [.ref 95000, .ref 0, .ref 120, .int i] [] σ := by
  rw [eY_law_899]
  refine ⟨hi 1 (by decide) (by decide), hi 2 (by decide) (by decide), (p21 _ _) σ hR _ (fun v σ' hs hm => ?_)⟩
  show bY_law_913 true NOB (wp true 13) ΦL (kY_law 13 ΦL) [.ref 95000, .ref 0, .ref 120, .int i] [.int v] σ'
  rw [eY_law_913]
  refine ⟨by rw [hs.2]; exact hi 1 (by decide) (by decide), by rw [hs.2]; exact hi 2 (by decide) (by decide), ?_⟩
  simp only [hs.1]
  refine hm _ (fun σ'' hs' hR' => ?_)
  show bY_law_927 true NOB (wp true 13) ΦL (kY_law 13 ΦL) [.ref 95000, .ref 0, .ref 120, .int i] [.int v, .int v] σ''
  rw [eY_law_927, if_pos (rfl), eY_law_1678]
  exact next σ'' (hs.tr hs') hR'

theorem case22 {Rel : Sg → Prop} (p22 : ∀ a b : Int32, PairI Rel nX_owed nM_owed [.int a, .int b]) {σ : Sg} {i : Int32} (hR : Rel σ) (hi : LwH σ i) (next : ∀ σ'', Sm σ σ'' → Rel σ'' → kY_law 13 ΦL 18 [.ref 95000, .ref 0, .ref 120, .int (i + 6)] [] σ'') : bY_law_932 true NOB (wp true 13) ΦL (kY_law 13 ΦL) [.ref 95000, .ref 0, .ref 120, .int i] [] σ := by
  rw [eY_law_932]
  refine ⟨hi 1 (by decide) (by decide), hi 2 (by decide) (by decide), (p22 _ _) σ hR _ (fun v σ' hs hm => ?_)⟩
  show bY_law_946 true NOB (wp true 13) ΦL (kY_law 13 ΦL) [.ref 95000, .ref 0, .ref 120, .int i] [.int v] σ'
  rw [eY_law_946]
  refine ⟨by rw [hs.2]; exact hi 1 (by decide) (by decide), by rw [hs.2]; exact hi 2 (by decide) (by decide), ?_⟩
  simp only [hs.1]
  refine hm _ (fun σ'' hs' hR' => ?_)
  show bY_law_960 true NOB (wp true 13) ΦL (kY_law 13 ΦL) [.ref 95000, .ref 0, .ref 120, .int i] [.int v, .int v] σ''
  rw [eY_law_960, if_pos (rfl), eY_law_1678]
  exact next σ'' (hs.tr hs') hR'

theorem case23 {Rel : Sg → Prop} (p23 : PairI Rel nX_arrears nM_arrears []) {σ : Sg} {i : Int32} (hR : Rel σ) (hi : LwH σ i) (next : ∀ σ'', Sm σ σ'' → Rel σ'' → kY_law 13 ΦL 18 [.ref 95000, .ref 0, .ref 120, .int (i + 6)] [] σ'') : bY_law_965 true NOB (wp true 13) ΦL (kY_law 13 ΦL) [.ref 95000, .ref 0, .ref 120, .int i] [] σ := by
  rw [eY_law_965]
  refine p23 σ hR _ (fun v σ' hs hm => ?_)
  show bY_law_969 true NOB (wp true 13) ΦL (kY_law 13 ΦL) [.ref 95000, .ref 0, .ref 120, .int i] [.int v] σ'
  rw [eY_law_969]
  skip
  refine hm _ (fun σ'' hs' hR' => ?_)
  show bY_law_973 true NOB (wp true 13) ΦL (kY_law 13 ΦL) [.ref 95000, .ref 0, .ref 120, .int i] [.int v, .int v] σ''
  rw [eY_law_973, if_pos (rfl), eY_law_1678]
  exact next σ'' (hs.tr hs') hR'

theorem case24 {Rel : Sg → Prop} (p24 : ∀ a : Int32, PairI Rel nX_broke nM_broke [.int a]) {σ : Sg} {i : Int32} (hR : Rel σ) (hi : LwH σ i) (next : ∀ σ'', Sm σ σ'' → Rel σ'' → kY_law 13 ΦL 18 [.ref 95000, .ref 0, .ref 120, .int (i + 6)] [] σ'') : bY_law_978 true NOB (wp true 13) ΦL (kY_law 13 ΦL) [.ref 95000, .ref 0, .ref 120, .int i] [] σ := by
  rw [eY_law_978]
  refine ⟨hi 1 (by decide) (by decide), (p24 _) σ hR _ (fun v σ' hs hm => ?_)⟩
  show bY_law_987 true NOB (wp true 13) ΦL (kY_law 13 ΦL) [.ref 95000, .ref 0, .ref 120, .int i] [.int v] σ'
  rw [eY_law_987]
  refine ⟨by rw [hs.2]; exact hi 1 (by decide) (by decide), ?_⟩
  simp only [hs.1]
  refine hm _ (fun σ'' hs' hR' => ?_)
  show bY_law_996 true NOB (wp true 13) ΦL (kY_law 13 ΦL) [.ref 95000, .ref 0, .ref 120, .int i] [.int v, .int v] σ''
  rw [eY_law_996, if_pos (rfl), eY_law_1678]
  exact next σ'' (hs.tr hs') hR'

theorem case25 {Rel : Sg → Prop} (p25 : ∀ a : Int32, PairI Rel nX_whose nM_whose [.int a]) {σ : Sg} {i : Int32} (hR : Rel σ) (hi : LwH σ i) (next : ∀ σ'', Sm σ σ'' → Rel σ'' → kY_law 13 ΦL 18 [.ref 95000, .ref 0, .ref 120, .int (i + 6)] [] σ'') : bY_law_1001 true NOB (wp true 13) ΦL (kY_law 13 ΦL) [.ref 95000, .ref 0, .ref 120, .int i] [] σ := by
  rw [eY_law_1001]
  refine ⟨hi 1 (by decide) (by decide), (p25 _) σ hR _ (fun v σ' hs hm => ?_)⟩
  show bY_law_1010 true NOB (wp true 13) ΦL (kY_law 13 ΦL) [.ref 95000, .ref 0, .ref 120, .int i] [.int v] σ'
  rw [eY_law_1010]
  refine ⟨by rw [hs.2]; exact hi 1 (by decide) (by decide), ?_⟩
  simp only [hs.1]
  refine hm _ (fun σ'' hs' hR' => ?_)
  show bY_law_1019 true NOB (wp true 13) ΦL (kY_law 13 ΦL) [.ref 95000, .ref 0, .ref 120, .int i] [.int v, .int v] σ''
  rw [eY_law_1019, if_pos (rfl), eY_law_1678]
  exact next σ'' (hs.tr hs') hR'

theorem case26 {Rel : Sg → Prop} (p26 : ∀ a b c : Int32, (c = 0 ∨ c = 1) → PairL Rel nX_odds nM_odds [.int a, .int b, .int c]) {σ : Sg} {i : Int32} (hR : Rel σ) (hi : LwH σ i) (next : ∀ σ'', Sm σ σ'' → Rel σ'' → kY_law 13 ΦL 18 [.ref 95000, .ref 0, .ref 120, .int (i + 6)] [] σ'') : bY_law_1024 true NOB (wp true 13) ΦL (kY_law 13 ΦL) [.ref 95000, .ref 0, .ref 120, .int i] [] σ := by
  rw [eY_law_1024]
  refine ⟨hi 1 (by decide) (by decide), hi 2 (by decide) (by decide), hi 3 (by decide) (by decide), ?_⟩
  by_cases hz : gI σ 95000 (ix (i + 3)) = 0
  · rw [if_pos hz, eY_law_1047, eY_law_1048]
    refine (p26 _ _ 0 (Or.inl rfl)) σ hR _ (fun v σ' hs hm => ?_)
    show bY_law_1051 true NOB (wp true 13) ΦL (kY_law 13 ΦL) [.ref 95000, .ref 0, .ref 120, .int i] [.long v] σ'
    rw [eY_law_1051]
    refine ⟨by rw [hs.2]; exact hi 1 (by decide) (by decide), by rw [hs.2]; exact hi 2 (by decide) (by decide), by rw [hs.2]; exact hi 3 (by decide) (by decide), ?_⟩
    simp only [hs.1]
    rw [if_pos hz, eY_law_1074, eY_law_1075]
    refine hm _ (fun σ'' hs' hR' => ?_)
    show bY_law_1078 true NOB (wp true 13) ΦL (kY_law 13 ΦL) [.ref 95000, .ref 0, .ref 120, .int i] [.long v, .long v] σ''
    rw [eY_law_1078, if_pos (cmp_self _), eY_law_1678]
    exact next σ'' (hs.tr hs') hR'

  · rw [if_neg hz, eY_law_1048]
    refine (p26 _ _ 1 (Or.inr rfl)) σ hR _ (fun v σ' hs hm => ?_)
    show bY_law_1051 true NOB (wp true 13) ΦL (kY_law 13 ΦL) [.ref 95000, .ref 0, .ref 120, .int i] [.long v] σ'
    rw [eY_law_1051]
    refine ⟨by rw [hs.2]; exact hi 1 (by decide) (by decide), by rw [hs.2]; exact hi 2 (by decide) (by decide), by rw [hs.2]; exact hi 3 (by decide) (by decide), ?_⟩
    simp only [hs.1]
    rw [if_neg hz, eY_law_1075]
    refine hm _ (fun σ'' hs' hR' => ?_)
    show bY_law_1078 true NOB (wp true 13) ΦL (kY_law 13 ΦL) [.ref 95000, .ref 0, .ref 120, .int i] [.long v, .long v] σ''
    rw [eY_law_1078, if_pos (cmp_self _), eY_law_1678]
    exact next σ'' (hs.tr hs') hR'

theorem case27 {Rel : Sg → Prop} (p27 : ∀ a b c : Int32, (c = 0 ∨ c = 1) → PairI Rel nX_least nM_least [.int a, .int b, .int c]) {σ : Sg} {i : Int32} (hR : Rel σ) (hi : LwH σ i) (next : ∀ σ'', Sm σ σ'' → Rel σ'' → kY_law 13 ΦL 18 [.ref 95000, .ref 0, .ref 120, .int (i + 6)] [] σ'') : bY_law_1084 true NOB (wp true 13) ΦL (kY_law 13 ΦL) [.ref 95000, .ref 0, .ref 120, .int i] [] σ := by
  rw [eY_law_1084]
  refine ⟨hi 1 (by decide) (by decide), hi 2 (by decide) (by decide), hi 3 (by decide) (by decide), ?_⟩
  by_cases hz : gI σ 95000 (ix (i + 3)) = 0
  · rw [if_pos hz, eY_law_1107, eY_law_1108]
    refine (p27 _ _ 0 (Or.inl rfl)) σ hR _ (fun v σ' hs hm => ?_)
    show bY_law_1111 true NOB (wp true 13) ΦL (kY_law 13 ΦL) [.ref 95000, .ref 0, .ref 120, .int i] [.int v] σ'
    rw [eY_law_1111]
    refine ⟨by rw [hs.2]; exact hi 1 (by decide) (by decide), by rw [hs.2]; exact hi 2 (by decide) (by decide), by rw [hs.2]; exact hi 3 (by decide) (by decide), ?_⟩
    simp only [hs.1]
    rw [if_pos hz, eY_law_1134, eY_law_1135]
    refine hm _ (fun σ'' hs' hR' => ?_)
    show bY_law_1138 true NOB (wp true 13) ΦL (kY_law 13 ΦL) [.ref 95000, .ref 0, .ref 120, .int i] [.int v, .int v] σ''
    rw [eY_law_1138, if_pos (rfl), eY_law_1678]
    exact next σ'' (hs.tr hs') hR'

  · rw [if_neg hz, eY_law_1108]
    refine (p27 _ _ 1 (Or.inr rfl)) σ hR _ (fun v σ' hs hm => ?_)
    show bY_law_1111 true NOB (wp true 13) ΦL (kY_law 13 ΦL) [.ref 95000, .ref 0, .ref 120, .int i] [.int v] σ'
    rw [eY_law_1111]
    refine ⟨by rw [hs.2]; exact hi 1 (by decide) (by decide), by rw [hs.2]; exact hi 2 (by decide) (by decide), by rw [hs.2]; exact hi 3 (by decide) (by decide), ?_⟩
    simp only [hs.1]
    rw [if_neg hz, eY_law_1135]
    refine hm _ (fun σ'' hs' hR' => ?_)
    show bY_law_1138 true NOB (wp true 13) ΦL (kY_law 13 ΦL) [.ref 95000, .ref 0, .ref 120, .int i] [.int v, .int v] σ''
    rw [eY_law_1138, if_pos (rfl), eY_law_1678]
    exact next σ'' (hs.tr hs') hR'

theorem case28 {Rel : Sg → Prop} (p28 : ∀ a b c d e : Int32, (e = 0 ∨ e = 1) → PairI Rel nX_share nM_share [.int a, .int b, .int c, .int d, .int e]) {σ : Sg} {i : Int32} (hR : Rel σ) (hi : LwH σ i) (next : ∀ σ'', Sm σ σ'' → Rel σ'' → kY_law 13 ΦL 18 [.ref 95000, .ref 0, .ref 120, .int (i + 6)] [] σ'') : bY_law_1143 true NOB (wp true 13) ΦL (kY_law 13 ΦL) [.ref 95000, .ref 0, .ref 120, .int i] [] σ := by
  rw [eY_law_1143]
  refine ⟨hi 1 (by decide) (by decide), hi 2 (by decide) (by decide), hi 3 (by decide) (by decide), hi 4 (by decide) (by decide), hi 5 (by decide) (by decide), ?_⟩
  by_cases hz : gI σ 95000 (ix (i + 5)) = 0
  · rw [if_pos hz, eY_law_1176, eY_law_1177]
    refine (p28 _ _ _ _ 0 (Or.inl rfl)) σ hR _ (fun v σ' hs hm => ?_)
    show bY_law_1180 true NOB (wp true 13) ΦL (kY_law 13 ΦL) [.ref 95000, .ref 0, .ref 120, .int i] [.int v] σ'
    rw [eY_law_1180]
    refine ⟨by rw [hs.2]; exact hi 1 (by decide) (by decide), by rw [hs.2]; exact hi 2 (by decide) (by decide), by rw [hs.2]; exact hi 3 (by decide) (by decide), by rw [hs.2]; exact hi 4 (by decide) (by decide), by rw [hs.2]; exact hi 5 (by decide) (by decide), ?_⟩
    simp only [hs.1]
    rw [if_pos hz, eY_law_1213, eY_law_1214]
    refine hm _ (fun σ'' hs' hR' => ?_)
    show bY_law_1217 true NOB (wp true 13) ΦL (kY_law 13 ΦL) [.ref 95000, .ref 0, .ref 120, .int i] [.int v, .int v] σ''
    rw [eY_law_1217, if_pos (rfl), eY_law_1678]
    exact next σ'' (hs.tr hs') hR'

  · rw [if_neg hz, eY_law_1177]
    refine (p28 _ _ _ _ 1 (Or.inr rfl)) σ hR _ (fun v σ' hs hm => ?_)
    show bY_law_1180 true NOB (wp true 13) ΦL (kY_law 13 ΦL) [.ref 95000, .ref 0, .ref 120, .int i] [.int v] σ'
    rw [eY_law_1180]
    refine ⟨by rw [hs.2]; exact hi 1 (by decide) (by decide), by rw [hs.2]; exact hi 2 (by decide) (by decide), by rw [hs.2]; exact hi 3 (by decide) (by decide), by rw [hs.2]; exact hi 4 (by decide) (by decide), by rw [hs.2]; exact hi 5 (by decide) (by decide), ?_⟩
    simp only [hs.1]
    rw [if_neg hz, eY_law_1214]
    refine hm _ (fun σ'' hs' hR' => ?_)
    show bY_law_1217 true NOB (wp true 13) ΦL (kY_law 13 ΦL) [.ref 95000, .ref 0, .ref 120, .int i] [.int v, .int v] σ''
    rw [eY_law_1217, if_pos (rfl), eY_law_1678]
    exact next σ'' (hs.tr hs') hR'

theorem case29 {Rel : Sg → Prop} (p29 : ∀ a b c : Int32, (c = 0 ∨ c = 1) → PairI Rel nX_voyage nM_voyage [.int a, .int b, .int c]) {σ : Sg} {i : Int32} (hR : Rel σ) (hi : LwH σ i) (next : ∀ σ'', Sm σ σ'' → Rel σ'' → kY_law 13 ΦL 18 [.ref 95000, .ref 0, .ref 120, .int (i + 6)] [] σ'') : bY_law_1222 true NOB (wp true 13) ΦL (kY_law 13 ΦL) [.ref 95000, .ref 0, .ref 120, .int i] [] σ := by
  rw [eY_law_1222]
  refine ⟨hi 1 (by decide) (by decide), hi 2 (by decide) (by decide), hi 3 (by decide) (by decide), ?_⟩
  by_cases hz : gI σ 95000 (ix (i + 3)) = 0
  · rw [if_pos hz, eY_law_1245, eY_law_1246]
    refine (p29 _ _ 0 (Or.inl rfl)) σ hR _ (fun v σ' hs hm => ?_)
    show bY_law_1249 true NOB (wp true 13) ΦL (kY_law 13 ΦL) [.ref 95000, .ref 0, .ref 120, .int i] [.int v] σ'
    rw [eY_law_1249]
    refine ⟨by rw [hs.2]; exact hi 1 (by decide) (by decide), by rw [hs.2]; exact hi 2 (by decide) (by decide), by rw [hs.2]; exact hi 3 (by decide) (by decide), ?_⟩
    simp only [hs.1]
    rw [if_pos hz, eY_law_1272, eY_law_1273]
    refine hm _ (fun σ'' hs' hR' => ?_)
    show bY_law_1276 true NOB (wp true 13) ΦL (kY_law 13 ΦL) [.ref 95000, .ref 0, .ref 120, .int i] [.int v, .int v] σ''
    rw [eY_law_1276, if_pos (rfl), eY_law_1678]
    exact next σ'' (hs.tr hs') hR'

  · rw [if_neg hz, eY_law_1246]
    refine (p29 _ _ 1 (Or.inr rfl)) σ hR _ (fun v σ' hs hm => ?_)
    show bY_law_1249 true NOB (wp true 13) ΦL (kY_law 13 ΦL) [.ref 95000, .ref 0, .ref 120, .int i] [.int v] σ'
    rw [eY_law_1249]
    refine ⟨by rw [hs.2]; exact hi 1 (by decide) (by decide), by rw [hs.2]; exact hi 2 (by decide) (by decide), by rw [hs.2]; exact hi 3 (by decide) (by decide), ?_⟩
    simp only [hs.1]
    rw [if_neg hz, eY_law_1273]
    refine hm _ (fun σ'' hs' hR' => ?_)
    show bY_law_1276 true NOB (wp true 13) ΦL (kY_law 13 ΦL) [.ref 95000, .ref 0, .ref 120, .int i] [.int v, .int v] σ''
    rw [eY_law_1276, if_pos (rfl), eY_law_1678]
    exact next σ'' (hs.tr hs') hR'

theorem case30 {Rel : Sg → Prop} (p30 : ∀ a b : Int32, PairI Rel nX_took nM_took [.int a, .int b]) {σ : Sg} {i : Int32} (hR : Rel σ) (hi : LwH σ i) (next : ∀ σ'', Sm σ σ'' → Rel σ'' → kY_law 13 ΦL 18 [.ref 95000, .ref 0, .ref 120, .int (i + 6)] [] σ'') : bY_law_1281 true NOB (wp true 13) ΦL (kY_law 13 ΦL) [.ref 95000, .ref 0, .ref 120, .int i] [] σ := by
  rw [eY_law_1281]
  refine ⟨hi 1 (by decide) (by decide), hi 2 (by decide) (by decide), (p30 _ _) σ hR _ (fun v σ' hs hm => ?_)⟩
  show bY_law_1295 true NOB (wp true 13) ΦL (kY_law 13 ΦL) [.ref 95000, .ref 0, .ref 120, .int i] [.int v] σ'
  rw [eY_law_1295]
  refine ⟨by rw [hs.2]; exact hi 1 (by decide) (by decide), by rw [hs.2]; exact hi 2 (by decide) (by decide), ?_⟩
  simp only [hs.1]
  refine hm _ (fun σ'' hs' hR' => ?_)
  show bY_law_1309 true NOB (wp true 13) ΦL (kY_law 13 ΦL) [.ref 95000, .ref 0, .ref 120, .int i] [.int v, .int v] σ''
  rw [eY_law_1309, if_pos (rfl), eY_law_1678]
  exact next σ'' (hs.tr hs') hR'

theorem case31 {Rel : Sg → Prop} (p31 : PairI Rel nX_whoseWind nM_whoseWind []) {σ : Sg} {i : Int32} (hR : Rel σ) (hi : LwH σ i) (next : ∀ σ'', Sm σ σ'' → Rel σ'' → kY_law 13 ΦL 18 [.ref 95000, .ref 0, .ref 120, .int (i + 6)] [] σ'') : bY_law_1314 true NOB (wp true 13) ΦL (kY_law 13 ΦL) [.ref 95000, .ref 0, .ref 120, .int i] [] σ := by
  rw [eY_law_1314]
  refine p31 σ hR _ (fun v σ' hs hm => ?_)
  show bY_law_1318 true NOB (wp true 13) ΦL (kY_law 13 ΦL) [.ref 95000, .ref 0, .ref 120, .int i] [.int v] σ'
  rw [eY_law_1318]
  skip
  refine hm _ (fun σ'' hs' hR' => ?_)
  show bY_law_1322 true NOB (wp true 13) ΦL (kY_law 13 ΦL) [.ref 95000, .ref 0, .ref 120, .int i] [.int v, .int v] σ''
  rw [eY_law_1322, if_pos (rfl), eY_law_1678]
  exact next σ'' (hs.tr hs') hR'

theorem case32 {Rel : Sg → Prop} (p32 : ∀ a : Int32, PairI Rel nX_strengths nM_strengths [.int a]) {σ : Sg} {i : Int32} (hR : Rel σ) (hi : LwH σ i) (next : ∀ σ'', Sm σ σ'' → Rel σ'' → kY_law 13 ΦL 18 [.ref 95000, .ref 0, .ref 120, .int (i + 6)] [] σ'') : bY_law_1327 true NOB (wp true 13) ΦL (kY_law 13 ΦL) [.ref 95000, .ref 0, .ref 120, .int i] [] σ := by
  rw [eY_law_1327]
  refine ⟨hi 1 (by decide) (by decide), (p32 _) σ hR _ (fun v σ' hs hm => ?_)⟩
  show bY_law_1336 true NOB (wp true 13) ΦL (kY_law 13 ΦL) [.ref 95000, .ref 0, .ref 120, .int i] [.int v] σ'
  rw [eY_law_1336]
  refine ⟨by rw [hs.2]; exact hi 1 (by decide) (by decide), ?_⟩
  simp only [hs.1]
  refine hm _ (fun σ'' hs' hR' => ?_)
  show bY_law_1345 true NOB (wp true 13) ΦL (kY_law 13 ΦL) [.ref 95000, .ref 0, .ref 120, .int i] [.int v, .int v] σ''
  rw [eY_law_1345, if_pos (rfl), eY_law_1678]
  exact next σ'' (hs.tr hs') hR'

theorem case33 {Rel : Sg → Prop} (p33 : PairI Rel nX_vane nM_vane []) {σ : Sg} {i : Int32} (hR : Rel σ) (hi : LwH σ i) (next : ∀ σ'', Sm σ σ'' → Rel σ'' → kY_law 13 ΦL 18 [.ref 95000, .ref 0, .ref 120, .int (i + 6)] [] σ'') : bY_law_1350 true NOB (wp true 13) ΦL (kY_law 13 ΦL) [.ref 95000, .ref 0, .ref 120, .int i] [] σ := by
  rw [eY_law_1350]
  refine p33 σ hR _ (fun v σ' hs hm => ?_)
  show bY_law_1354 true NOB (wp true 13) ΦL (kY_law 13 ΦL) [.ref 95000, .ref 0, .ref 120, .int i] [.int v] σ'
  rw [eY_law_1354]
  skip
  refine hm _ (fun σ'' hs' hR' => ?_)
  show bY_law_1358 true NOB (wp true 13) ΦL (kY_law 13 ΦL) [.ref 95000, .ref 0, .ref 120, .int i] [.int v, .int v] σ''
  rw [eY_law_1358, if_pos (rfl), eY_law_1678]
  exact next σ'' (hs.tr hs') hR'

theorem case34 {Rel : Sg → Prop} (p34 : ∀ a : Int32, PairI Rel nX_sail nM_sail [.int a]) {σ : Sg} {i : Int32} (hR : Rel σ) (hi : LwH σ i) (next : ∀ σ'', Sm σ σ'' → Rel σ'' → kY_law 13 ΦL 18 [.ref 95000, .ref 0, .ref 120, .int (i + 6)] [] σ'') : bY_law_1363 true NOB (wp true 13) ΦL (kY_law 13 ΦL) [.ref 95000, .ref 0, .ref 120, .int i] [] σ := by
  rw [eY_law_1363]
  refine ⟨hi 1 (by decide) (by decide), (p34 _) σ hR _ (fun v σ' hs hm => ?_)⟩
  show bY_law_1372 true NOB (wp true 13) ΦL (kY_law 13 ΦL) [.ref 95000, .ref 0, .ref 120, .int i] [.int v] σ'
  rw [eY_law_1372]
  refine ⟨by rw [hs.2]; exact hi 1 (by decide) (by decide), ?_⟩
  simp only [hs.1]
  refine hm _ (fun σ'' hs' hR' => ?_)
  show bY_law_1381 true NOB (wp true 13) ΦL (kY_law 13 ΦL) [.ref 95000, .ref 0, .ref 120, .int i] [.int v, .int v] σ''
  rw [eY_law_1381, if_pos (rfl), eY_law_1678]
  exact next σ'' (hs.tr hs') hR'

theorem case35 {Rel : Sg → Prop} (p35 : ∀ a b : Int32, PairI Rel nX_sails nM_sails [.int a, .int b]) {σ : Sg} {i : Int32} (hR : Rel σ) (hi : LwH σ i) (next : ∀ σ'', Sm σ σ'' → Rel σ'' → kY_law 13 ΦL 18 [.ref 95000, .ref 0, .ref 120, .int (i + 6)] [] σ'') : bY_law_1386 true NOB (wp true 13) ΦL (kY_law 13 ΦL) [.ref 95000, .ref 0, .ref 120, .int i] [] σ := by
  rw [eY_law_1386]
  refine ⟨hi 1 (by decide) (by decide), hi 2 (by decide) (by decide), (p35 _ _) σ hR _ (fun v σ' hs hm => ?_)⟩
  show bY_law_1400 true NOB (wp true 13) ΦL (kY_law 13 ΦL) [.ref 95000, .ref 0, .ref 120, .int i] [.int v] σ'
  rw [eY_law_1400]
  refine ⟨by rw [hs.2]; exact hi 1 (by decide) (by decide), by rw [hs.2]; exact hi 2 (by decide) (by decide), ?_⟩
  simp only [hs.1]
  refine hm _ (fun σ'' hs' hR' => ?_)
  show bY_law_1414 true NOB (wp true 13) ΦL (kY_law 13 ΦL) [.ref 95000, .ref 0, .ref 120, .int i] [.int v, .int v] σ''
  rw [eY_law_1414, if_pos (rfl), eY_law_1678]
  exact next σ'' (hs.tr hs') hR'

theorem case36 {Rel : Sg → Prop} (p36 : ∀ a b c : Int32, PairI Rel nX_sure nM_sure [.int a, .int b, .int c]) {σ : Sg} {i : Int32} (hR : Rel σ) (hi : LwH σ i) (next : ∀ σ'', Sm σ σ'' → Rel σ'' → kY_law 13 ΦL 18 [.ref 95000, .ref 0, .ref 120, .int (i + 6)] [] σ'') : bY_law_1419 true NOB (wp true 13) ΦL (kY_law 13 ΦL) [.ref 95000, .ref 0, .ref 120, .int i] [] σ := by
  rw [eY_law_1419]
  refine ⟨hi 1 (by decide) (by decide), hi 2 (by decide) (by decide), hi 3 (by decide) (by decide), (p36 _ _ _) σ hR _ (fun v σ' hs hm => ?_)⟩
  show bY_law_1438 true NOB (wp true 13) ΦL (kY_law 13 ΦL) [.ref 95000, .ref 0, .ref 120, .int i] [.int v] σ'
  rw [eY_law_1438]
  refine ⟨by rw [hs.2]; exact hi 1 (by decide) (by decide), by rw [hs.2]; exact hi 2 (by decide) (by decide), by rw [hs.2]; exact hi 3 (by decide) (by decide), ?_⟩
  simp only [hs.1]
  refine hm _ (fun σ'' hs' hR' => ?_)
  show bY_law_1457 true NOB (wp true 13) ΦL (kY_law 13 ΦL) [.ref 95000, .ref 0, .ref 120, .int i] [.int v, .int v] σ''
  rw [eY_law_1457, if_pos (rfl), eY_law_1678]
  exact next σ'' (hs.tr hs') hR'

theorem case37 {Rel : Sg → Prop} (p37 : ∀ a : Int32, PairI Rel nX_kind nM_kind [.int a]) {σ : Sg} {i : Int32} (hR : Rel σ) (hi : LwH σ i) (next : ∀ σ'', Sm σ σ'' → Rel σ'' → kY_law 13 ΦL 18 [.ref 95000, .ref 0, .ref 120, .int (i + 6)] [] σ'') : bY_law_1462 true NOB (wp true 13) ΦL (kY_law 13 ΦL) [.ref 95000, .ref 0, .ref 120, .int i] [] σ := by
  rw [eY_law_1462]
  refine ⟨hi 1 (by decide) (by decide), (p37 _) σ hR _ (fun v σ' hs hm => ?_)⟩
  show bY_law_1471 true NOB (wp true 13) ΦL (kY_law 13 ΦL) [.ref 95000, .ref 0, .ref 120, .int i] [.int v] σ'
  rw [eY_law_1471]
  refine ⟨by rw [hs.2]; exact hi 1 (by decide) (by decide), ?_⟩
  simp only [hs.1]
  refine hm _ (fun σ'' hs' hR' => ?_)
  show bY_law_1480 true NOB (wp true 13) ΦL (kY_law 13 ΦL) [.ref 95000, .ref 0, .ref 120, .int i] [.int v, .int v] σ''
  rw [eY_law_1480, if_pos (rfl), eY_law_1678]
  exact next σ'' (hs.tr hs') hR'

theorem case38 {Rel : Sg → Prop} (p38 : ∀ a b : Int32, PairI Rel nX_inKind nM_inKind [.int a, .int b]) {σ : Sg} {i : Int32} (hR : Rel σ) (hi : LwH σ i) (next : ∀ σ'', Sm σ σ'' → Rel σ'' → kY_law 13 ΦL 18 [.ref 95000, .ref 0, .ref 120, .int (i + 6)] [] σ'') : bY_law_1485 true NOB (wp true 13) ΦL (kY_law 13 ΦL) [.ref 95000, .ref 0, .ref 120, .int i] [] σ := by
  rw [eY_law_1485]
  refine ⟨hi 1 (by decide) (by decide), hi 2 (by decide) (by decide), (p38 _ _) σ hR _ (fun v σ' hs hm => ?_)⟩
  show bY_law_1499 true NOB (wp true 13) ΦL (kY_law 13 ΦL) [.ref 95000, .ref 0, .ref 120, .int i] [.int v] σ'
  rw [eY_law_1499]
  refine ⟨by rw [hs.2]; exact hi 1 (by decide) (by decide), by rw [hs.2]; exact hi 2 (by decide) (by decide), ?_⟩
  simp only [hs.1]
  refine hm _ (fun σ'' hs' hR' => ?_)
  show bY_law_1513 true NOB (wp true 13) ΦL (kY_law 13 ΦL) [.ref 95000, .ref 0, .ref 120, .int i] [.int v, .int v] σ''
  rw [eY_law_1513, if_pos (rfl), eY_law_1678]
  exact next σ'' (hs.tr hs') hR'

theorem case39 {Rel : Sg → Prop} (p39 : ∀ a b : Int32, (b = 0 ∨ b = 1) → PairI Rel nX_calms nM_calms [.int a, .int b]) {σ : Sg} {i : Int32} (hR : Rel σ) (hi : LwH σ i) (next : ∀ σ'', Sm σ σ'' → Rel σ'' → kY_law 13 ΦL 18 [.ref 95000, .ref 0, .ref 120, .int (i + 6)] [] σ'') : bY_law_1518 true NOB (wp true 13) ΦL (kY_law 13 ΦL) [.ref 95000, .ref 0, .ref 120, .int i] [] σ := by
  rw [eY_law_1518]
  refine ⟨hi 1 (by decide) (by decide), hi 2 (by decide) (by decide), ?_⟩
  by_cases hz : gI σ 95000 (ix (i + 2)) = 0
  · rw [if_pos hz, eY_law_1536, eY_law_1537]
    refine (p39 _ 0 (Or.inl rfl)) σ hR _ (fun v σ' hs hm => ?_)
    show bY_law_1540 true NOB (wp true 13) ΦL (kY_law 13 ΦL) [.ref 95000, .ref 0, .ref 120, .int i] [.int v] σ'
    rw [eY_law_1540]
    refine ⟨by rw [hs.2]; exact hi 1 (by decide) (by decide), by rw [hs.2]; exact hi 2 (by decide) (by decide), ?_⟩
    simp only [hs.1]
    rw [if_pos hz, eY_law_1558, eY_law_1559]
    refine hm _ (fun σ'' hs' hR' => ?_)
    show bY_law_1562 true NOB (wp true 13) ΦL (kY_law 13 ΦL) [.ref 95000, .ref 0, .ref 120, .int i] [.int v, .int v] σ''
    rw [eY_law_1562, if_pos (rfl), eY_law_1678]
    exact next σ'' (hs.tr hs') hR'

  · rw [if_neg hz, eY_law_1537]
    refine (p39 _ 1 (Or.inr rfl)) σ hR _ (fun v σ' hs hm => ?_)
    show bY_law_1540 true NOB (wp true 13) ΦL (kY_law 13 ΦL) [.ref 95000, .ref 0, .ref 120, .int i] [.int v] σ'
    rw [eY_law_1540]
    refine ⟨by rw [hs.2]; exact hi 1 (by decide) (by decide), by rw [hs.2]; exact hi 2 (by decide) (by decide), ?_⟩
    simp only [hs.1]
    rw [if_neg hz, eY_law_1559]
    refine hm _ (fun σ'' hs' hR' => ?_)
    show bY_law_1562 true NOB (wp true 13) ΦL (kY_law 13 ΦL) [.ref 95000, .ref 0, .ref 120, .int i] [.int v, .int v] σ''
    rw [eY_law_1562, if_pos (rfl), eY_law_1678]
    exact next σ'' (hs.tr hs') hR'

theorem case40 {Rel : Sg → Prop} (p40 : PairI Rel nX_strongest nM_strongest []) {σ : Sg} {i : Int32} (hR : Rel σ) (hi : LwH σ i) (next : ∀ σ'', Sm σ σ'' → Rel σ'' → kY_law 13 ΦL 18 [.ref 95000, .ref 0, .ref 120, .int (i + 6)] [] σ'') : bY_law_1567 true NOB (wp true 13) ΦL (kY_law 13 ΦL) [.ref 95000, .ref 0, .ref 120, .int i] [] σ := by
  rw [eY_law_1567]
  refine p40 σ hR _ (fun v σ' hs hm => ?_)
  show bY_law_1571 true NOB (wp true 13) ΦL (kY_law 13 ΦL) [.ref 95000, .ref 0, .ref 120, .int i] [.int v] σ'
  rw [eY_law_1571]
  skip
  refine hm _ (fun σ'' hs' hR' => ?_)
  show bY_law_1575 true NOB (wp true 13) ΦL (kY_law 13 ΦL) [.ref 95000, .ref 0, .ref 120, .int i] [.int v, .int v] σ''
  rw [eY_law_1575, if_pos (rfl), eY_law_1678]
  exact next σ'' (hs.tr hs') hR'

theorem case41 {Rel : Sg → Prop} (p41 : PairI Rel nX_richest nM_richest []) {σ : Sg} {i : Int32} (hR : Rel σ) (hi : LwH σ i) (next : ∀ σ'', Sm σ σ'' → Rel σ'' → kY_law 13 ΦL 18 [.ref 95000, .ref 0, .ref 120, .int (i + 6)] [] σ'') : bY_law_1580 true NOB (wp true 13) ΦL (kY_law 13 ΦL) [.ref 95000, .ref 0, .ref 120, .int i] [] σ := by
  rw [eY_law_1580]
  refine p41 σ hR _ (fun v σ' hs hm => ?_)
  show bY_law_1584 true NOB (wp true 13) ΦL (kY_law 13 ΦL) [.ref 95000, .ref 0, .ref 120, .int i] [.int v] σ'
  rw [eY_law_1584]
  skip
  refine hm _ (fun σ'' hs' hR' => ?_)
  show bY_law_1588 true NOB (wp true 13) ΦL (kY_law 13 ΦL) [.ref 95000, .ref 0, .ref 120, .int i] [.int v, .int v] σ''
  rw [eY_law_1588, if_pos (rfl), eY_law_1678]
  exact next σ'' (hs.tr hs') hR'

theorem case42 {Rel : Sg → Prop} (p42 : ∀ a : Int32, PairI Rel nX_often nM_often [.int a]) {σ : Sg} {i : Int32} (hR : Rel σ) (hi : LwH σ i) (next : ∀ σ'', Sm σ σ'' → Rel σ'' → kY_law 13 ΦL 18 [.ref 95000, .ref 0, .ref 120, .int (i + 6)] [] σ'') : bY_law_1593 true NOB (wp true 13) ΦL (kY_law 13 ΦL) [.ref 95000, .ref 0, .ref 120, .int i] [] σ := by
  rw [eY_law_1593]
  refine ⟨hi 1 (by decide) (by decide), (p42 _) σ hR _ (fun v σ' hs hm => ?_)⟩
  show bY_law_1602 true NOB (wp true 13) ΦL (kY_law 13 ΦL) [.ref 95000, .ref 0, .ref 120, .int i] [.int v] σ'
  rw [eY_law_1602]
  refine ⟨by rw [hs.2]; exact hi 1 (by decide) (by decide), ?_⟩
  simp only [hs.1]
  refine hm _ (fun σ'' hs' hR' => ?_)
  show bY_law_1611 true NOB (wp true 13) ΦL (kY_law 13 ΦL) [.ref 95000, .ref 0, .ref 120, .int i] [.int v, .int v] σ''
  rw [eY_law_1611, if_pos (rfl), eY_law_1678]
  exact next σ'' (hs.tr hs') hR'

theorem case43 {Rel : Sg → Prop} (p43 : PairI Rel nX_worstDay nM_worstDay []) {σ : Sg} {i : Int32} (hR : Rel σ) (hi : LwH σ i) (next : ∀ σ'', Sm σ σ'' → Rel σ'' → kY_law 13 ΦL 18 [.ref 95000, .ref 0, .ref 120, .int (i + 6)] [] σ'') : bY_law_1616 true NOB (wp true 13) ΦL (kY_law 13 ΦL) [.ref 95000, .ref 0, .ref 120, .int i] [] σ := by
  rw [eY_law_1616]
  refine p43 σ hR _ (fun v σ' hs hm => ?_)
  show bY_law_1620 true NOB (wp true 13) ΦL (kY_law 13 ΦL) [.ref 95000, .ref 0, .ref 120, .int i] [.int v] σ'
  rw [eY_law_1620]
  skip
  refine hm _ (fun σ'' hs' hR' => ?_)
  show bY_law_1624 true NOB (wp true 13) ΦL (kY_law 13 ΦL) [.ref 95000, .ref 0, .ref 120, .int i] [.int v, .int v] σ''
  rw [eY_law_1624, if_pos (rfl), eY_law_1678]
  exact next σ'' (hs.tr hs') hR'

theorem case44 {Rel : Sg → Prop} (p44 : PairI Rel nX_image nM_image []) {σ : Sg} {i : Int32} (hR : Rel σ) (hi : LwH σ i) (next : ∀ σ'', Sm σ σ'' → Rel σ'' → kY_law 13 ΦL 18 [.ref 95000, .ref 0, .ref 120, .int (i + 6)] [] σ'') : bY_law_1629 true NOB (wp true 13) ΦL (kY_law 13 ΦL) [.ref 95000, .ref 0, .ref 120, .int i] [] σ := by
  rw [eY_law_1629]
  refine p44 σ hR _ (fun v σ' hs hm => ?_)
  show bY_law_1633 true NOB (wp true 13) ΦL (kY_law 13 ΦL) [.ref 95000, .ref 0, .ref 120, .int i] [.int v] σ'
  rw [eY_law_1633]
  skip
  refine hm _ (fun σ'' hs' hR' => ?_)
  show bY_law_1637 true NOB (wp true 13) ΦL (kY_law 13 ΦL) [.ref 95000, .ref 0, .ref 120, .int i] [.int v, .int v] σ''
  rw [eY_law_1637, if_pos (rfl), eY_law_1678]
  exact next σ'' (hs.tr hs') hR'

theorem case45 {Rel : Sg → Prop} (p45 : PairI Rel nX_back nM_back []) {σ : Sg} {i : Int32} (hR : Rel σ) (hi : LwH σ i) (next : ∀ σ'', Sm σ σ'' → Rel σ'' → kY_law 13 ΦL 18 [.ref 95000, .ref 0, .ref 120, .int (i + 6)] [] σ'') : bY_law_1642 true NOB (wp true 13) ΦL (kY_law 13 ΦL) [.ref 95000, .ref 0, .ref 120, .int i] [] σ := by
  rw [eY_law_1642]
  refine p45 σ hR _ (fun v σ' hs hm => ?_)
  show bY_law_1646 true NOB (wp true 13) ΦL (kY_law 13 ΦL) [.ref 95000, .ref 0, .ref 120, .int i] [.int v] σ'
  rw [eY_law_1646]
  skip
  refine hm _ (fun σ'' hs' hR' => ?_)
  show bY_law_1650 true NOB (wp true 13) ΦL (kY_law 13 ΦL) [.ref 95000, .ref 0, .ref 120, .int i] [.int v, .int v] σ''
  rw [eY_law_1650, if_pos (rfl), eY_law_1678]
  exact next σ'' (hs.tr hs') hR'

theorem case46 {Rel : Sg → Prop} (p46 : ∀ a : Int32, PairI Rel nX_about nM_about [.int a]) {σ : Sg} {i : Int32} (hR : Rel σ) (hi : LwH σ i) (next : ∀ σ'', Sm σ σ'' → Rel σ'' → kY_law 13 ΦL 18 [.ref 95000, .ref 0, .ref 120, .int (i + 6)] [] σ'') : bY_law_1655 true NOB (wp true 13) ΦL (kY_law 13 ΦL) [.ref 95000, .ref 0, .ref 120, .int i] [] σ := by
  rw [eY_law_1655]
  refine ⟨hi 1 (by decide) (by decide), (p46 _) σ hR _ (fun v σ' hs hm => ?_)⟩
  show bY_law_1664 true NOB (wp true 13) ΦL (kY_law 13 ΦL) [.ref 95000, .ref 0, .ref 120, .int i] [.int v] σ'
  rw [eY_law_1664]
  refine ⟨by rw [hs.2]; exact hi 1 (by decide) (by decide), ?_⟩
  simp only [hs.1]
  refine hm _ (fun σ'' hs' hR' => ?_)
  show bY_law_1673 true NOB (wp true 13) ΦL (kY_law 13 ΦL) [.ref 95000, .ref 0, .ref 120, .int i] [.int v, .int v] σ''
  rw [eY_law_1673, if_pos (rfl), eY_law_1678]
  exact next σ'' (hs.tr hs') hR'

theorem law_walk18 {Rel : Sg → Prop}
    (p0 : ∀ a b c : Int32, PairI Rel nX_wind nM_wind [.int a, .int b, .int c])
    (p1 : ∀ a b : Int32, PairI Rel nX_village nM_village [.int a, .int b])
    (p2 : ∀ a b c : Int32, PairI Rel nX_way nM_way [.int a, .int b, .int c])
    (p3 : ∀ a b c d e : Int32, PairI Rel nX_feed nM_feed [.int a, .int b, .int c, .int d, .int e])
    (p4 : ∀ a : Int32, PairI Rel nX_end nM_end [.int a])
    (p5 : PairI Rel nX_text nM_text [])
    (p6 : ∀ a : Int32, PairI Rel nX_fault nM_fault [.int a])
    (p7 : ∀ a : Int32, PairI Rel nX_by nM_by [.int a])
    (p8 : ∀ a b c : Int32, PairI Rel nX_pay nM_pay [.int a, .int b, .int c])
    (p9 : ∀ a b : Int32, PairI Rel nX_merge nM_merge [.int a, .int b])
    (p10 : ∀ a : Int32, PairI Rel nX_day nM_day [.int a])
    (p11 : ∀ a : Int32, PairI Rel nX_played nM_played [.int a])
    (p12 : ∀ a b : Int32, PairI Rel nX_years nM_years [.int a, .int b])
    (p13 : PairI Rel nX_undo nM_undo [])
    (p14 : ∀ a b : Int32, PairI Rel nX_ofWind nM_ofWind [.int a, .int b])
    (p15 : ∀ a b : Int32, PairI Rel nX_ofVillage nM_ofVillage [.int a, .int b])
    (p16 : ∀ a b c : Int32, PairI Rel nX_takes nM_takes [.int a, .int b, .int c])
    (p17 : ∀ a b c : Int32, PairI Rel nX_catches nM_catches [.int a, .int b, .int c])
    (p18 : ∀ a : Int32, PairI Rel nX_is nM_is [.int a])
    (p19 : ∀ a b : Int32, PairI Rel nX_book nM_book [.int a, .int b])
    (p20 : ∀ a : Int32, PairI Rel nX_foretold nM_foretold [.int a])
    (p21 : ∀ a b : Int32, PairI Rel nX_purse nM_purse [.int a, .int b])
    (p22 : ∀ a b : Int32, PairI Rel nX_owed nM_owed [.int a, .int b])
    (p23 : PairI Rel nX_arrears nM_arrears [])
    (p24 : ∀ a : Int32, PairI Rel nX_broke nM_broke [.int a])
    (p25 : ∀ a : Int32, PairI Rel nX_whose nM_whose [.int a])
    (p26 : ∀ a b c : Int32, (c = 0 ∨ c = 1) → PairL Rel nX_odds nM_odds [.int a, .int b, .int c])
    (p27 : ∀ a b c : Int32, (c = 0 ∨ c = 1) → PairI Rel nX_least nM_least [.int a, .int b, .int c])
    (p28 : ∀ a b c d e : Int32, (e = 0 ∨ e = 1) → PairI Rel nX_share nM_share [.int a, .int b, .int c, .int d, .int e])
    (p29 : ∀ a b c : Int32, (c = 0 ∨ c = 1) → PairI Rel nX_voyage nM_voyage [.int a, .int b, .int c])
    (p30 : ∀ a b : Int32, PairI Rel nX_took nM_took [.int a, .int b])
    (p31 : PairI Rel nX_whoseWind nM_whoseWind [])
    (p32 : ∀ a : Int32, PairI Rel nX_strengths nM_strengths [.int a])
    (p33 : PairI Rel nX_vane nM_vane [])
    (p34 : ∀ a : Int32, PairI Rel nX_sail nM_sail [.int a])
    (p35 : ∀ a b : Int32, PairI Rel nX_sails nM_sails [.int a, .int b])
    (p36 : ∀ a b c : Int32, PairI Rel nX_sure nM_sure [.int a, .int b, .int c])
    (p37 : ∀ a : Int32, PairI Rel nX_kind nM_kind [.int a])
    (p38 : ∀ a b : Int32, PairI Rel nX_inKind nM_inKind [.int a, .int b])
    (p39 : ∀ a b : Int32, (b = 0 ∨ b = 1) → PairI Rel nX_calms nM_calms [.int a, .int b])
    (p40 : PairI Rel nX_strongest nM_strongest [])
    (p41 : PairI Rel nX_richest nM_richest [])
    (p42 : ∀ a : Int32, PairI Rel nX_often nM_often [.int a])
    (p43 : PairI Rel nX_worstDay nM_worstDay [])
    (p44 : PairI Rel nX_image nM_image [])
    (p45 : PairI Rel nX_back nM_back [])
    (p46 : ∀ a : Int32, PairI Rel nX_about nM_about [.int a]) :
    ∀ (n : Nat) (σ : Sg) (i : Int32), Rel σ → ln σ ≤ 3072 → 0 ≤ i.toInt → i.toInt ≤ 3078 → (3078 - i.toInt).toNat ≤ n → kY_law 13 ΦL 18 [.ref 95000, .ref 0, .ref 120, .int i] [] σ
  | n, σ, i, hR, hL, h0, h1, hn => by
    refine hY_law_18 _ _ _ _ _ ?_
    rw [eY_law_18]
    have hLn : (Int32.ofNat (ln σ)).toInt = (ln σ : Int) := nI_T (by omega)
    by_cases hc : (Int32.ofNat (ln σ)) - 6 < i
    · rw [if_pos hc, eY_law_1684]
      exact rfl
    · rw [if_neg hc]
      have hc : i.toInt ≤ (ln σ : Int) - 6 := by
        rw [Int32.lt_iff_toInt_lt, ts, hLn, show (6 : Int32).toInt = 6 from rfl] at hc
        omega
      have hi : LwH σ i := by
        intro j j0 j6
        unfold inb
        rw [ta]
        omega
      cases n with
      | zero => omega
      | succ n =>
        have next : ∀ σ'', Sm σ σ'' → Rel σ'' → kY_law 13 ΦL 18 [.ref 95000, .ref 0, .ref 120, .int (i + 6)] [] σ'' := fun σ'' hs hR'' => by
          have h6 : (i + 6).toInt = i.toInt + 6 := by rw [ta, show (6 : Int32).toInt = 6 from rfl]; omega
          exact law_walk18 p0 p1 p2 p3 p4 p5 p6 p7 p8 p9 p10 p11 p12 p13 p14 p15 p16 p17 p18 p19 p20 p21 p22 p23 p24 p25 p26 p27 p28 p29 p30 p31 p32 p33 p34 p35 p36 p37 p38 p39 p40 p41 p42 p43 p44 p45 p46 n σ'' (i + 6) hR'' (by rw [hs.2]; exact hL) (by omega) (by omega) (by omega)
        refine ⟨?_, ?_⟩
        · unfold inb; omega
        refine ite_i (fun _ => case0 p0 hR hi next) (fun _ => ?_)
        refine ite_i (fun _ => case1 p1 hR hi next) (fun _ => ?_)
        refine ite_i (fun _ => case2 p2 hR hi next) (fun _ => ?_)
        refine ite_i (fun _ => case3 p3 hR hi next) (fun _ => ?_)
        refine ite_i (fun _ => case4 p4 hR hi next) (fun _ => ?_)
        refine ite_i (fun _ => case5 p5 hR hi next) (fun _ => ?_)
        refine ite_i (fun _ => case6 p6 hR hi next) (fun _ => ?_)
        refine ite_i (fun _ => case7 p7 hR hi next) (fun _ => ?_)
        refine ite_i (fun _ => case8 p8 hR hi next) (fun _ => ?_)
        refine ite_i (fun _ => case9 p9 hR hi next) (fun _ => ?_)
        refine ite_i (fun _ => case10 p10 hR hi next) (fun _ => ?_)
        refine ite_i (fun _ => case11 p11 hR hi next) (fun _ => ?_)
        refine ite_i (fun _ => case12 p12 hR hi next) (fun _ => ?_)
        refine ite_i (fun _ => case13 p13 hR hi next) (fun _ => ?_)
        refine ite_i (fun _ => case14 p14 hR hi next) (fun _ => ?_)
        refine ite_i (fun _ => case15 p15 hR hi next) (fun _ => ?_)
        refine ite_i (fun _ => case16 p16 hR hi next) (fun _ => ?_)
        refine ite_i (fun _ => case17 p17 hR hi next) (fun _ => ?_)
        refine ite_i (fun _ => case18 p18 hR hi next) (fun _ => ?_)
        refine ite_i (fun _ => case19 p19 hR hi next) (fun _ => ?_)
        refine ite_i (fun _ => case20 p20 hR hi next) (fun _ => ?_)
        refine ite_i (fun _ => case21 p21 hR hi next) (fun _ => ?_)
        refine ite_i (fun _ => case22 p22 hR hi next) (fun _ => ?_)
        refine ite_i (fun _ => case23 p23 hR hi next) (fun _ => ?_)
        refine ite_i (fun _ => case24 p24 hR hi next) (fun _ => ?_)
        refine ite_i (fun _ => case25 p25 hR hi next) (fun _ => ?_)
        refine ite_i (fun _ => case26 p26 hR hi next) (fun _ => ?_)
        refine ite_i (fun _ => case27 p27 hR hi next) (fun _ => ?_)
        refine ite_i (fun _ => case28 p28 hR hi next) (fun _ => ?_)
        refine ite_i (fun _ => case29 p29 hR hi next) (fun _ => ?_)
        refine ite_i (fun _ => case30 p30 hR hi next) (fun _ => ?_)
        refine ite_i (fun _ => case31 p31 hR hi next) (fun _ => ?_)
        refine ite_i (fun _ => case32 p32 hR hi next) (fun _ => ?_)
        refine ite_i (fun _ => case33 p33 hR hi next) (fun _ => ?_)
        refine ite_i (fun _ => case34 p34 hR hi next) (fun _ => ?_)
        refine ite_i (fun _ => case35 p35 hR hi next) (fun _ => ?_)
        refine ite_i (fun _ => case36 p36 hR hi next) (fun _ => ?_)
        refine ite_i (fun _ => case37 p37 hR hi next) (fun _ => ?_)
        refine ite_i (fun _ => case38 p38 hR hi next) (fun _ => ?_)
        refine ite_i (fun _ => case39 p39 hR hi next) (fun _ => ?_)
        refine ite_i (fun _ => case40 p40 hR hi next) (fun _ => ?_)
        refine ite_i (fun _ => case41 p41 hR hi next) (fun _ => ?_)
        refine ite_i (fun _ => case42 p42 hR hi next) (fun _ => ?_)
        refine ite_i (fun _ => case43 p43 hR hi next) (fun _ => ?_)
        refine ite_i (fun _ => case44 p44 hR hi next) (fun _ => ?_)
        refine ite_i (fun _ => case45 p45 hR hi next) (fun _ => ?_)
        refine ite_i (fun _ => case46 p46 hR hi next) (fun _ => ?_)
        rw [eY_law_1678]
        exact next σ ⟨fun _ => rfl, rfl⟩ hR
/-- the law's loop, from stores that hold the relation -/
theorem law_all : ∀ (n : Nat) (σ : Sg) (i : Int32), Rel σ → ln σ ≤ 3072 → 0 ≤ i.toInt → i.toInt ≤ 3078 → (3078 - i.toInt).toNat ≤ n → kY_law 13 ΦL 18 [.ref 95000, .ref 0, .ref 120, .int i] [] σ := law_walk18 (Rel := Rel) (fun a b c => p_wind a b c) (fun a b => p_village a b) (fun a b c => p_way a b c) (fun a b c d e => p_feed a b c d e) (fun a => p_end a) p_text (fun a => p_fault a) (fun a => p_by a) (fun a b c => p_pay a b c) (fun a b => p_merge a b) (fun a => p_day a) (fun a => p_played a) (fun a b => p_years a b) p_undo (fun a b => p_ofWind a b) (fun a b => p_ofVillage a b) (fun a b c => p_takes a b c) (fun a b c => p_catches a b c) (fun a => p_is a) (fun a b => p_book a b) (fun a => p_foretold a) (fun a b => p_purse a b) (fun a b => p_owed a b) p_arrears (fun a => p_broke a) (fun a => p_whose a) (fun a b c _ => p_odds a b c) (fun a b c _ => p_least a b c) (fun a b c d e _ => p_share a b c d e) (fun a b c _ => p_voyage a b c) (fun a b => p_took a b) p_whoseWind (fun a => p_strengths a) p_vane (fun a => p_sail a) (fun a b => p_sails a b) (fun a b c => p_sure a b c) (fun a => p_kind a) (fun a b => p_inKind a b) (fun a b _ => p_calms a b) p_strongest p_richest (fun a => p_often a) p_worstDay p_image p_back (fun a => p_about a)
