/-! IN KIND: the fewest pieces, as the reference lays them -/
abbrev FAR : Nat := 1000000000
def pc1 (k : Nat) (g : Nat → Nat) : Nat → Nat → Nat
  | 0, s => g s
  | n + 1, s => min (g s) (if k ≤ s then pc1 k g n (s - k) + 1 else FAR)
theorem pc1_f {k : Nat} {g : Nat → Nat} (hk : 1 ≤ k) (hg : ∀ s, g s ≤ FAR) : ∀ n m s, s ≤ n → s ≤ m → pc1 k g n s = pc1 k g m s
  | 0, 0, s, _, _ => rfl
  | 0, m + 1, s, h1, _ => by
    show g s = min (g s) (if k ≤ s then pc1 k g m (s - k) + 1 else FAR)
    have := hg s
    rw [if_neg (by omega)]
    omega
  | n + 1, 0, s, _, h2 => by
    show min (g s) (if k ≤ s then pc1 k g n (s - k) + 1 else FAR) = g s
    have := hg s
    rw [if_neg (by omega)]
    omega
  | n + 1, m + 1, s, h1, h2 => by
    show min (g s) (if k ≤ s then pc1 k g n (s - k) + 1 else FAR) = min (g s) (if k ≤ s then pc1 k g m (s - k) + 1 else FAR)
    by_cases q : k ≤ s
    · rw [if_pos q, if_pos q, pc1_f hk hg n m (s - k) (by omega) (by omega)]
    · rw [if_neg q, if_neg q]
def pcJ (kd : Nat → Nat) (K : Nat) : Nat → Nat → Nat
  | 0, s => if s = 0 then 0 else FAR
  | j + 1, s => pc1 (kd (K - 1 - j)) (pcJ kd K j) s s
def pcP (kd : Nat → Nat) (K k s : Nat) : Nat := pcJ kd K (K - k) s
theorem pcJ_b (kd : Nat → Nat) (K : Nat) : ∀ j s, pcJ kd K j s ≤ FAR
  | 0, s => by
    unfold pcJ
    split <;> omega
  | j + 1, s => by
    have ih := pcJ_b kd K j s
    show pc1 (kd (K - 1 - j)) (pcJ kd K j) s s ≤ FAR
    cases s with
    | zero => exact ih
    | succ s =>
      show min (pcJ kd K j (s + 1)) _ ≤ FAR
      omega
/-- what the tables keep -/
def Prc (kd : Nat → Nat) (K : Nat) (P : Nat → Nat → Nat) : Prop := (∀ s, P K s = if s = 0 then 0 else FAR) ∧ (∀ k, k < K → ∀ s, P k s = min (P (k + 1) s) (if kd k ≤ s then P k (s - kd k) + 1 else FAR)) ∧ (∀ k, k < K → 1 ≤ kd k)
theorem pcP_r {kd : Nat → Nat} {K : Nat} (h : ∀ k, k < K → 1 ≤ kd k) : Prc kd K (pcP kd K) := by
  refine ⟨fun s => ?_, fun k hk s => ?_, h⟩
  · unfold pcP
    rw [Nat.sub_self]
    rfl
  · obtain ⟨j, hj⟩ : ∃ j, K - k = j + 1 := ⟨K - k - 1, by omega⟩
    have hj2 : K - (k + 1) = j := by omega
    have hkj : K - 1 - j = k := by omega
    have e : ∀ s, pcP kd K k s = pc1 (kd k) (pcJ kd K j) s s := fun s => by
      unfold pcP
      rw [hj]
      show pc1 (kd (K - 1 - j)) (pcJ kd K j) s s = _
      rw [hkj]
    have e2 : ∀ s, pcP kd K (k + 1) s = pcJ kd K j s := fun s => by
      unfold pcP
      rw [hj2]
    have h1 := h k hk
    rw [e2, e s]
    cases s with
    | zero =>
      have := pcJ_b kd K j 0
      show pcJ kd K j 0 = _
      rw [if_neg (by omega)]
      omega
    | succ s =>
      show min (pcJ kd K j (s + 1)) (if kd k ≤ s + 1 then pc1 (kd k) (pcJ kd K j) s (s + 1 - kd k) + 1 else FAR) = _
      by_cases q : kd k ≤ s + 1
      · rw [if_pos q, if_pos q, e, pc1_f h1 (pcJ_b kd K j) s (s + 1 - kd k) (s + 1 - kd k) (by omega) (by omega)]
      · rw [if_neg q, if_neg q]
theorem Prc.le1 {kd : Nat → Nat} {K : Nat} {P : Nat → Nat → Nat} (h : Prc kd K P) {k : Nat} (hk : k < K) (s : Nat) : P k s ≤ P (k + 1) s := by
  rw [h.2.1 k hk s]
  omega
theorem Prc.le {kd : Nat → Nat} {K : Nat} {P : Nat → Nat → Nat} (h : Prc kd K P) {k : Nat} : ∀ l, k ≤ l → l ≤ K → ∀ s, P k s ≤ P l s
  | 0, h1, _, s => by
    obtain rfl : k = 0 := by omega
    exact Nat.le_refl _
  | l + 1, h1, h2, s => by
    by_cases e : k = l + 1
    · subst e; exact Nat.le_refl _
    · exact Nat.le_trans (h.le l (by omega) (by omega) s) (h.le1 (by omega) s)
theorem Prc.far {kd : Nat → Nat} {K : Nat} {P : Nat → Nat → Nat} (h : Prc kd K P) {k : Nat} (hk : k ≤ K) (s : Nat) : P k s ≤ FAR := by
  have := h.le K hk (Nat.le_refl _) s
  have e := h.1 s
  split at e <;> omega
/-- one piece more is enough for one kind more -/
theorem Prc.tri {kd : Nat → Nat} {K : Nat} {P : Nat → Nat → Nat} (h : Prc kd K P) {i : Nat} (hi : i < K) : ∀ d k, k + d = i → ∀ s, kd i ≤ s → P k s ≤ P k (s - kd i) + 1
  | 0, k, hd, s, hs => by
    obtain rfl : k = i := by omega
    have e := h.2.1 k hi s
    rw [if_pos hs] at e
    omega
  | d + 1, k, hd, s, hs => by
    have ih := h.tri hi d (k + 1) (by omega)
    have hk := h.2.2 k (by omega)
    have hi1 := h.2.2 i hi
    induction s using Nat.strongRecOn with
    | ind s is =>
      have e1 := h.2.1 k (by omega) (s - kd i)
      have e2 := h.2.1 k (by omega) s
      have e3 := ih s hs
      by_cases q : kd k ≤ s - kd i
      · rw [if_pos q] at e1
        rw [if_pos (by omega)] at e2
        have e4 := is (s - kd k) (by omega) (by omega)
        rw [show s - kd k - kd i = s - kd i - kd k from by omega] at e4
        omega
      · rw [if_neg q] at e1
        have := h.far (k := k) (by omega) s
        omega
theorem Prc.ex {kd : Nat → Nat} {K : Nat} {P : Nat → Nat → Nat} (h : Prc kd K P) : ∀ d k, k + d = K → ∀ s, 1 ≤ s → P k s < FAR → ∃ i, i < K ∧ kd i ≤ s ∧ P k (s - kd i) + 1 ≤ P k s
  | 0, k, hd, s, hs, hf => by
    obtain rfl : k = K := by omega
    rw [h.1 s, if_neg (by omega)] at hf
    omega
  | d + 1, k, hd, s, hs, hf => by
    have e := h.2.1 k (by omega) s
    by_cases q : P k s = P (k + 1) s
    · obtain ⟨i, h1, h2, h3⟩ := h.ex d (k + 1) (by omega) s hs (by omega)
      have := h.le1 (k := k) (by omega) (s - kd i)
      exact ⟨i, h1, h2, by omega⟩
    · by_cases q2 : kd k ≤ s
      · rw [if_pos q2] at e
        exact ⟨k, by omega, q2, by omega⟩
      · rw [if_neg q2] at e
        omega
theorem Prc.z {kd : Nat → Nat} {K : Nat} {P : Nat → Nat → Nat} (h : Prc kd K P) : ∀ d k, k + d = K → P k 0 = 0 ∧ ∀ s, 1 ≤ s → 1 ≤ P k s
  | 0, k, hd => by
    obtain rfl : k = K := by omega
    refine ⟨by rw [h.1]; rfl, fun s hs => ?_⟩
    rw [h.1, if_neg (by omega)]
    exact (by decide : 1 ≤ FAR)
  | d + 1, k, hd => by
    obtain ⟨i1, i2⟩ := h.z d (k + 1) (by omega)
    have hk := h.2.2 k (by omega)
    refine ⟨?_, fun s hs => ?_⟩
    · rw [h.2.1 k (by omega) 0, i1]
      omega
    · have e := h.2.1 k (by omega) s
      have := i2 s hs
      have hFAR : FAR = 1000000000 := rfl
      split at e <;> omega
/-- the class's way to a fewest one -/
def mnP (kd : Nat → Nat) (A : Nat → Nat) (s : Nat) : Nat → Nat
  | 0 => FAR
  | i + 1 => if kd i ≤ s ∧ A (s - kd i) ≠ FAR ∧ A (s - kd i) + 1 < mnP kd A s i then A (s - kd i) + 1 else mnP kd A s i
theorem mnP_b {kd : Nat → Nat} {A : Nat → Nat} {s : Nat} : ∀ i, mnP kd A s i ≤ FAR
  | 0 => Nat.le_refl _
  | i + 1 => by
    have := mnP_b (kd := kd) (A := A) (s := s) i
    unfold mnP
    split <;> omega
theorem mnP_le {kd : Nat → Nat} {A : Nat → Nat} {s i : Nat} (h1 : kd i ≤ s) (h2 : A (s - kd i) < FAR) : ∀ m, i < m → mnP kd A s m ≤ A (s - kd i) + 1
  | 0, h => by omega
  | m + 1, h => by
    unfold mnP
    by_cases e : i = m
    · subst e
      split
      · omega
      · next q =>
        have : ¬ (A (s - kd i) + 1 < mnP kd A s i) := fun z => q ⟨h1, by omega, z⟩
        omega
    · have := mnP_le h1 h2 m (by omega)
      split <;> omega
theorem Prc.mn {kd : Nat → Nat} {K : Nat} {P : Nat → Nat → Nat} (h : Prc kd K P) {s : Nat} (hs : 1 ≤ s) : mnP kd (P 0) s K = P 0 s := by
  have lo : ∀ m, m ≤ K → P 0 s ≤ mnP kd (P 0) s m := by
    intro m
    induction m with
    | zero =>
      intro _
      exact h.far (Nat.zero_le _) s
    | succ m ih =>
      intro hm
      have ih := ih (by omega)
      unfold mnP
      split
      next q => exact h.tri (i := m) (by omega) m 0 (by omega) s q.1
      next q => exact ih
  have l := lo K (Nat.le_refl _)
  have u : mnP kd (P 0) s K ≤ P 0 s := by
    have hf := h.far (k := 0) (Nat.zero_le _) s
    by_cases q : P 0 s = FAR
    · rw [q]; exact mnP_b K
    · obtain ⟨i, h1, h2, h3⟩ := h.ex K 0 (by omega) s hs (by omega)
      exact Nat.le_trans (mnP_le h2 (by omega) K h1) h3
  omega
/-- nothing of the first k kinds is in a fewest row of m -/
def Ivk (kd : Nat → Nat) (P : Nat → Nat → Nat) (k m : Nat) : Prop := P 0 m < FAR ∧ ∀ j, j < k → kd j ≤ m → P 0 (m - kd j) + 1 ≠ P 0 m
theorem Prc.iv {kd : Nat → Nat} {K : Nat} {P : Nat → Nat → Nat} (h : Prc kd K P) {m : Nat} : ∀ k, k ≤ K → Ivk kd P k m → P k m = P 0 m
  | 0, _, _ => rfl
  | k + 1, hk, ⟨i1, i2⟩ => by
    have ih := h.iv k (by omega) ⟨i1, fun j hj => i2 j (by omega)⟩
    have e := h.2.1 k (by omega) m
    have hle := h.le1 (k := k) (by omega) m
    by_cases q : kd k ≤ m
    · rw [if_pos q] at e
      have n := i2 k (by omega) q
      have t := h.tri (i := k) (by omega) k 0 (by omega) m q
      have l := h.le (k := 0) k (Nat.zero_le _) (by omega) (m - kd k)
      omega
    · rw [if_neg q] at e
      have := h.far (k := k + 1) hk m
      omega
theorem Prc.cond {kd : Nat → Nat} {K : Nat} {P : Nat → Nat → Nat} (h : Prc kd K P) {k m : Nat} (hk : k < K) (hi : Ivk kd P k m) (q : kd k ≤ m) : (P 0 (m - kd k) + 1 = P 0 m ↔ P k (m - kd k) + 1 = P k m) ∧ (P 0 (m - kd k) + 1 = P 0 m → Ivk kd P k (m - kd k)) := by
  have em := h.iv k (by omega) hi
  have t := h.tri (i := k) hk k 0 (by omega) m q
  have l := h.le (k := 0) k (Nat.zero_le _) (by omega) (m - kd k)
  have iv : P 0 (m - kd k) + 1 = P 0 m → Ivk kd P k (m - kd k) := fun z => by
    obtain ⟨i1, i2⟩ := hi
    refine ⟨by omega, fun j hj hjm e => ?_⟩
    have n := i2 j hj (by omega)
    have t2 := h.tri (i := k) hk k 0 (by omega) (m - kd j) (by omega)
    have t3 := h.tri (i := j) (by omega) j 0 (by omega) m (by omega)
    rw [show m - kd j - kd k = m - kd k - kd j from by omega] at t2
    omega
  refine ⟨⟨fun z => ?_, fun z => ?_⟩, iv⟩
  · rw [h.iv k (by omega) (iv z), em]
    exact z
  · omega
/-- how many of a kind: the reference's way -/
def grd (Q : Nat → Nat) (k : Nat) : Nat → Nat → Nat × Nat
  | 0, l => (l, 0)
  | n + 1, l => if k ≤ l ∧ Q (l - k) + 1 = Q l then ((grd Q k n (l - k)).1, (grd Q k n (l - k)).2 + 1) else (l, 0)
def extP (kd : Nat → Nat) (P : Nat → Nat → Nat) (n : Nat) : Nat → Nat × Nat
  | 0 => (n, 0)
  | i + 1 => grd (P i) (kd i) 1000 (extP kd P n i).1
theorem grd_b {Q : Nat → Nat} {k : Nat} : ∀ n l, (grd Q k n l).1 ≤ l ∧ (grd Q k n l).2 ≤ n
  | 0, l => ⟨Nat.le_refl _, Nat.le_refl _⟩
  | n + 1, l => by
    have := grd_b (Q := Q) (k := k) n (l - k)
    unfold grd
    split
    · exact ⟨by dsimp only; omega, by dsimp only; omega⟩
    · exact ⟨Nat.le_refl _, Nat.zero_le _⟩
theorem extP_b {kd : Nat → Nat} {P : Nat → Nat → Nat} {n : Nat} : ∀ i, (extP kd P n i).1 ≤ n
  | 0 => Nat.le_refl _
  | i + 1 => Nat.le_trans (grd_b 1000 _).1 (extP_b i)
