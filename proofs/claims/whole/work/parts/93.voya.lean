/-! A VOYAGE: the soonest days of all villages, found in as many rounds as there are villages -/
def rch (sp : Nat → Int) : Nat → Nat → Int → Nat
  | 0, _, _ => 61
  | n + 1, i, l => if l - sp i ≤ 0 then i + 1 else rch sp n (i + 1) (l - sp i)
theorem rch_b {sp : Nat → Int} : ∀ (n i : Nat) (l : Int), i + n ≤ 60 → i < rch sp n i l ∧ rch sp n i l ≤ 61
  | 0, i, l, h => by
    show i < 61 ∧ 61 ≤ 61
    omega
  | n + 1, i, l, h => by
    show i < (if l - sp i ≤ 0 then i + 1 else rch sp n (i + 1) (l - sp i)) ∧ (if l - sp i ≤ 0 then i + 1 else rch sp n (i + 1) (l - sp i)) ≤ 61
    have := rch_b (sp := sp) n (i + 1) (l - sp i) (by omega)
    split <;> omega
theorem rch_l {sp : Nat → Int} : ∀ (n i : Nat) (l l' : Int), l ≤ l' → i + n ≤ 60 → rch sp n i l ≤ rch sp n i l'
  | 0, i, l, l', _, _ => Nat.le_refl _
  | n + 1, i, l, l', hl, h => by
    show (if l - sp i ≤ 0 then i + 1 else rch sp n (i + 1) (l - sp i)) ≤ (if l' - sp i ≤ 0 then i + 1 else rch sp n (i + 1) (l' - sp i))
    have h1 := rch_b (sp := sp) n (i + 1) (l' - sp i) (by omega)
    by_cases a : l - sp i ≤ 0
    · rw [if_pos a]
      split <;> omega
    · rw [if_neg a, if_neg (by omega)]
      exact rch_l n (i + 1) _ _ (by omega) (by omega)
theorem rch_s {sp : Nat → Int} (hp : ∀ i, 1 ≤ sp i) (n i : Nat) (l : Int) (h : i + (n + 1) ≤ 60) : rch sp (n + 1) i l ≤ rch sp n (i + 1) l := by
  show (if l - sp i ≤ 0 then i + 1 else rch sp n (i + 1) (l - sp i)) ≤ _
  have h1 := rch_b (sp := sp) n (i + 1) l (by omega)
  have h2 := hp i
  split
  · omega
  · exact rch_l n (i + 1) _ _ (by omega) (by omega)
def arr (sp : Nat → Int) (D : Nat) (len : Int) (x : Nat) : Nat := if len = 0 then 61 else rch sp (D - x) x len
theorem arr_m1 {sp : Nat → Int} (hp : ∀ i, 1 ≤ sp i) {D : Nat} (hD : D ≤ 60) {len : Int} {x : Nat} : arr sp D len x ≤ arr sp D len (x + 1) := by
  unfold arr
  by_cases z : len = 0
  · rw [if_pos z, if_pos z]
    exact Nat.le_refl _
  · rw [if_neg z, if_neg z]
    by_cases q : D ≤ x
    · rw [show D - x = 0 from by omega, show D - (x + 1) = 0 from by omega]
      exact Nat.le_refl _
    · obtain ⟨m, hm⟩ : ∃ m, D - (x + 1) = m := ⟨_, rfl⟩
      rw [show D - x = m + 1 from by omega, hm]
      exact rch_s hp m x len (by omega)
theorem arr_m {sp : Nat → Int} (hp : ∀ i, 1 ≤ sp i) {D : Nat} (hD : D ≤ 60) {len : Int} {x : Nat} : ∀ k, arr sp D len x ≤ arr sp D len (x + k)
  | 0 => Nat.le_refl _
  | k + 1 => Nat.le_trans (arr_m hp hD k) (arr_m1 hp hD)
theorem arr_b {sp : Nat → Int} {D : Nat} (hD : D ≤ 60) {len : Int} {x : Nat} : arr sp D len x ≤ 61 ∧ (arr sp D len x < 61 → x < arr sp D len x) := by
  unfold arr
  by_cases z : len = 0
  · rw [if_pos z]
    omega
  · rw [if_neg z]
    by_cases q : D ≤ x
    · rw [show D - x = 0 from by omega]
      show 61 ≤ 61 ∧ (61 < 61 → _)
      omega
    · have := rch_b (sp := sp) (D - x) x len (by omega)
      omega
def upn (d : Nat → Nat) (k v : Nat) : Nat → Nat := fun x => if x = k then v else d x
theorem upn_eq {d : Nat → Nat} {k v : Nat} : upn d k v k = v := if_pos rfl
theorem upn_ne {d : Nat → Nat} {k v j : Nat} (h : j ≠ k) : upn d k v j = d j := if_neg h
def vy1 (f : Nat → Nat → Nat → Nat) (u : Nat) (d : Nat → Nat) : Nat → Nat → Nat
  | 0 => d
  | v + 1 => upn (vy1 f u d v) v (min (vy1 f u d v v) (f u v (vy1 f u d v u)))
def vy2 (f : Nat → Nat → Nat → Nat) (V : Nat) (d : Nat → Nat) : Nat → Nat → Nat
  | 0 => d
  | u + 1 => vy1 f u (vy2 f V d u) V
def vy3 (f : Nat → Nat → Nat → Nat) (V : Nat) (d : Nat → Nat) : Nat → Nat → Nat
  | 0 => d
  | r + 1 => vy2 f V (vy3 f V d r) V
/-- how many villages are below b -/
def cnt (d : Nat → Nat) (b : Nat) : Nat → Nat
  | 0 => 0
  | n + 1 => cnt d b n + (if d n < b then 1 else 0)
theorem cnt_le {d d' : Nat → Nat} {b b' : Nat} : ∀ n, (∀ w, w < n → d w < b → d' w < b') → cnt d b n ≤ cnt d' b' n
  | 0, _ => Nat.le_refl _
  | n + 1, h => by
    have ih := cnt_le n (fun w hw => h w (by omega))
    show cnt d b n + (if d n < b then 1 else 0) ≤ cnt d' b' n + (if d' n < b' then 1 else 0)
    by_cases z : d n < b
    · rw [if_pos z, if_pos (h n (by omega) z)]
      omega
    · rw [if_neg z]
      omega
theorem cnt_lt {d d' : Nat → Nat} {b b' u : Nat} (h1 : ¬ d u < b) (h2 : d' u < b') : ∀ n, u < n → (∀ w, w < n → d w < b → d' w < b') → cnt d b n + 1 ≤ cnt d' b' n
  | 0, h, _ => by omega
  | n + 1, hu, h => by
    show cnt d b n + (if d n < b then 1 else 0) + 1 ≤ cnt d' b' n + (if d' n < b' then 1 else 0)
    by_cases e : u = n
    · subst e
      have := cnt_le (d := d) (d' := d') (b := b) (b' := b') u (fun w hw => h w (by omega))
      rw [if_neg h1, if_pos h2]
      omega
    · have ih := cnt_lt h1 h2 n (by omega) (fun w hw => h w (by omega))
      by_cases z : d n < b
      · rw [if_pos z, if_pos (h n (by omega) z)]
        omega
      · rw [if_neg z]
        omega
theorem cnt_n {d : Nat → Nat} {b : Nat} : ∀ n, cnt d b n ≤ n
  | 0 => Nat.le_refl _
  | n + 1 => by
    have := cnt_n (d := d) (b := b) n
    show cnt d b n + (if d n < b then 1 else 0) ≤ n + 1
    split <;> omega
theorem cnt_x {d : Nat → Nat} {b x : Nat} (h1 : ¬ d x < b) : ∀ n, x < n → cnt d b n < n
  | 0, h => by omega
  | n + 1, h => by
    show cnt d b n + (if d n < b then 1 else 0) < n + 1
    by_cases e : x = n
    · subst e
      have := cnt_n (d := d) (b := b) x
      rw [if_neg h1]
      omega
    · have := cnt_x h1 n (by omega)
      split <;> omega
/-- what an arrival is -/
def Far (f : Nat → Nat → Nat → Nat) : Prop := (∀ u v x, f u v x ≤ 61 ∧ (f u v x < 61 → x < f u v x)) ∧ (∀ u v x k, f u v x ≤ f u v (x + k))
/-- in round r, the pairs ahead of (u, v) done; p: when each came to its number -/
def VI (f : Nat → Nat → Nat → Nat) (V from' r u v : Nat) (d : Nat → Nat) : Prop := ∃ p : Nat → Nat,
  (∀ x, x < V → p x ≤ cnt d (d x) V) ∧
  (∀ x y, x < V → y < V → (x < u ∨ x = u ∧ y < v) → p x < r → d y ≤ f x y (d x)) ∧
  (∀ x y, x < V → y < V → p x + 1 < r → d y ≤ f x y (d x)) ∧
  (∀ y, y < V → y ≠ from' → d y < 61 → ∃ x, x < V ∧ f x y (d x) ≤ d y) ∧
  (∀ x, d x ≤ 61) ∧ d from' = 0
theorem VI_1 {f : Nat → Nat → Nat → Nat} (hf : Far f) {V from' r u v : Nat} {d : Nat → Nat} (hu : u < V) (hv : v < V) (h : VI f V from' r u v d) : VI f V from' r u (v + 1) (upn d v (min (d v) (f u v (d u)))) := by
  obtain ⟨p, h1, h2, h3, h4, h5, h6⟩ := h
  have ha := hf.1 u v (d u)
  by_cases q : f u v (d u) < d v
  · rw [show min (d v) (f u v (d u)) = f u v (d u) from by omega]
    have hdv := h5 v
    have hstr := ha.2 (by omega)
    have huv : u ≠ v := fun e => by subst e; omega
    have hvf : v ≠ from' := fun e => by subst e; omega
    generalize hfa : f u v (d u) = a at *
    have hr : r ≤ p u + 1 := by
      apply Classical.byContradiction
      intro z
      have := h3 u v hu hv (by omega)
      omega
    have hle : ∀ x, upn d v a x ≤ d x := fun x => by
      by_cases e : x = v
      · subst e; rw [upn_eq]; omega
      · rw [upn_ne e]; exact Nat.le_refl _
    refine ⟨upn p v r, fun x hx => ?_, fun x y hx hy hxy hp => ?_, fun x y hx hy hp => ?_, fun y hy hyf hy61 => ?_, fun x => Nat.le_trans (hle x) (h5 x), by rw [upn_ne (by omega)]; exact h6⟩
    · by_cases e : x = v
      · subst e
        rw [upn_eq, upn_eq]
        have c1 := h1 u hu
        have c2 := cnt_lt (d := d) (d' := upn d x a) (b := d u) (b' := a) (u := u) (by omega) (by rw [upn_ne huv]; exact hstr) V hu (fun w hw hwb => by rw [upn_ne (fun e => by subst e; omega)]; omega)
        omega
      · rw [upn_ne e, upn_ne e]
        exact Nat.le_trans (h1 x hx) (cnt_le V (fun w hw hwb => Nat.lt_of_le_of_lt (hle w) hwb))
    · by_cases e : x = v
      · subst e
        rw [upn_eq] at hp
        omega
      · rw [upn_ne e] at hp
        rw [upn_ne e]
        by_cases e2 : y = v
        · subst e2
          rw [upn_eq]
          by_cases e3 : x = u
          · subst e3
            omega
          · have := h2 x y hx hy (by omega) hp
            omega
        · rw [upn_ne e2]
          exact h2 x y hx hy (by omega) hp
    · by_cases e : x = v
      · subst e
        rw [upn_eq] at hp
        omega
      · rw [upn_ne e] at hp
        rw [upn_ne e]
        exact Nat.le_trans (hle y) (h3 x y hx hy hp)
    · by_cases e : y = v
      · subst e
        refine ⟨u, hu, ?_⟩
        rw [upn_eq, upn_ne huv]
        omega
      · rw [upn_ne e] at hy61
        obtain ⟨x, hx, hxy⟩ := h4 y hy hyf hy61
        refine ⟨x, hx, ?_⟩
        rw [upn_ne e]
        obtain ⟨k, hk⟩ : ∃ k, d x = upn d v a x + k := ⟨d x - upn d v a x, by have := hle x; omega⟩
        have := hf.2 x y (upn d v a x) k
        rw [← hk] at this
        omega
  · have e : upn d v (min (d v) (f u v (d u))) = d := by
      rw [show min (d v) (f u v (d u)) = d v from by omega]
      funext x
      by_cases e : x = v
      · subst e; exact upn_eq
      · exact upn_ne e
    rw [e]
    refine ⟨p, h1, fun x y hx hy hxy hp => ?_, h3, h4, h5, h6⟩
    by_cases e2 : x = u ∧ y = v
    · obtain ⟨rfl, rfl⟩ := e2
      omega
    · exact h2 x y hx hy (by omega) hp
theorem VI_v {f : Nat → Nat → Nat → Nat} (hf : Far f) {V from' r u : Nat} {d : Nat → Nat} (hu : u < V) (h : VI f V from' r u 0 d) : ∀ n, n ≤ V → VI f V from' r u n (vy1 f u d n)
  | 0, _ => h
  | n + 1, hn => VI_1 hf hu (by omega) (VI_v hf hu h n (by omega))
theorem VI_u {f : Nat → Nat → Nat → Nat} (hf : Far f) {V from' r : Nat} {d : Nat → Nat} (h : VI f V from' r 0 0 d) : ∀ n, n ≤ V → VI f V from' r n 0 (vy2 f V d n)
  | 0, _ => h
  | n + 1, hn => by
    obtain ⟨p, h1, h2, h3, h4, h5, h6⟩ := VI_v hf (by omega) (VI_u hf h n (by omega)) V (Nat.le_refl _)
    exact ⟨p, h1, fun x y hx hy hxy hp => h2 x y hx hy (by omega) hp, h3, h4, h5, h6⟩
theorem VI_r {f : Nat → Nat → Nat → Nat} (hf : Far f) {V from' : Nat} {d : Nat → Nat} (h : VI f V from' 1 0 0 d) : ∀ n, VI f V from' (n + 1) 0 0 (vy3 f V d n)
  | 0 => h
  | n + 1 => by
    obtain ⟨p, h1, h2, h3, h4, h5, h6⟩ := VI_u hf (VI_r hf h n) V (Nat.le_refl _)
    exact ⟨p, h1, fun x y hx hy hxy hp => by omega, fun x y hx hy hp => h2 x y hx hy (by omega) (by omega), h4, h5, h6⟩
def vy0 (from' : Nat) : Nat → Nat := fun x => if x = from' then 0 else 61
theorem vy_ok {f : Nat → Nat → Nat → Nat} (hf : Far f) {V from' : Nat} (hV : from' < V) : (∀ x, vy3 f V (vy0 from') V x ≤ 61) ∧ vy3 f V (vy0 from') V from' = 0 ∧ ∀ y, y < V → y ≠ from' → vy3 f V (vy0 from') V y < 61 → ∃ x, x < V ∧ f x y (vy3 f V (vy0 from') V x) = vy3 f V (vy0 from') V y := by
  have h0 : VI f V from' 1 0 0 (vy0 from') := by
    refine ⟨fun _ => 0, fun x hx => Nat.zero_le _, fun x y hx hy hxy hp => by omega, fun x y hx hy hp => by omega, fun y hy hyf h61 => ?_, fun x => ?_, if_pos rfl⟩
    · unfold vy0 at h61
      rw [if_neg hyf] at h61
      omega
    · unfold vy0
      split <;> omega
  obtain ⟨p, h1, h2, h3, h4, h5, h6⟩ := VI_r hf h0 V
  refine ⟨h5, h6, fun y hy hyf h61 => ?_⟩
  obtain ⟨x, hx, hxy⟩ := h4 y hy hyf h61
  refine ⟨x, hx, ?_⟩
  have c1 := h1 x hx
  have c2 := cnt_x (d := vy3 f V (vy0 from') V) (b := vy3 f V (vy0 from') V x) (x := x) (by omega) V hx
  have := h3 x y hx hy (by omega)
  omega
/-- speeds, ways -/
def spV (E : En) (w f : Int) : Int := max 1 (if w ≠ -1 ∧ eQ E w.toNat < 2 then (1 + f) / 2 else 1 + f)
def spd (E : En) (c : Co) (n : Nat) : Int := spV E (passF E (pasN E c n)).2.1 (passF E (pasN E c n)).2.2.1
theorem spd_1 {E : En} {c : Co} (n : Nat) : 1 ≤ spd E c n := by
  unfold spd spV
  omega
def ways (a : Nat → Int) (u v : Nat) : Int := a (84 + 6 * u + v)
def fAr (E : En) (c : Co) (a : Nat → Int) (u v x : Nat) : Nat := arr (spd E c) (canN c 60) (ways a u v) x
theorem canN60 {c : Co} : canN c 60 ≤ 60 := by unfold canN; omega
theorem fAr_far {E : En} {c : Co} {a : Nat → Int} : Far (fAr E c a) := ⟨fun _ _ _ => arr_b canN60, fun _ _ _ k => arr_m spd_1 canN60 k⟩
def vyF (E : En) (c : Co) (a : Nat → Int) (from' : Nat) : Nat → Nat := vy3 (fAr E c a) (eV E) (vy0 from') (eV E)
def vfst (E : En) (c : Co) (a : Nat → Int) (d : Nat → Nat) (t : Nat) : Nat → Nat → Int
  | 0, _ => -1
  | n + 1, u => if fAr E c a u t (d u) = d t then (u : Int) else vfst E c a d t n (u + 1)
def qVoyage (f t l : Int32) (E : En) (c : Co) (a : Nat → Int) : Int := if (0 ≤ f.toInt ∧ f.toInt < eV E) ∧ (0 ≤ t.toInt ∧ t.toInt < eV E) then (if f.toInt = t.toInt then (if l = 0 then 0 else -1) else if vyF E c a (ix f) (ix t) = 61 then -2 else if l = 0 then (vyF E c a (ix f) (ix t) : Int) else vfst E c a (vyF E c a (ix f)) (ix t) (eV E) 0) else -2
theorem vy1_b {f : Nat → Nat → Nat → Nat} {u : Nat} {d : Nat → Nat} (h : ∀ x, d x ≤ 61) : ∀ n x, vy1 f u d n x ≤ 61
  | 0, x => h x
  | n + 1, x => by
    have ih := vy1_b (f := f) (u := u) h n
    show upn _ _ _ x ≤ 61
    by_cases e : x = n
    · subst e
      rw [upn_eq]
      have := ih x
      omega
    · rw [upn_ne e]
      exact ih x
theorem vy2_b {f : Nat → Nat → Nat → Nat} {V : Nat} {d : Nat → Nat} (h : ∀ x, d x ≤ 61) : ∀ n x, vy2 f V d n x ≤ 61
  | 0, x => h x
  | n + 1, x => vy1_b (vy2_b h n) V x
theorem vy3_b {f : Nat → Nat → Nat → Nat} {V : Nat} {d : Nat → Nat} (h : ∀ x, d x ≤ 61) : ∀ n x, vy3 f V d n x ≤ 61
  | 0, x => h x
  | n + 1, x => vy2_b (vy3_b h n) V x
theorem vy0_b {f x : Nat} : vy0 f x ≤ 61 := by
  unfold vy0
  split <;> omega
