/-! THE LAWS' MEANING: worlds' data that no day changes (winds, villages, quarters, roofs, laws of the ruling text); evaluation over two stacks -/
abbrev En : Type := Nat × Nat × (Nat → Int) × (Nat → Int) × (Nat → Option (List (Int × Int)))
def eN (E : En) : Nat := E.1
def eV (E : En) : Nat := E.2.1
def eQ (E : En) : Nat → Int := E.2.2.1
def eR (E : En) : Nat → Int := E.2.2.2.1
def eL (E : En) : Nat → Option (List (Int × Int)) := E.2.2.2.2
def clip (v : Int) : Int := if v < -1000000 then -1000000 else if 1000000 < v then 1000000 else v
def clamp (lo hi v : Int) : Int := if v < lo then lo else if hi < v then hi else v
def nmv (E : En) (c : Co) (w v f : Int) (k : Int) : Int :=
  if k = 0 then c 42 else if k = 5 then f else
  if k = 6 then (if v < 0 then 0 else eR E v.toNat) else if k = 7 then (if v < 0 then 0 else c (30 + v.toNat)) else
  if w < 0 then 0 else if k = 1 then eQ E w.toNat else if k = 2 then c w.toNat else if k = 3 then c (18 + w.toNat) else c (12 + w.toNat)
def dbt (E : En) (c : Co) (a : Int) : Int := if 0 ≤ a ∧ a < eN E then c a.toNat else 0
def rnd (a s : Int) : Int := if s = 0 then a else if a - a / s * s < a / s * s + s - a then a / s * s else a / s * s + s
def tw (o x y : Int) : Int := if o = 4 then x + y else if o = 5 then x - y else if o = 6 then x * y else if o = 7 then (if y = 0 then 0 else x.tdiv y) else rnd x (iabs y)
def cmq (o x y : Int) : Bool := if o = 10 then decide (x < y) else if o = 11 then decide (x ≤ y) else if o = 12 then decide (y < x) else if o = 13 then decide (y ≤ x) else if o = 14 then decide (x = y) else decide (x ≠ y)
def bi (b : Bool) : Int := cond b 1 0
def stp (E : En) (c : Co) (w v f : Int) (o a : Int) (s : List Int × List Int) : List Int × List Int :=
  if o = 0 then (a :: s.1, s.2) else if o = 1 then (nmv E c w v f a :: s.1, s.2) else
  if o = 2 then (dbt E c (s.1.headD 0) :: s.1.tail, s.2) else if o = 3 then (-(s.1.headD 0) :: s.1.tail, s.2) else
  if o < 10 then (clip (tw o (s.1.tail.headD 0) (s.1.headD 0)) :: s.1.tail.tail, s.2) else
  if o < 20 then (s.1.tail.tail, bi (cmq o (s.1.tail.headD 0) (s.1.headD 0)) :: s.2) else
  if o = 20 then (s.1, (1 - s.2.headD 0) :: s.2.tail) else
  if o = 21 then (s.1, (min (s.2.tail.headD 0) (s.2.headD 0)) :: s.2.tail.tail) else (s.1, (max (s.2.tail.headD 0) (s.2.headD 0)) :: s.2.tail.tail)
def evl (E : En) (c : Co) (w v f : Int) : List (Int × Int) → List Int × List Int → List Int × List Int
  | [], s => s
  | (o, a) :: r, s => evl E c w v f r (stp E c w v f o a s)
/-- a law's code is such that it reckons: l the law, a values and b truths ahead, a', b' behind -/
def Wf (l : Nat) : List (Int × Int) → Nat → Nat → Nat → Nat → Prop
  | [], a, b, a', b' => a = a' ∧ b = b'
  | (o, v) :: r, a, b, a', b' =>
    (o = 0 ∧ 0 ≤ v ∧ v ≤ 9999 ∧ a + b < 60 ∧ Wf l r (a + 1) b a' b') ∨
    (o = 1 ∧ 0 ≤ v ∧ v < 8 ∧ (6 ≤ v → l = 2 ∨ l = 3) ∧ a + b < 60 ∧ Wf l r (a + 1) b a' b') ∨
    ((o = 2 ∨ o = 3) ∧ 1 ≤ a ∧ Wf l r a b a' b') ∨
    (4 ≤ o ∧ o ≤ 8 ∧ 2 ≤ a ∧ Wf l r (a - 1) b a' b') ∨
    (10 ≤ o ∧ o ≤ 15 ∧ a = 2 ∧ Wf l r 0 (b + 1) a' b') ∨
    (o = 20 ∧ a = 0 ∧ 1 ≤ b ∧ Wf l r 0 b a' b') ∨
    ((o = 21 ∨ o = 22) ∧ a = 0 ∧ 2 ≤ b ∧ Wf l r 0 (b - 1) a' b')
/-- what stands in the class's code for (o, v) -/
def enc (o v : Int) : Int := if o = 0 then v else if o = 1 then 10000 + v else if o = 2 then 10010 else if o = 3 then 10009 else if o = 4 then 10019 else if o = 5 then 10020 else if o = 6 then 10021 else if o = 7 then 10022 else if o = 8 then 10023 else if o < 20 then o + 10003 else if o = 20 then 10008 else if o = 21 then 10012 else 10011
def lawE (E : En) (c : Co) (l : Nat) (w v f : Int) (ops : List (Int × Int)) : Int := if l = 0 then (evl E c w v f ops ([], [])).2.headD 0 else (evl E c w v f ops ([], [])).1.headD 0
def comesF (E : En) (c : Co) (w : Nat) : Bool := match eL E 0 with
  | none => true
  | some ops => decide (lawE E c 0 w (-1) (c (6 + w)) ops ≠ 0)
def blowsF (E : En) (c : Co) (w : Nat) : Int := clamp 0 9 (match eL E 1 with
  | none => (c w).tdiv 10
  | some ops => lawE E c 1 w (-1) (c (6 + w)) ops)
def duesF (E : En) (c : Co) (w : Nat) : Int := clamp 0 99 (match eL E 4 with
  | none => c (18 + w)
  | some ops => lawE E c 4 w (-1) (c (6 + w)) ops)
def takesF (E : En) (c : Co) (w v : Nat) (f : Int) : Int := clamp 0 99 (match eL E 2 with
  | none => f - eR E v
  | some ops => lawE E c 2 w v f ops)
def catchF (E : En) (c : Co) (w : Int) (v : Nat) (f : Int) : Int := clamp 0 99 (match eL E 3 with
  | none => if w = -1 then 0 else 3
  | some ops => lawE E c 3 w v f ops)
theorem clamp_r {lo hi v : Int} (h : lo ≤ hi) : lo ≤ clamp lo hi v ∧ clamp lo hi v ≤ hi := by
  unfold clamp
  repeat' split
  all_goals omega
/-- the core's bounds: n winds, nv villages -/
def Ok (E : En) (c : Co) : Prop := eN E ≤ 6 ∧ eV E ≤ 6 ∧ (0 ≤ c 42 ∧ c 42 ≤ 9999) ∧ (0 ≤ c 43 ∧ c 43 < 30427) ∧
  (∀ w, w < eN E → (0 ≤ eQ E w ∧ eQ E w ≤ 3) ∧ (-999 ≤ c w ∧ c w ≤ 9999) ∧ (0 ≤ c (6 + w) ∧ c (6 + w) ≤ 9) ∧ (1 ≤ c (12 + w) ∧ c (12 + w) ≤ 99) ∧ (0 ≤ c (18 + w) ∧ c (18 + w) ≤ 999) ∧ (c (24 + w) = 0 ∨ c (24 + w) = 1)) ∧
  (∀ v, v < eV E → (0 ≤ eR E v ∧ eR E v ≤ 9) ∧ (0 ≤ c (30 + v) ∧ c (30 + v) ≤ 9999))
def LwOk (E : En) : Prop := ∀ l ops, l < 5 → eL E l = some ops → ops.length ≤ 300 ∧ Wf l ops 0 0 (if l = 0 then 0 else 1) (if l = 0 then 1 else 0)
def Bv (l : List Int) : Prop := ∀ x, x ∈ l → -1000000 ≤ x ∧ x ≤ 1000000
def Bt (l : List Int) : Prop := ∀ x, x ∈ l → x = 0 ∨ x = 1
theorem Bv.cons {x : Int} {l : List Int} (h : -1000000 ≤ x ∧ x ≤ 1000000) (g : Bv l) : Bv (x :: l) := by
  intro y hy
  rcases List.mem_cons.mp hy with rfl | hy
  · exact h
  · exact g y hy
theorem Bt.cons {x : Int} {l : List Int} (h : x = 0 ∨ x = 1) (g : Bt l) : Bt (x :: l) := by
  intro y hy
  rcases List.mem_cons.mp hy with rfl | hy
  · exact h
  · exact g y hy
theorem clip_r (v : Int) : -1000000 ≤ clip v ∧ clip v ≤ 1000000 := by
  unfold clip
  repeat' split
  all_goals omega
theorem nmv_r {E : En} {c : Co} (hO : Ok E c) {w v f k : Int} (hw : w = -1 ∨ (0 ≤ w ∧ w < eN E)) (hv : v = -1 ∨ (0 ≤ v ∧ v < eV E)) (hf : 0 ≤ f ∧ f ≤ 9) : -1000000 ≤ nmv E c w v f k ∧ nmv E c w v f k ≤ 1000000 := by
  obtain ⟨h1, h2, h3, h4, h6, h7⟩ := hO
  unfold nmv
  have a1 : ∀ (_ : ¬ w < 0), w.toNat < eN E := fun q => by omega
  have a2 : ∀ (_ : ¬ v < 0), v.toNat < eV E := fun q => by omega
  repeat' split
  all_goals try omega
  all_goals first
    | (have := h6 _ (a1 (by assumption)); omega)
    | (have := h7 _ (a2 (by assumption)); omega)
theorem dbt_r {E : En} {c : Co} (hO : Ok E c) (a : Int) : -1000000 ≤ dbt E c a ∧ dbt E c a ≤ 1000000 := by
  obtain ⟨h1, h2, h3, h4, h6, h7⟩ := hO
  unfold dbt
  split
  · have := h6 a.toNat (by omega)
    omega
  · omega
theorem bi_r (b : Bool) : bi b = 0 ∨ bi b = 1 := by cases b <;> simp [bi]
/-! A DAY -/
def wsum (c : Co) : Nat → Int
  | 0 => 0
  | w + 1 => wsum c w + (if c (24 + w) = 0 then c (12 + w) else 0)
def drw (c : Co) (x : Int) : Nat → Nat → Nat
  | 0, w => w
  | n + 1, w => if x < wsum c (w + 1) then w else drw c x n (w + 1)
def dueS (E : En) (c : Co) : Nat → Co
  | 0 => c
  | w + 1 => if dueS E c w (24 + w) = 0 then upc (dueS E c w) w (min 9999 (dueS E c w w + duesF E (dueS E c w) w)) else dueS E c w
def dueF (E : En) (c : Co) : Co := if c 42 % 7 = 0 then dueS E c (eN E) else c
def nextX (x : Int) : Int := (x * 353 + 233) % 30427
/-- the core, which wind comes (-1: calm), how hard -/
def blowS (E : En) (c : Co) : Co × Int × Int :=
  if wsum c (eN E) = 0 then (c, -1, 0) else
    let w := drw c (c 43 % wsum c (eN E)) (eN E) 0
    let c1 := upc c 43 (nextX (c 43))
    let f := if comesF E c1 w then blowsF E c1 w else 0
    (upc c1 (6 + w) f, if 0 < f then (w : Int) else -1, f)
def takeP (E : En) (w f : Int) (c : Co) (v : Nat) : Co := if w = -1 then c else upc (upc c (30 + v) (max 0 (c (30 + v) - takesF E c w.toNat v f))) (36 + v) (c (36 + v) + takesF E c w.toNat v f)
def takeQ (E : En) (w f : Int) (c : Co) (v : Nat) : Co := upc c (30 + v) (min 9999 (c (30 + v) + catchF E c w v f))
def takeS (E : En) (w f : Int) (c : Co) : Nat → Co × Int
  | 0 => (c, 0)
  | v + 1 => (takeQ E w f (takeP E w f (takeS E w f c v).1 v) v, (takeS E w f c v).2 + if w = -1 then 0 else takesF E (takeS E w f c v).1 w.toNat v f)
/-- the core, the wind, the force, what it took -/
def passF (E : En) (c : Co) : Co × Int × Int × Int :=
  let b := blowS E (dueF E c)
  let t := takeS E b.2.1 b.2.2 b.1 (eV E)
  (upc t.1 42 (t.1 42 + 1), b.2.1, b.2.2, t.2)
def TkOk (E : En) (c : Co) : Prop := ∀ v, v < eV E → 0 ≤ c (36 + v) ∧ c (36 + v) ≤ 99 * c 42
theorem Ok.gen {E : En} {c c' : Co} (h : Ok E c) (h42 : 0 ≤ c' 42 ∧ c' 42 ≤ 9999) (h43 : 0 ≤ c' 43 ∧ c' 43 < 30427) (hw : ∀ w, w < eN E → (-999 ≤ c' w ∧ c' w ≤ 9999) ∧ (0 ≤ c' (6 + w) ∧ c' (6 + w) ≤ 9) ∧ (1 ≤ c' (12 + w) ∧ c' (12 + w) ≤ 99) ∧ (0 ≤ c' (18 + w) ∧ c' (18 + w) ≤ 999) ∧ (c' (24 + w) = 0 ∨ c' (24 + w) = 1)) (hv : ∀ v, v < eV E → 0 ≤ c' (30 + v) ∧ c' (30 + v) ≤ 9999) : Ok E c' :=
  ⟨h.1, h.2.1, h42, h43, fun w q => ⟨(h.2.2.2.2.1 w q).1, hw w q⟩, fun v q => ⟨(h.2.2.2.2.2 v q).1, hv v q⟩⟩
theorem Ok.w {E : En} {c : Co} (h : Ok E c) {w : Nat} (q : w < eN E) : (-999 ≤ c w ∧ c w ≤ 9999) ∧ (0 ≤ c (6 + w) ∧ c (6 + w) ≤ 9) ∧ (1 ≤ c (12 + w) ∧ c (12 + w) ≤ 99) ∧ (0 ≤ c (18 + w) ∧ c (18 + w) ≤ 999) ∧ (c (24 + w) = 0 ∨ c (24 + w) = 1) := (h.2.2.2.2.1 w q).2
theorem Ok.v {E : En} {c : Co} (h : Ok E c) {v : Nat} (q : v < eV E) : 0 ≤ c (30 + v) ∧ c (30 + v) ≤ 9999 := (h.2.2.2.2.2 v q).2
theorem Ok.O {E : En} {c : Co} (h : Ok E c) {w : Nat} {x : Int} (hw : w < 6) (hx : -999 ≤ x ∧ x ≤ 9999) : Ok E (upc c w x) := by
  have u : ∀ k, 6 ≤ k → upc c w x k = c k := fun k hk => upc_ne (by omega)
  refine Ok.gen h (by rw [u _ (by omega)]; exact h.2.2.1) (by rw [u _ (by omega)]; exact h.2.2.2.1) (fun w' hw' => ?_) (fun v hv => by rw [u _ (by omega)]; exact h.v hv)
  have := h.w hw'
  rw [u (6 + w') (by omega), u (12 + w') (by omega), u (18 + w') (by omega), u (24 + w') (by omega)]
  refine ⟨?_, this.2⟩
  unfold upc
  split
  · exact hx
  · exact this.1
theorem Ok.F {E : En} {c : Co} (h : Ok E c) {w : Nat} {x : Int} (hw : w < 6) (hx : 0 ≤ x ∧ x ≤ 9) : Ok E (upc c (6 + w) x) := by
  have u : ∀ k, k < 6 ∨ 12 ≤ k → upc c (6 + w) x k = c k := fun k hk => upc_ne (by omega)
  have hn := h.1
  refine Ok.gen h (by rw [u _ (by omega)]; exact h.2.2.1) (by rw [u _ (by omega)]; exact h.2.2.2.1) (fun w' hw' => ?_) (fun v hv => by rw [u _ (by omega)]; exact h.v hv)
  have := h.w hw'
  rw [u w' (by omega), u (12 + w') (by omega), u (18 + w') (by omega), u (24 + w') (by omega)]
  refine ⟨this.1, ?_, this.2.2⟩
  unfold upc
  split
  · exact hx
  · exact this.2.1
theorem Ok.P {E : En} {c : Co} (h : Ok E c) {w : Nat} {x : Int} (hw : w < 6) (hx : 0 ≤ x ∧ x ≤ 9999) : Ok E (upc c (30 + w) x) := by
  have u : ∀ k, k < 30 ∨ 36 ≤ k → upc c (30 + w) x k = c k := fun k hk => upc_ne (by omega)
  have hn := h.1
  refine Ok.gen h (by rw [u _ (by omega)]; exact h.2.2.1) (by rw [u _ (by omega)]; exact h.2.2.2.1) (fun w' hw' => ?_) (fun v hv => ?_)
  · rw [u w' (by omega), u (6 + w') (by omega), u (12 + w') (by omega), u (18 + w') (by omega), u (24 + w') (by omega)]
    exact h.w hw'
  · unfold upc
    split
    · exact hx
    · exact h.v hv
theorem Ok.T {E : En} {c : Co} (h : Ok E c) {k : Nat} {x : Int} (hk : 36 ≤ k ∧ k < 42) : Ok E (upc c k x) := by
  have u : ∀ j, j < 36 ∨ 42 ≤ j → upc c k x j = c j := fun j hj => upc_ne (by omega)
  have hn := h.1
  have hv := h.2.1
  refine Ok.gen h (by rw [u _ (by omega)]; exact h.2.2.1) (by rw [u _ (by omega)]; exact h.2.2.2.1) (fun w' hw' => ?_) (fun v hv => by rw [u _ (by omega)]; exact h.v hv)
  rw [u w' (by omega), u (6 + w') (by omega), u (12 + w') (by omega), u (18 + w') (by omega), u (24 + w') (by omega)]
  exact h.w hw'
theorem Ok.X {E : En} {c : Co} (h : Ok E c) {x : Int} (hx : 0 ≤ x ∧ x < 30427) : Ok E (upc c 43 x) := by
  have u : ∀ j, j < 43 → upc c 43 x j = c j := fun j hj => upc_ne (by omega)
  have hn := h.1
  have hv := h.2.1
  refine Ok.gen h (by rw [u _ (by omega)]; exact h.2.2.1) (by rw [upc_eq]; exact hx) (fun w' hw' => ?_) (fun v hv => by rw [u _ (by omega)]; exact h.v hv)
  rw [u w' (by omega), u (6 + w') (by omega), u (12 + w') (by omega), u (18 + w') (by omega), u (24 + w') (by omega)]
  exact h.w hw'
theorem Ok.D {E : En} {c : Co} (h : Ok E c) {x : Int} (hx : 0 ≤ x ∧ x ≤ 9999) : Ok E (upc c 42 x) := by
  have u : ∀ j, j ≠ 42 → upc c 42 x j = c j := fun j hj => upc_ne hj
  have hn := h.1
  have hv := h.2.1
  refine Ok.gen h (by rw [upc_eq]; exact hx) (by rw [u _ (by omega)]; exact h.2.2.2.1) (fun w' hw' => ?_) (fun v hv => by rw [u _ (by omega)]; exact h.v hv)
  rw [u w' (by omega), u (6 + w') (by omega), u (12 + w') (by omega), u (18 + w') (by omega), u (24 + w') (by omega)]
  exact h.w hw'
theorem wsum_r {E : En} {c : Co} (h : Ok E c) : ∀ n, n ≤ eN E → 0 ≤ wsum c n ∧ wsum c n ≤ 99 * n
  | 0, _ => ⟨Int.le_refl _, by show (0 : Int) ≤ _; omega⟩
  | n + 1, hn => by
    have ih := wsum_r h n (by omega)
    have := (h.w (w := n) (by omega)).2.2.1
    show 0 ≤ wsum c n + _ ∧ wsum c n + _ ≤ _
    split <;> omega
theorem nextX_r (x : Int) : 0 ≤ nextX x ∧ nextX x < 30427 := by unfold nextX; omega
theorem drw_r {c : Co} {x : Int} : ∀ n w, x < wsum c (w + n) → 1 ≤ n → w ≤ drw c x n w ∧ drw c x n w < w + n
  | 0, w, _, h1 => by omega
  | 1, w, hx, _ => by
    have hx : x < wsum c (w + 1) := hx
    show w ≤ (if _ then _ else _) ∧ (if _ then _ else _) < _
    rw [if_pos hx]
    omega
  | n + 2, w, hx, _ => by
    show w ≤ (if x < wsum c (w + 1) then w else drw c x (n + 1) (w + 1)) ∧ (if x < wsum c (w + 1) then w else drw c x (n + 1) (w + 1)) < _
    split
    · omega
    · have := drw_r (c := c) (x := x) (n + 1) (w + 1) (by rw [show w + 1 + (n + 1) = w + (n + 2) from by omega]; exact hx) (by omega)
      omega
theorem dueS_ok {E : En} {c : Co} (h : Ok E c) : ∀ n, n ≤ eN E → Ok E (dueS E c n) ∧ (∀ k, 6 ≤ k → dueS E c n k = c k)
  | 0, _ => ⟨h, fun _ _ => rfl⟩
  | n + 1, hn => by
    obtain ⟨ih, ih2⟩ := dueS_ok h n (by omega)
    have h6 := h.1
    have hO := (ih.w (w := n) (by omega)).1
    have hD : 0 ≤ duesF E (dueS E c n) n ∧ duesF E (dueS E c n) n ≤ 99 := clamp_r (by omega)
    have eS : dueS E c (n + 1) = if dueS E c n (24 + n) = 0 then upc (dueS E c n) n (min 9999 (dueS E c n n + duesF E (dueS E c n) n)) else dueS E c n := rfl
    by_cases z : dueS E c n (24 + n) = 0
    · rw [eS, if_pos z]
      exact ⟨ih.O (by omega) (by omega), fun k hk => by rw [upc_ne (by omega)]; exact ih2 k hk⟩
    · rw [eS, if_neg z]
      exact ⟨ih, ih2⟩
theorem dueF_ok {E : En} {c : Co} (h : Ok E c) : Ok E (dueF E c) ∧ (∀ k, 6 ≤ k → dueF E c k = c k) := by
  unfold dueF
  split
  · exact dueS_ok h _ (Nat.le_refl _)
  · exact ⟨h, fun _ _ => rfl⟩
theorem drawn_r {E : En} {c : Co} (h : Ok E c) (h0 : wsum c (eN E) ≠ 0) : drw c (c 43 % wsum c (eN E)) (eN E) 0 < eN E := by
  have h1 := wsum_r h (eN E) (Nat.le_refl _)
  have h2 := Int.emod_lt_of_pos (c 43) (by omega : 0 < wsum c (eN E))
  have h3 : 1 ≤ eN E := by
    match hq : eN E with
    | 0 => rw [hq] at h0; exact absurd rfl h0
    | n + 1 => omega
  have := drw_r (c := c) (x := c 43 % wsum c (eN E)) (eN E) 0 (by rw [Nat.zero_add]; exact h2) h3
  omega
theorem blowS_ok {E : En} {c : Co} (h : Ok E c) : Ok E (blowS E c).1 ∧ ((blowS E c).2.1 = -1 ∧ (blowS E c).2.2 = 0 ∨ (0 ≤ (blowS E c).2.1 ∧ (blowS E c).2.1 < eN E)) ∧ (0 ≤ (blowS E c).2.2 ∧ (blowS E c).2.2 ≤ 9) ∧ (∀ k, k < 6 ∨ (12 ≤ k ∧ k ≠ 43) → (blowS E c).1 k = c k) := by
  unfold blowS
  split
  · exact ⟨h, Or.inl ⟨rfl, rfl⟩, ⟨Int.le_refl _, (by decide : (0 : Int) ≤ 9)⟩, fun _ _ => rfl⟩
  next h0 =>
    have hd := drawn_r h h0
    have h6 := h.1
    generalize drw c (c 43 % wsum c (eN E)) (eN E) 0 = w at hd
    have hx := h.X (nextX_r (c 43))
    generalize hc1 : upc c 43 (nextX (c 43)) = c1 at hx
    have hf : 0 ≤ (if comesF E c1 w then blowsF E c1 w else 0) ∧ (if comesF E c1 w then blowsF E c1 w else 0) ≤ 9 := by
      split
      · exact clamp_r (by omega)
      · omega
    dsimp only
    generalize (if comesF E c1 w then blowsF E c1 w else 0) = f at hf
    refine ⟨hx.F (by omega) hf, ?_, hf, fun k hk => ?_⟩
    · split <;> omega
    · rw [upc_ne (by omega), ← hc1, upc_ne (by omega)]
theorem takeP_ok {E : En} {c : Co} {w f : Int} {v : Nat} (h : Ok E c) (hv : v < eV E) : Ok E (takeP E w f c v) ∧ (∀ k, k ≠ 30 + v → k ≠ 36 + v → takeP E w f c v k = c k) ∧ takeP E w f c v (36 + v) = c (36 + v) + (if w = -1 then 0 else takesF E c w.toNat v f) := by
  unfold takeP
  have hp := h.v hv
  have h6 := h.2.1
  have ht : 0 ≤ takesF E c w.toNat v f ∧ takesF E c w.toNat v f ≤ 99 := clamp_r (by omega)
  split
  · exact ⟨h, fun _ _ _ => rfl, by omega⟩
  · refine ⟨(h.P (by omega) (by omega)).T (by omega), fun k h1 h2 => ?_, by rw [upc_eq]⟩
    rw [upc_ne h2, upc_ne h1]
theorem takeQ_ok {E : En} {c : Co} {w f : Int} {v : Nat} (h : Ok E c) (hv : v < eV E) : Ok E (takeQ E w f c v) ∧ (∀ k, k ≠ 30 + v → takeQ E w f c v k = c k) := by
  unfold takeQ
  have hp := h.v hv
  have h6 := h.2.1
  have ht : 0 ≤ catchF E c w v f ∧ catchF E c w v f ≤ 99 := clamp_r (by omega)
  exact ⟨h.P (by omega) (by omega), fun k h1 => upc_ne h1⟩
theorem takeS_ok {E : En} {c : Co} {w f : Int} (h : Ok E c) : ∀ n, n ≤ eV E → Ok E (takeS E w f c n).1 ∧ (∀ k, (k < 30 ∨ 42 ≤ k ∨ (36 + n ≤ k ∧ k < 42)) → (takeS E w f c n).1 k = c k) ∧ (0 ≤ (takeS E w f c n).2 ∧ (takeS E w f c n).2 ≤ 99 * n) ∧ (∀ v, v < n → c (36 + v) ≤ (takeS E w f c n).1 (36 + v) ∧ (takeS E w f c n).1 (36 + v) ≤ c (36 + v) + 99)
  | 0, _ => ⟨h, fun _ _ => rfl, ⟨Int.le_refl _, by show (0 : Int) ≤ _; omega⟩, fun v hv => by omega⟩
  | n + 1, hn => by
    obtain ⟨i1, i2, i3, i4⟩ := takeS_ok (w := w) (f := f) h n (by omega)
    have h6 := h.2.1
    show Ok E (takeQ E w f (takeP E w f (takeS E w f c n).1 n) n) ∧ (∀ k, _ → takeQ E w f (takeP E w f (takeS E w f c n).1 n) n k = c k) ∧ (0 ≤ (takeS E w f c n).2 + _ ∧ (takeS E w f c n).2 + _ ≤ _) ∧ (∀ v, v < n + 1 → c (36 + v) ≤ takeQ E w f (takeP E w f (takeS E w f c n).1 n) n (36 + v) ∧ takeQ E w f (takeP E w f (takeS E w f c n).1 n) n (36 + v) ≤ c (36 + v) + 99)
    have ht : 0 ≤ takesF E (takeS E w f c n).1 w.toNat n f ∧ takesF E (takeS E w f c n).1 w.toNat n f ≤ 99 := clamp_r (by omega)
    generalize (takeS E w f c n).1 = c1 at i1 i2 i4 ht
    generalize (takeS E w f c n).2 = s at i3
    obtain ⟨p1, p2, p3⟩ := takeP_ok (w := w) (f := f) i1 (v := n) (by omega)
    obtain ⟨q1, q2⟩ := takeQ_ok (w := w) (f := f) p1 (v := n) (by omega)
    refine ⟨q1, fun k hk => ?_, ?_, fun v hv => ?_⟩
    · rw [q2 k (by omega), p2 k (by omega) (by omega), i2 k (by omega)]
    · split <;> omega
    · rw [q2 _ (by omega)]
      by_cases e : v = n
      · subst e
        rw [p3, i2 _ (by omega)]
        split <;> omega
      · rw [p2 _ (by omega) (by omega)]
        exact i4 v (by omega)
/-- what a day leaves as it was, and its bounds -/
theorem passF_ok {E : En} {c : Co} (h : Ok E c) (hT : TkOk E c) (h9 : c 42 < 9999) : Ok E (passF E c).1 ∧ TkOk E (passF E c).1 ∧ (passF E c).1 42 = c 42 + 1 ∧ ((passF E c).2.1 = -1 ∧ (passF E c).2.2.1 = 0 ∨ (0 ≤ (passF E c).2.1 ∧ (passF E c).2.1 < eN E)) ∧ (0 ≤ (passF E c).2.2.1 ∧ (passF E c).2.2.1 ≤ 9) ∧ (0 ≤ (passF E c).2.2.2 ∧ (passF E c).2.2.2 ≤ 594) ∧ (∀ k, 12 ≤ k → k < 30 → (passF E c).1 k = c k) ∧ (∀ k, 44 ≤ k → (passF E c).1 k = c k) := by
  obtain ⟨d1, d2⟩ := dueF_ok h
  obtain ⟨b1, b2, b3, b4⟩ := blowS_ok d1
  obtain ⟨t1, t2, t3, t4⟩ := takeS_ok (w := (blowS E (dueF E c)).2.1) (f := (blowS E (dueF E c)).2.2) b1 (eV E) (Nat.le_refl _)
  have h6 := h.2.1
  have hD := h.2.2.1
  unfold passF
  dsimp only
  generalize hb : blowS E (dueF E c) = b at b1 b2 b3 b4 t1 t2 t3 t4 ⊢
  have e42 : (takeS E b.2.1 b.2.2 b.1 (eV E)).1 42 = c 42 := by rw [t2 42 (by omega), b4 42 (by omega), d2 42 (by omega)]
  refine ⟨t1.D (by omega), fun v hv => ?_, by rw [upc_eq, e42], b2, b3, by omega, fun k k1 k2 => ?_, fun k k1 => ?_⟩
  · rw [upc_ne (by omega), upc_eq, e42]
    have a1 := t4 v hv
    rw [b4 (36 + v) (by omega), d2 (36 + v) (by omega)] at a1
    have := hT v hv
    omega
  · rw [upc_ne (by omega), t2 k (by omega), b4 k (by omega), d2 k (by omega)]
  · rw [upc_ne (by omega), t2 k (by omega), b4 k (by omega), d2 k (by omega)]
