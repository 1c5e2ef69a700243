/-! THE LAW from its entry, out of the pure machine. -/
def b0 (cap : Nat) (call : Cl) (c : Ct) : Ct := o_new false cap 10 (o_dup (o_ini false cap call nX_init 0 (o_as 1 (o_new false cap 11 (o_dup (o_ini false cap call nM_init 0 (o_as 2 (o_ic 0 (o_is 3 c)))))))))
theorem b0_ok {cap : Nat} {call : Cl} {Φ : Po} {J : Nat → Ct} (A : Act false cap call Φ "OwedToWindsLaw" "law" code 4 (some .boolean) J) {c : Ct} (h : LE c (J 18)) : LE (b0 cap call c) (J 0) :=
  g_new A (dcg dY_law_0 0 rfl) lkY_7 (g_dup A (dcg dY_law_0 1 rfl) (g_ini A (dcg dY_law_0 2 rfl) lkY_9 (g_asn A (dcg dY_law_7 0 rfl) rfl (by decide) (g_new A (dcg dY_law_7 1 rfl) lkY_10 (g_dup A (dcg dY_law_7 2 rfl) (g_ini A (dcg dY_law_7 3 rfl) lkY_12 (g_asn A (dcg dY_law_15 0 rfl) rfl (by decide) (g_ic A (dcg dY_law_15 1 rfl) lic_0 (g_isn A (dcg dY_law_15 2 rfl) rfl (by decide) h)))))))))
def ΦL : Po := fun v _ => v = some (.int 1)
/-- all is made: what never changes holds what it is to hold -/
def Fixed (σ : Sg) : Prop := ∀ a k v, keptR a k = some v → gR σ a k = v
theorem rfx_fixed {σ : Sg} (h : Fixed σ) (a k : Nat) : rfx true σ a k = rfx false σ a k := by
  show (keptR a k).getD (gR σ a k) = gR σ a k
  cases hk : keptR a k with
  | none => rfl
  | some v => exact (h a k v hk).symm
theorem entL_fixed {ad : Nat → Nat} {σ : Sg} (h : Fixed σ) (a : Nat) : ∀ (ks : List Nat) (k0 : Nat), entL ad true σ a k0 ks = entL ad false σ a k0 ks
  | [], _ => rfl
  | kd :: ks, k0 => by
    have hF : entF ad true σ a k0 kd = entF ad false σ a k0 kd := by unfold entF; rw [rfx_fixed h]
    simp only [entL, hF, entL_fixed h a ks (k0 + 1)]
theorem ent_fixed {ad : Nat → Nat} {tA : Nat → ClassId} {σ : Sg} (h : Fixed σ) (a : Nat) : ent ad tA true σ a = ent ad tA false σ a := by
  have e3 : (fun j => rr ad (rfx true σ a j)) = fun j => rr ad (rfx false σ a j) := funext fun j => by rw [rfx_fixed h]
  unfold ent
  split <;> simp only [e3, entL_fixed h]
theorem wsO_fixed {ad : Nat → Nat} {tA : Nat → ClassId} {σ : Sg} (h : Fixed σ) (hn : nx σ = NOB) : wsO ad tA true σ = wsO ad tA false σ := by
  have e : nxx false σ = nxx true σ := hn
  unfold wsO
  rw [e]
  exact List.map_congr_left fun a _ => by rw [ent_fixed h]
theorem wld_fixed {B0 : Nat} {adc : Nat → Nat} {tA : Nat → ClassId} {D : va_G} {xs : Nat → Int32} {L0 : Nat} {σ : Sg} {H : Heap} (h : Fixed σ) (hn : nx σ = NOB) (hw : Wld false B0 adc tA D xs L0 σ H) : Wld true B0 adc tA D xs L0 σ H := by
  obtain ⟨h1, h2, h3, h4⟩ := hw
  refine ⟨fun e => (by cases e), ?_, h3, Nat.le_refl _⟩
  rw [wsO_fixed h hn]
  exact h2
theorem start_of (P : (Nat → Int32) → Nat → Sg → Prop) (hP : ∀ xs L σ, P xs L σ → nx σ = NOB ∧ Fixed σ)
    (h1 : ∀ (xs : Nat → Int32) (L : Nat) (c : Ct) (σ : Sg), nx σ = 0 → (∀ k, gI σ SCR k = xs k) → ln σ = L → (∀ σ', P xs L σ' → c [.ref SCR, .ref 0, .ref 120, .int 0] [] σ') → b0 NOB (wp false 13) c [.ref SCR, .retAddr 0, .retAddr 0, .retAddr 0] [] σ)
    (h2 : ∀ (xs : Nat → Int32) (L : Nat) (σ : Sg), L ≤ 3072 → P xs L σ → Ev (fY_law true NOB (wp true 13) ΦL) 18 [.ref SCR, .ref 0, .ref 120, .int 0] [] σ)
    {p : Program} {e : Env} {s : State} {m : MethodId} {below : List Frame} {meth : Method} {c : Code} (l : Launch) {b L : Nat} {xs : Nat → Int32} (hL : L ≤ 3072) (C0 : lw_At p s m meth c b L xs) :
    W p l e room_1 s m #[Value.ref b] below meth c s.heap [] 0 0 (lw_Z below #[Value.ref b] s) (entryFrame m ([Value.ref b] : List Value).toArray 4) := by
  obtain ⟨adc, sv, hsv, hscr, hE⟩ := env0 C0
  obtain ⟨hx, hb, hr, hml, hown, hts, hX, hbl, hlocks, hg⟩ := C0
  obtain ⟨D, tA, hK⟩ := know0 hts
  have hAO := aos0 hts
  have hX' : va_X (adc SCR) L xs s s.heap := by rw [hscr]; exact hX
  have hXB : adc SCR < s.heap.size := by rw [hscr]; exact hbl
  have hA : ∀ (cx : Bool), Act cx NOB (wp cx 13) ΦL "OwedToWindsLaw" "law" code 4 (some .boolean) (GG p l e room_1 s m #[Value.ref b] below meth c (lw_Z below #[Value.ref b] s) cx 0 4 s.heap.size adc tA D sv xs L) := by
    intro cx
    refine ⟨p, l, e, _, s, m, _, below, meth, c, _, 0, 13, s.heap.size, adc, tA, D, sv, xs, L, ⟨hx, hb, hml, hown, gtb_hts hts, hK, hE, hX', hXB, Nat.le_refl _, hAO⟩,
      ⟨fun h => absurd h (by decide), by decide, by decide +kernel, Nat.le_refl _, by decide, by decide, hsv, fun _ => rfl⟩, met_all cx l 13, ?_, rfl⟩
    intro i v σ pc H locs lsM hΦ hi hd hw hS hn
    have hΦ : v = some (.int 1) := hΦ
    subst hΦ
    rcases hi with ⟨rfl, -⟩ | ⟨-, x, -, h⟩ | ⟨-, ty, a, -, h, -⟩ | ⟨-, -, h⟩
    · refine va_forget (fun q hq => hS.2.2 q hq) (W.widen (k := 600000) (n := 7302250) ?_ ?_ (lw_ret hx hb hr hlocks hd))
      · have : nxx cx σ ≤ 137 := hw.2.2.2
        omega
      · have h3 : szs (nxx cx σ) ≤ szs NOB := szs_le hw.2.2.2
        have h4 : szs NOB ≤ 7302250 := by decide +kernel
        omega
    · cases h
    · cases h
    · cases h
  have hsw : ∀ σ', P xs L σ' → GG p l e room_1 s m #[Value.ref b] below meth c (lw_Z below #[Value.ref b] s) false 0 4 s.heap.size adc tA D sv xs L 18 [.ref SCR, .ref 0, .ref 120, .int 0] [] σ' := by
    intro σ' hσ
    obtain ⟨hn, hF⟩ := hP _ _ _ hσ
    have hev := h2 xs L σ' hL hσ
    have hJ := hev _ (fun Q hQ pc ls st σ hF => SY_law (hA true) (k := Q) (fun pc ls st σ h => hQ pc ls st σ h) pc ls st σ hF)
    intro H locs lsM hw hS hl h0
    have h9 := hJ H locs lsM (wld_fixed hF hn hw) hS hl (Nat.zero_le _)
    have e1 : nxx false σ' = nxx true σ' := hn
    rw [e1]
    exact h9
  have hb0 := h1 xs L _ ((fun a k => if a = SCR then xs k else 0), (fun _ _ => 0), (fun _ _ => NUL), 0, L) rfl (fun k => rfl) rfl hsw
  have h9 := b0_ok (hA false) (fun ls st σ h => h) _ _ _ hb0
  have hl := lv_entry ([.ref b] : List Value) (n := 4) (Nat.le_of_ble_eq_true rfl)
  rw [lg_entry_eq]
  have hlv : lvr 4 (adr s.heap.size adc) sv (lg_sl ([.ref b] : List Value) ++ List.replicate (4 - (lg_sl ([.ref b] : List Value)).length) Slot.unset).toArray [.ref SCR, .retAddr 0, .retAddr 0, .retAddr 0] := by
    have h8 := lvr_enl (ad := adr s.heap.size adc) (sv := sv) (as := [.ref SCR]) (n := 4) (lsM := (lg_sl ([.ref b] : List Value) ++ List.replicate (4 - (lg_sl ([.ref b] : List Value)).length) Slot.unset).toArray) hsv (by decide) (by
      have e1 : ([.ref SCR] : List Value).map (vmp (adr s.heap.size adc) sv) = [.ref b] := by
        show [va_rf (rr (adr s.heap.size adc) SCR)] = _
        have e2 : rr (adr s.heap.size adc) SCR = some b := by
          show (if SCR = NUL then none else some (adr s.heap.size adc SCR)) = some b
          rw [if_neg (by decide)]
          show some (if SCR < 90000 then _ else adc SCR) = some b
          rw [if_neg (by decide), hscr]
        rw [e2]
        rfl
      rw [e1]
      exact hl)
    exact h8
  have h10 := h9 s.heap [] _ ⟨fun _ => rfl, (fun k x hk => by simp [wsO, nxx, nx] at hk), ⟨fun k => rfl, rfl⟩, Nat.zero_le _⟩ va_S.rf hlv (Nat.le_refl _)
  exact h10
