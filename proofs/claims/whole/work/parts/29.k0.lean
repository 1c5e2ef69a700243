/-! Met -/
/-! every method keeps its promise, d deep, by induction on d -/
theorem lg_len {ad : Nat → Nat} {sv : Value} (hsv : sv.category = 1) : ∀ as : List Value, (lg_sl (as.map (vmp ad sv))).length = (enl as).length
  | [] => rfl
  | v :: r => by
    have ih := lg_len (ad := ad) hsv r
    have hr : ∀ r, (va_rf r).category = 1 := fun r => by cases r <;> rfl
    have key : ∀ w : Value, (lg_sl (w :: r.map (vmp ad sv))).length = (if w.category = 2 then 2 else 1) + (lg_sl (r.map (vmp ad sv))).length := fun w => by
      show (List.flatMap _ _).length = _
      rw [List.flatMap_cons, List.length_append]
      congr 1
      split <;> rfl
    rw [List.map_cons, key, ih]
    cases v with
    | ref a => show (if (va_rf (rr ad a)).category = 2 then 2 else 1) + _ = _; rw [hr, if_neg (by decide)]; simp [enl]; omega
    | retAddr k => show (if sv.category = 2 then 2 else 1) + _ = _; rw [hsv, if_neg (by decide)]; simp [enl]; omega
    | long x => show (if 2 = 2 then 2 else 1) + _ = _; simp [enl]; omega
    | double x => show (if 2 = 2 then 2 else 1) + _ = _; simp [enl]; omega
    | int x => show (if 1 = 2 then 2 else 1) + _ = _; simp [enl]; omega
    | float x => show (if 1 = 2 then 2 else 1) + _ = _; simp [enl]; omega
    | null => show (if 1 = 2 then 2 else 1) + _ = _; simp [enl]; omega
theorem enl_args {ad : Nat → Nat} {sv : Value} (hsv : sv.category = 1) : ∀ (as : List Value) (i0 j : Nat) (v : Value), (enl as)[j]? = some v → (∀ k, v ≠ .retAddr k) → (i0 + j, vmp ad sv v) ∈ lv_args i0 (as.map (vmp ad sv))
  | [], _, _, _, h, _ => by simp [enl] at h
  | w :: r, i0, j, v, h, hne => by
    have hr : ∀ r, (va_rf r).category = 1 := fun r => by cases r <;> rfl
    have one : ∀ (hc : (vmp ad sv w).category = 1) (he : enl (w :: r) = w :: enl r), (i0 + j, vmp ad sv v) ∈ lv_args i0 ((w :: r).map (vmp ad sv)) := by
      intro hc he
      rw [he] at h
      rw [List.map_cons]
      show _ ∈ (i0, vmp ad sv w) :: lv_args (if (vmp ad sv w).category = 2 then i0 + 2 else i0 + 1) (r.map (vmp ad sv))
      rw [hc, if_neg (by decide)]
      cases j with
      | zero =>
        simp only [List.getElem?_cons_zero, Option.some.injEq] at h
        subst h
        exact List.mem_cons_self
      | succ j =>
        simp only [List.getElem?_cons_succ] at h
        have := enl_args (ad := ad) hsv r (i0 + 1) j v h hne
        rw [show i0 + 1 + j = i0 + (j + 1) by omega] at this
        exact List.mem_cons_of_mem _ this
    have two : ∀ (hc : (vmp ad sv w).category = 2) (he : enl (w :: r) = w :: .retAddr 0 :: enl r), (i0 + j, vmp ad sv v) ∈ lv_args i0 ((w :: r).map (vmp ad sv)) := by
      intro hc he
      rw [he] at h
      rw [List.map_cons]
      show _ ∈ (i0, vmp ad sv w) :: lv_args (if (vmp ad sv w).category = 2 then i0 + 2 else i0 + 1) (r.map (vmp ad sv))
      rw [hc, if_pos rfl]
      match j, h with
      | 0, h =>
        simp only [List.getElem?_cons_zero, Option.some.injEq] at h
        subst h
        exact List.mem_cons_self
      | 1, h =>
        simp only [List.getElem?_cons_succ, List.getElem?_cons_zero, Option.some.injEq] at h
        exact absurd h.symm (hne 0)
      | j + 2, h =>
        simp only [List.getElem?_cons_succ] at h
        have := enl_args (ad := ad) hsv r (i0 + 2) j v h hne
        rw [show i0 + 2 + j = i0 + (j + 2) by omega] at this
        exact List.mem_cons_of_mem _ this
    cases w with
    | ref a => exact one (hr _) rfl
    | retAddr k => exact one hsv rfl
    | long x => exact two rfl rfl
    | double x => exact two rfl rfl
    | int x => exact one rfl rfl
    | float x => exact one rfl rfl
    | null => exact one rfl rfl
theorem lvr_enl {ad : Nat → Nat} {sv : Value} {lsM : Array Slot} {as : List Value} {n : Nat} (hsv : sv.category = 1) (hle : (enl as).length ≤ n) (h : lv_has lsM n (lv_args 0 (as.map (vmp ad sv)))) : lvr n ad sv lsM (enL n as) := by
  refine ⟨by unfold enL; rw [List.length_append, List.length_replicate]; omega, h.1, h.2.1, fun q hq => h.2.2 q ?_⟩
  obtain ⟨v, h1, h2, h3⟩ := mem_asc.mp hq
  unfold enL at h1
  by_cases hj : q.1 < (enl as).length
  · rw [List.getElem?_append_left hj] at h1
    have := enl_args (ad := ad) hsv as 0 q.1 v h1 h2
    rw [Nat.zero_add, ← h3] at this
    exact this
  · rw [List.getElem?_append_right (by omega)] at h1
    have h4 := List.mem_of_getElem? h1
    exact absurd (List.eq_of_mem_replicate h4) (h2 0)
theorem wld_B {cx : Bool} {B0 : Nat} {adc : Nat → Nat} {tA : Nat → ClassId} {D : va_G} {xs : Nat → Int32} {L0 : Nat} {σ : Sg} {H : Heap} (hw : Wld cx B0 adc tA D xs L0 σ H) : B0 ≤ H.size := by
  cases cx with
  | false => rw [hw.1 rfl]; omega
  | true =>
    have h := hw.2.1 0 _ (wsO_at (ad := adr B0 adc) (tA := tA) (cx := true) (σ := σ) (show 0 < NOB by decide))
    have h2 := h.lt
    have h3 : adr B0 adc 0 = B0 + 0 := adr_lt (by decide)
    have h2 : adr B0 adc 0 < H.size := h2
    omega
def Snd (y : Nat) : Prop := ∀ {cx : Bool} {cap : Nat} {call : Cl} {Φ : Po} {J : Nat → Ct}, Act cx cap call Φ (nmT y).cls (nmT y).name (ccT y) (mxl y) (rtT y) J → ∀ k : Nat → Ct, (∀ pc, LE (k pc) (J pc)) → ∀ pc, LE (body y cx cap call Φ k pc) (J pc)
def SndF : Nat → Nat → Prop
  | 0, _ => True
  | n + 1, i => Snd i ∧ SndF n (i + 1)
theorem SndF.get : ∀ (n i : Nat), SndF n i → ∀ y, i ≤ y → y < i + n → Snd y
  | 0, i, _, y, h1, h2 => by omega
  | n + 1, i, h, y, h1, h2 => by
    by_cases e : y = i
    · subst e; exact h.1
    · exact SndF.get n (i + 1) h.2 y (by omega) (by omega)
def NMETH : Nat := 347
theorem snd0 : SndF 30 0 := ⟨fun A k hk pc => SJ_max A hk pc, fun A k hk pc => SJ_min A hk pc, fun A k hk pc => SJ_maxL A hk pc, fun A k hk pc => SJ_minL A hk pc, fun A k hk pc => SJ_abs A hk pc, fun A k hk pc => SJ_floorDiv A hk pc, fun A k hk pc => SJ_bitCount A hk pc, fun A k hk pc => SJ_numberOfTrailingZeros A hk pc, fun A k hk pc => SS_length A hk pc, fun A k hk pc => SS_coder A hk pc, fun A k hk pc => SS_charAt A hk pc, fun A k hk pc => SS_isLatin1 A hk pc, fun A k hk pc => SS_checkIndex A hk pc, fun A k hk pc => SU_charAt A hk pc, fun A k hk pc => SP_checkIndex A hk pc, fun A k hk pc => SX_init A hk pc, fun A k hk pc => SX_wind A hk pc, fun A k hk pc => SX_village A hk pc, fun A k hk pc => SX_way A hk pc, fun A k hk pc => SX_feed A hk pc, fun A k hk pc => SX_feedFour A hk pc, fun A k hk pc => SX_end A hk pc, fun A k hk pc => SX_text A hk pc, fun A k hk pc => SX_fault A hk pc, fun A k hk pc => SX_by A hk pc, fun A k hk pc => SX_pay A hk pc, fun A k hk pc => SX_merge A hk pc, fun A k hk pc => SX_day A hk pc, fun A k hk pc => SX_played A hk pc, fun A k hk pc => SX_years A hk pc, trivial⟩
theorem snd30 : SndF 30 30 := ⟨fun A k hk pc => SX_undo A hk pc, fun A k hk pc => SX_ofWind A hk pc, fun A k hk pc => SX_ofVillage A hk pc, fun A k hk pc => SX_takes A hk pc, fun A k hk pc => SX_catches A hk pc, fun A k hk pc => SX_isForce A hk pc, fun A k hk pc => SX_isFar A hk pc, fun A k hk pc => SX_is A hk pc, fun A k hk pc => SX_book A hk pc, fun A k hk pc => SX_foretold A hk pc, fun A k hk pc => SX_purse A hk pc, fun A k hk pc => SX_owed A hk pc, fun A k hk pc => SX_arrears A hk pc, fun A k hk pc => SX_broke A hk pc, fun A k hk pc => SX_whose A hk pc, fun A k hk pc => SX_odds A hk pc, fun A k hk pc => SX_least A hk pc, fun A k hk pc => SX_share A hk pc, fun A k hk pc => SX_voyage A hk pc, fun A k hk pc => SX_took A hk pc, fun A k hk pc => SX_whoseWind A hk pc, fun A k hk pc => SX_strengths A hk pc, fun A k hk pc => SX_vane A hk pc, fun A k hk pc => SX_sail A hk pc, fun A k hk pc => SX_sails A hk pc, fun A k hk pc => SX_sure A hk pc, fun A k hk pc => SX_kind A hk pc, fun A k hk pc => SX_inKind A hk pc, fun A k hk pc => SX_calms A hk pc, fun A k hk pc => SX_strongest A hk pc, trivial⟩
theorem snd60 : SndF 30 60 := ⟨fun A k hk pc => SX_richest A hk pc, fun A k hk pc => SX_often A hk pc, fun A k hk pc => SX_worstDay A hk pc, fun A k hk pc => SX_image A hk pc, fun A k hk pc => SX_back A hk pc, fun A k hk pc => SX_about A hk pc, fun A k hk pc => SM_init A hk pc, fun A k hk pc => SM_copy A hk pc, fun A k hk pc => SM_isIn A hk pc, fun A k hk pc => SM_cut A hk pc, fun A k hk pc => SM_has A hk pc, fun A k hk pc => SM_bits A hk pc, fun A k hk pc => SM_isWind A hk pc, fun A k hk pc => SM_isVillage A hk pc, fun A k hk pc => SM_get A hk pc, fun A k hk pc => SM_put A hk pc, fun A k hk pc => SM_of A hk pc, fun A k hk pc => SM_lay A hk pc, fun A k hk pc => SM_isHere A hk pc, fun A k hk pc => SM_wind A hk pc, fun A k hk pc => SM_begin A hk pc, fun A k hk pc => SM_village A hk pc, fun A k hk pc => SM_way A hk pc, fun A k hk pc => SM_four A hk pc, fun A k hk pc => SM_feed A hk pc, fun A k hk pc => SM_end A hk pc, fun A k hk pc => SM_byteAt A hk pc, fun A k hk pc => SM_isLetterByte A hk pc, fun A k hk pc => SM_isFigure A hk pc, fun A k hk pc => SM_isSign A hk pc, trivial⟩
theorem snd90 : SndF 30 90 := ⟨fun A k hk pc => SM_nextToken A hk pc, fun A k hk pc => SM_w2 A hk pc, fun A k hk pc => SM_w3 A hk pc, fun A k hk pc => SM_w4 A hk pc, fun A k hk pc => SM_w5 A hk pc, fun A k hk pc => SM_w6 A hk pc, fun A k hk pc => SM_isWord A hk pc, fun A k hk pc => SM_emit A hk pc, fun A k hk pc => SM_isLong A hk pc, fun A k hk pc => SM_nameOf A hk pc, fun A k hk pc => SM_isOf A hk pc, fun A k hk pc => SM_rank A hk pc, fun A k hk pc => SM_settle A hk pc, fun A k hk pc => SM_isOpen A hk pc, fun A k hk pc => SM_isCompared A hk pc, fun A k hk pc => SM_isAskAhead A hk pc, fun A k hk pc => SM_opened A hk pc, fun A k hk pc => SM_beginOne A hk pc, fun A k hk pc => SM_endOne A hk pc, fun A k hk pc => SM_compareOf A hk pc, fun A k hk pc => SM_betweenOf A hk pc, fun A k hk pc => SM_behindOne A hk pc, fun A k hk pc => SM_parsed A hk pc, fun A k hk pc => SM_figure A hk pc, fun A k hk pc => SM_worded A hk pc, fun A k hk pc => SM_lawClause A hk pc, fun A k hk pc => SM_three A hk pc, fun A k hk pc => SM_two0 A hk pc, fun A k hk pc => SM_body A hk pc, fun A k hk pc => SM_sortOf A hk pc, trivial⟩
theorem snd120 : SndF 30 120 := ⟨fun A k hk pc => SM_clause A hk pc, fun A k hk pc => SM_readText A hk pc, fun A k hk pc => SM_text A hk pc, fun A k hk pc => SM_fault A hk pc, fun A k hk pc => SM_by A hk pc, fun A k hk pc => SM_clip A hk pc, fun A k hk pc => SM_two A hk pc, fun A k hk pc => SM_isAsked A hk pc, fun A k hk pc => SM_rounded A hk pc, fun A k hk pc => SM_debtOf A hk pc, fun A k hk pc => SM_joined A hk pc, fun A k hk pc => SM_work A hk pc, fun A k hk pc => SM_clauseOf A hk pc, fun A k hk pc => SM_says A hk pc, fun A k hk pc => SM_name A hk pc, fun A k hk pc => SM_isComing A hk pc, fun A k hk pc => SM_blowsOf A hk pc, fun A k hk pc => SM_blowsNow A hk pc, fun A k hk pc => SM_duesOf A hk pc, fun A k hk pc => SM_nameVillage A hk pc, fun A k hk pc => SM_takesOf A hk pc, fun A k hk pc => SM_catchOf A hk pc, fun A k hk pc => SM_weights A hk pc, fun A k hk pc => SM_anew A hk pc, fun A k hk pc => SM_drawn A hk pc, fun A k hk pc => SM_blow A hk pc, fun A k hk pc => SM_takeFrom A hk pc, fun A k hk pc => SM_write A hk pc, fun A k hk pc => SM_pass A hk pc, fun A k hk pc => SM_keep A hk pc, trivial⟩
theorem snd150 : SndF 30 150 := ⟨fun A k hk pc => SM_undo A hk pc, fun A k hk pc => SM_canPay A hk pc, fun A k hk pc => SM_payNow A hk pc, fun A k hk pc => SM_pay A hk pc, fun A k hk pc => SM_mergeNow A hk pc, fun A k hk pc => SM_merge A hk pc, fun A k hk pc => SM_arePassed A hk pc, fun A k hk pc => SM_day A hk pc, fun A k hk pc => SM_isPlayed A hk pc, fun A k hk pc => SM_played A hk pc, fun A k hk pc => SM_happens A hk pc, fun A k hk pc => SM_years A hk pc, fun A k hk pc => SM_ofWind A hk pc, fun A k hk pc => SM_ofVillage A hk pc, fun A k hk pc => SM_takes A hk pc, fun A k hk pc => SM_catches A hk pc, fun A k hk pc => SM_is A hk pc, fun A k hk pc => SM_shown A hk pc, fun A k hk pc => SM_entry A hk pc, fun A k hk pc => SM_book A hk pc, fun A k hk pc => SM_often A hk pc, fun A k hk pc => SM_worstDay A hk pc, fun A k hk pc => SM_strongest A hk pc, fun A k hk pc => SM_richest A hk pc, fun A k hk pc => SM_setAside A hk pc, fun A k hk pc => SM_putBack A hk pc, fun A k hk pc => SM_goOn A hk pc, fun A k hk pc => SM_behind A hk pc, fun A k hk pc => SM_takenIn A hk pc, fun A k hk pc => SM_foretold A hk pc, trivial⟩
theorem snd180 : SndF 30 180 := ⟨fun A k hk pc => SM_purse A hk pc, fun A k hk pc => SM_owed A hk pc, fun A k hk pc => SM_isInArrears A hk pc, fun A k hk pc => SM_arrears A hk pc, fun A k hk pc => SM_broke A hk pc, fun A k hk pc => SM_whose A hk pc, fun A k hk pc => SM_calms A hk pc, fun A k hk pc => SM_common A hk pc, fun A k hk pc => SM_part A hk pc, fun A k hk pc => SM_odds A hk pc, fun A k hk pc => SM_owedBy A hk pc, fun A k hk pc => SM_takenBy A hk pc, fun A k hk pc => SM_least A hk pc, fun A k hk pc => SM_nextRow A hk pc, fun A k hk pc => SM_added A hk pc, fun A k hk pc => SM_share A hk pc, fun A k hk pc => SM_laySpeeds A hk pc, fun A k hk pc => SM_reached A hk pc, fun A k hk pc => SM_arrival A hk pc, fun A k hk pc => SM_voyage A hk pc, fun A k hk pc => SM_took A hk pc, fun A k hk pc => SM_isFitting A hk pc, fun A k hk pc => SM_strengthsOf A hk pc, fun A k hk pc => SM_whoseWind A hk pc, fun A k hk pc => SM_strengths A hk pc, fun A k hk pc => SM_answers A hk pc, fun A k hk pc => SM_isRead A hk pc, fun A k hk pc => SM_vane A hk pc, fun A k hk pc => SM_sail A hk pc, fun A k hk pc => SM_paymentOf A hk pc, trivial⟩
theorem snd210 : SndF 30 210 := ⟨fun A k hk pc => SM_isTorn A hk pc, fun A k hk pc => SM_canTear A hk pc, fun A k hk pc => SM_sails A hk pc, fun A k hk pc => SM_sure A hk pc, fun A k hk pc => SM_kind A hk pc, fun A k hk pc => SM_layPieces A hk pc, fun A k hk pc => SM_inKind A hk pc, fun A k hk pc => SM_image A hk pc, fun A k hk pc => SM_back A hk pc, fun A k hk pc => SM_about A hk pc, fun A k hk pc => SC_init A hk pc, fun A k hk pc => SC_count A hk pc, fun A k hk pc => SC_piecesOf A hk pc, fun A k hk pc => SD_init A hk pc, fun A k hk pc => SD_wasCalm A hk pc, fun A k hk pc => SD_speed A hk pc, fun A k hk pc => SD_pass A hk pc, fun A k hk pc => SD_drawnWind A hk pc, fun A k hk pc => SD_drawX A hk pc, fun A k hk pc => SD_payByHand A hk pc, fun A k hk pc => SD_canPay A hk pc, fun A k hk pc => SD_payNow A hk pc, fun A k hk pc => SD_mergeByHand A hk pc, fun A k hk pc => SD_canMerge A hk pc, fun A k hk pc => SD_mergeNow A hk pc, fun A k hk pc => SD_passYears A hk pc, fun A k hk pc => SD_payByChance A hk pc, fun A k hk pc => SD_mergeByChance A hk pc, fun A k hk pc => SD_play A hk pc, fun A k hk pc => SD_perform A hk pc, trivial⟩
theorem snd240 : SndF 30 240 := ⟨fun A k hk pc => SF_init A hk pc, fun A k hk pc => SF_keepNow A hk pc, fun A k hk pc => SF_giveBack A hk pc, fun A k hk pc => SF_canPass A hk pc, fun A k hk pc => SF_takenUpTo A hk pc, fun A k hk pc => SF_taken A hk pc, fun A k hk pc => SF_later A hk pc, fun A k hk pc => SF_daysToArrears A hk pc, fun A k hk pc => SF_isAnyOwed A hk pc, fun A k hk pc => SF_isOwed A hk pc, fun A k hk pc => SF_daysToBroke A hk pc, fun A k hk pc => SF_mildestText A hk pc, fun A k hk pc => SF_findLeast A hk pc, fun A k hk pc => SF_penceFor A hk pc, fun A k hk pc => SF_payOff A hk pc, fun A k hk pc => SF_countCalms A hk pc, fun A k hk pc => SF_setOut A hk pc, fun A k hk pc => SF_foreseeSpeeds A hk pc, fun A k hk pc => SF_arrival A hk pc, fun A k hk pc => SF_isReached A hk pc, fun A k hk pc => SF_lastAhead A hk pc, fun A k hk pc => SQ_init A hk pc, fun A k hk pc => SQ_set A hk pc, fun A k hk pc => SQ_setOdds A hk pc, fun A k hk pc => SQ_setShare A hk pc, fun A k hk pc => SQ_mostOf A hk pc, fun A k hk pc => SL_init A hk pc, fun A k hk pc => SL_comesOf A hk pc, fun A k hk pc => SL_blowsOf A hk pc, fun A k hk pc => SL_duesOf A hk pc, trivial⟩
theorem snd270 : SndF 30 270 := ⟨fun A k hk pc => SL_takesOf A hk pc, fun A k hk pc => SL_catchOf A hk pc, fun A k hk pc => SL_rulingOn A hk pc, fun A k hk pc => SL_within A hk pc, fun A k hk pc => SL_reckoned A hk pc, fun A k hk pc => SL_named A hk pc, fun A k hk pc => SL_ofOne A hk pc, fun A k hk pc => SL_ofTwo A hk pc, fun A k hk pc => SL_nearest A hk pc, fun A k hk pc => SR_init A hk pc, fun A k hk pc => SR_read A hk pc, fun A k hk pc => SR_blame A hk pc, fun A k hk pc => SR_blameClause A hk pc, fun A k hk pc => SR_readDeed A hk pc, fun A k hk pc => SR_expect A hk pc, fun A k hk pc => SR_expectNumber A hk pc, fun A k hk pc => SR_readLaw A hk pc, fun A k hk pc => SR_top A hk pc, fun A k hk pc => SR_push A hk pc, fun A k hk pc => SR_isAtAsk A hk pc, fun A k hk pc => SR_readOne A hk pc, fun A k hk pc => SR_openOne A hk pc, fun A k hk pc => SR_closeOne A hk pc, fun A k hk pc => SR_readBehindOne A hk pc, fun A k hk pc => SR_readBehindSum A hk pc, fun A k hk pc => SR_putDownTo A hk pc, fun A k hk pc => SR_advance A hk pc, fun A k hk pc => SR_readNumber A hk pc, fun A k hk pc => SR_isLetter A hk pc, fun A k hk pc => SR_isDigit A hk pc, trivial⟩
theorem snd300 : SndF 30 300 := ⟨fun A k hk pc => SR_spelled A hk pc, fun A k hk pc => SR_isSpelled A hk pc, fun A k hk pc => SZ_init A hk pc, fun A k hk pc => SZ_findTakes A hk pc, fun A k hk pc => SZ_fittingForces A hk pc, fun A k hk pc => SZ_fits A hk pc, fun A k hk pc => SZ_fittingWinds A hk pc, fun A k hk pc => SZ_nextVane A hk pc, fun A k hk pc => SZ_isTookOf A hk pc, fun A k hk pc => SZ_unlikeAnswers A hk pc, fun A k hk pc => SZ_findSails A hk pc, fun A k hk pc => SZ_rows A hk pc, fun A k hk pc => SZ_payment A hk pc, fun A k hk pc => SZ_isSo A hk pc, fun A k hk pc => SZ_countRows A hk pc, fun A k hk pc => SZ_surePayment A hk pc, fun A k hk pc => ST_init A hk pc, fun A k hk pc => ST_clear A hk pc, fun A k hk pc => ST_hasLaw A hk pc, fun A k hk pc => ST_beginLaw A hk pc, fun A k hk pc => ST_endLaw A hk pc, fun A k hk pc => ST_put A hk pc, fun A k hk pc => ST_addClause A hk pc, fun A k hk pc => SK_isName A hk pc, fun A k hk pc => SK_isNameOf A hk pc, fun A k hk pc => SK_compares A hk pc, fun A k hk pc => SW_init A hk pc, fun A k hk pc => SW_copyFrom A hk pc, fun A k hk pc => SW_copyRow A hk pc, fun A k hk pc => SW_isWind A hk pc, trivial⟩
theorem snd330 : SndF 17 330 := ⟨fun A k hk pc => SW_isHere A hk pc, fun A k hk pc => SW_weightOf A hk pc, fun A k hk pc => SW_weightOfAll A hk pc, fun A k hk pc => SW_isVillage A hk pc, fun A k hk pc => SW_isText A hk pc, fun A k hk pc => SW_daysLeft A hk pc, fun A k hk pc => SW_tellWind A hk pc, fun A k hk pc => SW_setWind A hk pc, fun A k hk pc => SW_tellVillage A hk pc, fun A k hk pc => SW_setVillage A hk pc, fun A k hk pc => SW_tellWay A hk pc, fun A k hk pc => SW_lengthOf A hk pc, fun A k hk pc => SW_keepStep A hk pc, fun A k hk pc => SW_takeBack A hk pc, fun A k hk pc => SW_pages A hk pc, fun A k hk pc => SW_writePage A hk pc, fun A k hk pc => SW_page A hk pc, trivial⟩
theorem sndAll (y : Nat) (h : y < NMETH) : Snd y := by
  by_cases h30 : y < 30
  · exact SndF.get 30 0 snd0 y (by omega) (by omega)
  by_cases h60 : y < 60
  · exact SndF.get 30 30 snd30 y (by omega) (by omega)
  by_cases h90 : y < 90
  · exact SndF.get 30 60 snd60 y (by omega) (by omega)
  by_cases h120 : y < 120
  · exact SndF.get 30 90 snd90 y (by omega) (by omega)
  by_cases h150 : y < 150
  · exact SndF.get 30 120 snd120 y (by omega) (by omega)
  by_cases h180 : y < 180
  · exact SndF.get 30 150 snd150 y (by omega) (by omega)
  by_cases h210 : y < 210
  · exact SndF.get 30 180 snd180 y (by omega) (by omega)
  by_cases h240 : y < 240
  · exact SndF.get 30 210 snd210 y (by omega) (by omega)
  by_cases h270 : y < 270
  · exact SndF.get 30 240 snd240 y (by omega) (by omega)
  by_cases h300 : y < 300
  · exact SndF.get 30 270 snd270 y (by omega) (by omega)
  by_cases h330 : y < 330
  · exact SndF.get 30 300 snd300 y (by omega) (by omega)
  by_cases h347 : y < 347
  · exact SndF.get 17 330 snd330 y (by omega) (by omega)
  exact absurd h (by rw [show NMETH = 347 from rfl]; omega)
theorem body_out {y : Nat} (h : ¬ y < NMETH) : body y = fun _ _ _ _ _ _ => o_no := by
  unfold body
  rw [List.getD_eq_getElem?_getD, List.getElem?_eq_none (by
    have : bodyL.length = NMETH := by decide +kernel
    omega)]
  rfl
theorem plainAll : ∀ y, y < NMETH → plainFor (nmT y) = true := by decide +kernel
theorem metOf {l : Launch} {y : MethodName} {ws ws' : List Cond} {rm : Room} {Pc : Array Value → State → Prop} {Qc : Array Value → State → Outcome → State → Prop} {mc ms : Nat} {free : Addr → Prop} {cc : ByteArray} {maxL : Nat} {ret : Option FieldType}
    (hy : plainFor y = true) (hw : ws = Cond.code y cc maxL ret :: ws')
    (body : ∀ p e s m args below meth c s₁, BodyLoose p l y (headSpec ws rm) cc maxL ret e s m args below meth c s₁ → c.maxLocals = maxL → Pc args s →
      W p l e (headSpec ws rm).room s m args below meth c s.heap [] 0 0 (MQ below Qc args s mc ms free) (entryFrame m args maxL)) : Met l y ws rm Pc Qc mc ms free := by
  refine MetFree.of_bodySF (code := cc) (maxLocals := maxL) (ret := ret) hy (fun args s m h hn => ?_) (fun p e s m args below meth c s₁ B hml hP _ => ?_)
  · obtain ⟨meth, c, h1, h2, h3, h4, h5, h6, -⟩ := Cond.code_spec hn (atoms_spec (ws := ws) h _ (by rw [hw]; exact List.mem_cons_self))
    exact ⟨meth, c, h1, h2, h3, h4, h5, h6⟩
  · have hh : s₁.heap = s.heap := by rw [B.state]; rfl
    obtain ⟨t, a, o, b, g, q⟩ := body p e s m args below meth c s₁ B hml hP s₁ hh (Stand.of_body B)
    exact ⟨t, o, a, b, g, ⟨q.1, q.2⟩⟩
theorem met_all (cx : Bool) (l : Launch) : ∀ d, CallOK cx l (wp cx d) d
  | 0 => fun _ _ _ _ h => h.elim
  | d + 1 => fun y as σ Ψ h B0 adc tA D sv xs L0 hsv => by
    have h : cond (Nat.ble (enl as).length (mxl y) && Nat.ble (nxx cx σ + nal cx y) NOB) (Ev (body y cx (nxx cx σ + nal cx y) (wp cx d) (fin cx (nxx cx σ + nal cx y) Ψ)) 0 (enL (mxl y) as) [] σ) False := h
    obtain ⟨hg, hev⟩ := cnd h
    obtain ⟨hle, hcap⟩ := and2 hg
    have hle := Nat.le_of_ble_eq_true hle
    have hcap := Nat.le_of_ble_eq_true hcap
    have hy : y < NMETH := by
      apply Classical.byContradiction
      intro hny
      exact hev (fun _ _ _ _ => False) (fun Q _ pc ls st σ hF => by rw [body_out hny] at hF; exact hF)
    refine metOf (cc := ccT y) (maxL := mxl y) (ret := rtT y) (plainAll y hy) rfl ?_
    intro p e s m args below meth c s₁ B hml hv
    obtain ⟨rfl, hK, hE, hX, hXB, hAO, hw⟩ := hv
    have hts := atoms_spec (ws := wsT y) B.pre
    have hown : s.vm.findClass (nmT y).cls = some m.cls := findClass_of_methodNamed B.named
    have hlocks := B.notSynchronized
    have hin : meth.name = (nmT y).name := (name_of_methodNamed B.named B.method).1
    have hret : ∀ (i : Instr) (v : Option Value) (σ' : Sg) (pc : Nat) (H : Heap) (locs : List Loc) (lsM : Array Slot), fin cx (nxx cx σ + nal cx y) Ψ v σ' → retF i (rtT y) v → decode (ccT y) pc = .ok (i, 1) → Wld cx B0 adc tA D xs L0 σ' H → va_S (Af B0) s.heap H locs → nxx cx σ ≤ nxx cx σ' →
        W p l e (headSpec (wsT y) { frames := d + 1, cells := nal cx y, slots := szs (nxx cx σ + nal cx y) - szs (nxx cx σ), locals := 40 * (d + 1) }).room s m (as.map (vmp (adr B0 adc) sv)).toArray below meth c H locs (nxx cx σ' - nxx cx σ) (szs (nxx cx σ') - szs (nxx cx σ)) (MQ below (Qm cx B0 adc tA D sv xs L0 (nxx cx σ + nal cx y) Ψ) (as.map (vmp (adr B0 adc) sv)).toArray s (nal cx y) (szs (nxx cx σ + nal cx y) - szs (nxx cx σ)) (Af B0)) (F0 m pc lsM ((v.map (vmp (adr B0 adc) sv)).toList)) := by
      intro i v σ' pc H locs lsM hΦ hr hd hw2 hS hn
      have hn1 : nxx cx σ' = nxx cx σ + nal cx y := by
        cases cx with
        | true => rfl
        | false => exact hΦ.1
      have hψ : Ψ v σ' := by
        cases cx with
        | true => exact hΦ
        | false => exact hΦ.2
      have e2 : nxx cx σ' - nxx cx σ = nal cx y := by omega
      have e3 : szs (nxx cx σ') - szs (nxx cx σ) = szs (nxx cx σ + nal cx y) - szs (nxx cx σ) := by rw [hn1]
      rw [e2, e3]
      have hq : ∀ t : State, t.heap = H → s.WarmedH t.vm → Qm cx B0 adc tA D sv xs L0 (nxx cx σ + nal cx y) Ψ (as.map (vmp (adr B0 adc) sv)).toArray s (.returned (v.map (vmp (adr B0 adc) sv))) t := fun t ht _ => ⟨⟨v, σ', hψ, rfl, hn1, by rw [ht]; exact hw2⟩, hS.F ht⟩
      rcases hr with ⟨rfl, ty, x, hrt, rfl, hnar, -⟩ | ⟨rfl, x, hrt, rfl⟩ | ⟨rfl, ty, a, hrt, rfl, hty⟩ | ⟨rfl, hrt, rfl⟩
      · exact W.zret B.exec B.bytes (B.returns.trans hrt) hnar hq hS.2.2 hd hlocks
      · exact W.lret B.exec B.bytes (B.returns.trans hrt) hq hS.2.2 hd hlocks
      · exact W.aret B.exec B.bytes (B.returns.trans hrt) hty (va_rf_or _) hq hS.2.2 hd hlocks
      · exact W.vret B.exec B.bytes (B.returns.trans hrt) hq hS.2.2 hd hlocks
    have A : Act cx (nxx cx σ + nal cx y) (wp cx d) (fin cx (nxx cx σ + nal cx y) Ψ) (nmT y).cls (nmT y).name (ccT y) (mxl y) (rtT y) (GG p l e (headSpec (wsT y) { frames := d + 1, cells := nal cx y, slots := szs (nxx cx σ + nal cx y) - szs (nxx cx σ), locals := 40 * (d + 1) }).room s m (as.map (vmp (adr B0 adc) sv)).toArray below meth c (MQ below (Qm cx B0 adc tA D sv xs L0 (nxx cx σ + nal cx y) Ψ) (as.map (vmp (adr B0 adc) sv)).toArray s (nal cx y) (szs (nxx cx σ + nal cx y) - szs (nxx cx σ)) (Af B0)) cx (nxx cx σ) (mxl y) B0 adc tA D sv xs L0) :=
      ⟨p, l, e, _, s, m, _, below, meth, c, _, nxx cx σ, d, B0, adc, tA, D, sv, xs, L0, ⟨B.exec, B.bytes, hml, hown, fun w hw => hts w (List.mem_cons_of_mem _ hw), hK, hE, hX, hXB, wld_B hw, hAO⟩,
        ⟨fun _ => hin, by show _ ≤ nal cx y; omega, Nat.le_refl _, hcap, Nat.le_refl _, by show 40 * d + 40 ≤ 40 * (d + 1); omega, hsv, fun hc => by subst hc; rfl⟩, met_all cx l d, hret, rfl⟩
    have hJ := hev _ (fun Q hQ pc ls st σ' hF => sndAll y hy A Q (fun pc ls st σ h => hQ pc ls st σ h) pc ls st σ' hF)
    have hlen : (lg_sl (as.map (vmp (adr B0 adc) sv))).length ≤ mxl y := by rw [lg_len hsv]; exact hle
    have hl := lv_entry (as.map (vmp (adr B0 adc) sv)) (n := mxl y) hlen
    rw [lg_entry_eq]
    have h9 := hJ s.heap [] _ hw va_S.rf (lvr_enl hsv hle hl) (Nat.le_refl _)
    rw [Nat.sub_self, Nat.sub_self] at h9
    exact h9
