/-! the law: its loop, its start -/
theorem kR_up (a b c : Nat) : va_up (va_up (va_up (fun _ => none) (0 : Int32).toNatClampNeg (some a)) (1 : Int32).toNatClampNeg (some b)) (2 : Int32).toNatClampNeg (some c) = kR a b c := by
  funext j
  show (if j = 2 then some c else if j = 1 then some b else if j = 0 then some a else none) = (if j = 0 then some a else if j = 1 then some b else if j = 2 then some c else none)
  by_cases h0 : j = 0
  · subst h0; rfl
  · by_cases h1 : j = 1
    · subst h1; rfl
    · by_cases h2 : j = 2
      · subst h2; rfl
      · rw [if_neg h2, if_neg h1, if_neg h0, if_neg h0, if_neg h1, if_neg h2]
theorem lwI_init : lwI (40 : Int32) (100 : Int32) (0 : Int32) (0 : Int32) (upd (upd (upd (upd (upd (upd (fun _ => 0) (0 : Int32).toNatClampNeg (-1 : Int32)) (1 : Int32).toNatClampNeg (-1 : Int32)) (2 : Int32).toNatClampNeg (-1 : Int32)) (3 : Int32).toNatClampNeg (-1 : Int32)) (4 : Int32).toNatClampNeg (-1 : Int32)) (5 : Int32).toNatClampNeg (-1 : Int32)) (fun _ => 0) (upd (upd (upd (upd (upd (upd (fun _ => 0) (0 : Int32).toNatClampNeg (-9 : Int32)) (1 : Int32).toNatClampNeg (-9 : Int32)) (2 : Int32).toNatClampNeg (-9 : Int32)) (3 : Int32).toNatClampNeg (-9 : Int32)) (4 : Int32).toNatClampNeg (-9 : Int32)) (5 : Int32).toNatClampNeg (-9 : Int32)) (fun _ => 0) (upd (upd (upd (upd (fun _ => 0) (0 : Int32).toNatClampNeg (-1 : Int32)) (1 : Int32).toNatClampNeg (-1 : Int32)) (2 : Int32).toNatClampNeg (-1 : Int32)) (3 : Int32).toNatClampNeg (-1 : Int32)) (fun _ => 0) (upd (upd (upd (upd (fun _ => 0) (0 : Int32).toNatClampNeg (-9 : Int32)) (1 : Int32).toNatClampNeg (-9 : Int32)) (2 : Int32).toNatClampNeg (-9 : Int32)) (3 : Int32).toNatClampNeg (-9 : Int32)) (fun _ => 0) (0 : Int32) (fun _ => 0) (0 : Int32) (fun _ => 0) (fun _ => 0) (fun _ => 0) (0 : Int32) (0 : Int32) (0 : Int32) (0 : Int32) (0 : Int32) (0 : Int32) (0 : Int32) (0 : Int32) (0 : Int32) (fun _ => 0) (fun _ => 0) (fun _ => 0) (0 : Int32) (0 : Int32) (0 : Int32) (0 : Int32) (0 : Int32) (0 : Int32) (0 : Int32) (0 : Int32) (0 : Int32) (fun _ => 0) (fun _ => 0) (fun _ => 0) (0 : Int32) (0 : Int32) (0 : Int32) (0 : Int32) (0 : Int32) (0 : Int32) (0 : Int32) (0 : Int32) (0 : Int32) (0 : Int32) (fun _ => 0) (fun _ => 0) (fun _ => 0) (upd (upd (upd (fun _ => 0) (0 : Int32).toNatClampNeg (-9 : Int32)) (50 : Int32).toNatClampNeg (-9 : Int32)) (100 : Int32).toNatClampNeg (-9 : Int32)) (0 : Int32) (0 : Int32) (0 : Int32) (0 : Int32) (0 : Int32) (0 : Int32) (0 : Int32) (0 : Int32) (0 : Int32) (0 : Int32) (fun _ => 0) (fun _ => 0) (fun _ => 0) (0 : Int32) (0 : Int32) (0 : Int32) (0 : Int32) (0 : Int32) (0 : Int32) (0 : Int32) (0 : Int32) (0 : Int32) (0 : Int32) (fun _ => 0) (fun _ => 0) (fun _ => 0) (0 : Int32) (fun _ => 0) (fun _ => 0) (0 : Int32) (fun _ => 0) (0 : Int32) (0 : Int32) (0 : Int64) (0 : Int64) (1 : Int64) (1 : Int64) (0 : Int32) (fun _ => 0) (fun _ => 0) (0 : Int32) (fun _ => 0) (fun _ => 0) := by
  refine ⟨0, rfl, rfl, rfl, rfl, ?_, ?_, ⟨rfl, fun _ _ => rfl⟩, ⟨by omega, fun i w h => absurd h (by omega), fun i h => absurd h (by omega)⟩, ⟨⟨rfl, rfl, rfl, rfl, rfl, rfl, rfl, rfl, rfl⟩, fun i _ => ⟨rfl, rfl, rfl⟩, ⟨0, by omega, rfl, Or.inr rfl⟩, Or.inl rfl, ⟨0, by omega, rfl, Or.inr rfl⟩, Or.inl rfl, ⟨0, by omega, rfl⟩, ⟨Or.inl rfl, ⟨0, by omega, rfl⟩, Or.inl rfl⟩, ek_B0⟩, Or.inl ⟨rfl, by decide⟩, Or.inl ⟨rfl, by decide⟩, Or.inl ⟨rfl, by decide⟩, ⟨0, by omega, rfl, rfl, fun q h => absurd h (by omega)⟩, rfl, rfl, rfl, ⟨0, fun _ => 0, fun _ => 0, rfl, fun k h => absurd h (by omega), fun i j h => absurd h (by omega), fun q _ => rfl, fun q _ h => absurd h (Nat.lt_irrefl 0)⟩, ⟨0, fun _ => 0, fun _ => 0, rfl, fun k h => absurd h (by omega), fun i j h => absurd h (by omega), fun q _ => rfl, fun q _ h => absurd h (Nat.lt_irrefl 0)⟩⟩
  · intro k hk
    rcases (show k = 0 ∨ k = 1 ∨ k = 2 ∨ k = 3 ∨ k = 4 ∨ k = 5 by omega) with rfl | rfl | rfl | rfl | rfl | rfl
    all_goals exact Or.inl ⟨by decide, by decide⟩
  · intro k hk
    rcases (show k = 0 ∨ k = 1 ∨ k = 2 ∨ k = 3 by omega) with rfl | rfl | rfl | rfl
    all_goals exact Or.inl ⟨by decide, by decide⟩
set_option maxHeartbeats 4000000 in
set_option maxRecDepth 100000 in
theorem lw_loop {p : Program} {l : Launch} {e : Env} {s : State} {m : MethodId} {below : List Frame} {meth : Method} {c : Code} {D : va_G} {cI cJ cR : ClassId} {b L : Nat} {xs : Nat → Int32} (hC : lwC p l s m c D cI cJ cR b L xs) (hL : L ≤ 3072) (hr : meth.sig.returnType = ret) (hlocks : meth.locks = false) {ad_s bd_s : Nat} : ∀ (k i : Nat) (ls : Array Slot), L < 6 * (i + k) → 6 * i ≤ L → lv_has ls 4 [(0, .ref b), (1, .ref ad_s), (2, .ref bd_s), (3, .int (nI (6 * i)))] → lwK 18 p l e s m below meth c D cI cJ cR b ad_s bd_s ls := by
  intro k
  induction k with
  | zero =>
    intro i ls h1 h2
    exact absurd h1 (by omega)
  | succ k ih =>
    intro i ls h1 h2 hl
    intro ad_s_rows ad_s_rows_sizes ad_s_rows_cells ad_s_texts ad_s_texts_sizes ad_s_texts_cells ad_s_desks ad_s_desks_facts ad_s_draft ad_s_draft_facts ad_s_round ad_s_round_hours ad_s_round_gifts ad_s_round_written ad_s_kept ad_s_years ad_s_years_leavers ad_s_years_changes ad_s_years_balances ad_s_walk ad_s_walk_signers ad_s_lying ad_s_trial ad_s_card ad_s_card_times ad_s_forecast ad_s_forecast_walk ad_s_forecast_walk_signers ad_s_forecast_now ad_s_forecast_now_parts ad_s_forecast_now_keys ad_s_forecast_then ad_s_forecast_then_parts ad_s_forecast_then_keys ad_s_sequence ad_s_sequence_sequence ad_s_sequence_bestSequence ad_s_packing ad_s_packing_leastLaid ad_s_findingCounts ad_s_kept_k0 ad_s_kept_k0_hours ad_s_kept_k0_gifts ad_s_kept_k0_written ad_s_kept_k1 ad_s_kept_k1_hours ad_s_kept_k1_gifts ad_s_kept_k1_written ad_s_kept_k2 ad_s_kept_k2_hours ad_s_kept_k2_gifts ad_s_kept_k2_written bd_s_findings bd_s_sizes bd_s_rows bd_s_moving bd_s_lengths bd_s_texts bd_s_desks bd_s_gave bd_s_wrote bd_s_when bd_s_aside bd_s_kept bd_s_weights bd_s_nextWeights bd_s_laid bd_s_mostLaid bd_s_lineMany bd_s_lineUsed bd_s_years bd_s_yearGave bd_s_sums s_latestFinding s_askedNumber s_upperNumber s_lowerNumber s_rows_places s_rows_sizes s_rows_cells s_texts_places s_texts_sizes s_texts_cells s_desks_number s_desks_facts s_draft_number s_draft_facts s_round_start s_round_rule s_round_at s_round_isBack s_round_hour s_round_crossed s_round_law s_round_named s_round_linked s_round_isThere s_round_hours s_round_gifts s_round_written s_years_number s_years_leavers s_years_changes s_years_balances s_walk_signed s_walk_at s_walk_crossed s_walk_target s_walk_heap s_walk_signers s_lying_law s_lying_named s_lying_linked s_lying_total s_lying_givers s_lying_least s_trial_law s_trial_named s_trial_linked s_trial_total s_trial_givers s_trial_least s_card_times s_forecast_whole s_forecast_walk_signed s_forecast_walk_at s_forecast_walk_crossed s_forecast_walk_target s_forecast_walk_heap s_forecast_walk_signers s_forecast_now_number s_forecast_now_partHome s_forecast_now_parts s_forecast_now_keys s_forecast_then_number s_forecast_then_partHome s_forecast_then_parts s_forecast_then_keys s_sequence_length s_sequence_members s_sequence_most s_sequence_least s_sequence_sequence s_sequence_bestSequence s_packing_leastLaid s_findingCounts s_kept_k0_start s_kept_k0_rule s_kept_k0_at s_kept_k0_isBack s_kept_k0_hour s_kept_k0_crossed s_kept_k0_law s_kept_k0_named s_kept_k0_linked s_kept_k0_isThere s_kept_k0_hours s_kept_k0_gifts s_kept_k0_written s_kept_k1_start s_kept_k1_rule s_kept_k1_at s_kept_k1_isBack s_kept_k1_hour s_kept_k1_crossed s_kept_k1_law s_kept_k1_named s_kept_k1_linked s_kept_k1_isThere s_kept_k1_hours s_kept_k1_gifts s_kept_k1_written s_kept_k2_start s_kept_k2_rule s_kept_k2_at s_kept_k2_isBack s_kept_k2_hour s_kept_k2_crossed s_kept_k2_law s_kept_k2_named s_kept_k2_linked s_kept_k2_isThere s_kept_k2_hours s_kept_k2_gifts s_kept_k2_written t_finding t_asked t_upper t_lower t_many t_law t_named t_linked t_readAt t_readMany t_crossed t_wordMost t_wordTimes t_hour t_began t_rule t_place t_isBack t_endPlace t_endDone t_endBack t_endHeap t_endTo t_backWeight t_allWeight t_spanMost t_spanLeast t_isAny t_noneMany t_noneEach t_noneOf t_yearMany t_h0 t_findings t_sizes t_rows t_moving t_lengths t_texts t_desks t_gave t_wrote t_when t_aside t_kept t_weights t_nextWeights t_laid t_mostLaid t_lineMany t_lineUsed t_years t_yearGave t_sums H locs hI hP hD hS
    have hX := hC.1
    have hx := hX.1.1
    have hb := hX.1.2.1
    have hsx := hC.2.1
    have hbl := hC.2.2
    have hbA : ¬ (fun q : Nat => s.heap.size ≤ q) b := Nat.not_le.mpr hbl
    refine lv_iload_n hx hb dL_law_18 rfl (lv_at hl 3 rfl) ?_
    refine lv_aload_n hx hb dL_law_19 rfl (lv_at hl 0 rfl) ?_
    refine va_slen hx hb hsx hbl hbA hS dL_law_20 ?_
    refine lv_bipush (v := 6) hx hb dL_law_21 (by decide) ?_
    refine lv_isub hx hb dL_law_23 ?_
    refine lv_icmp_gt (tgt := 1634) hx hb dL_law_24 (by decide) (fun c_ => ?_) (fun c_ => ?_)
    · refine lv_iconst (v := 1) hx hb dL_law_1634 (by decide) ?_
      refine va_forget (fun q hq => hS.2.2 q hq) ?_
      refine W.widen (k := 600000) (n := 7302250) (Nat.le_of_ble_eq_true rfl) (Nat.le_of_ble_eq_true rfl) ?_
      exact lw_ret hx hb hr hlocks dL_law_1635
    · have h6 : 6 * i + 6 ≤ L := by
        rcases Nat.lt_or_ge L (6 * i + 6) with q | q
        · exfalso
          apply c_
          have e : ((nI L - nI 6).toInt : Int) = (L : Int) - 6 := pk_sub_toInt (by omega) (by omega)
          rw [show (Int32.ofNat L - 6 : Int32) = nI L - nI 6 from rfl, Int32.lt_iff_toInt_lt, e, nI_toInt (by omega)]
          omega
        · exact q
      refine lv_aload_n hx hb dL_law_27 rfl (lv_at hl 0 rfl) ?_
      refine lv_iload_n hx hb dL_law_28 rfl (lv_at hl 3 rfl) ?_
      refine va_sld hx hb hsx hbl hbA hS (vp_in_nI (show 6 * i < L by omega) (by omega)) dL_law_29 ?_
      refine lv_bipush (v := 63) hx hb dL_law_30 (by decide) ?_
      refine lv_iand hx hb dL_law_32 ?_
      obtain ⟨j, hj, ej⟩ := pk_andE (xs (nI (6 * i)).toNatClampNeg) (m := 63) 6 (by decide)
      rw [ej]
      have kk : lwK 1628 p l e s m below meth c D cI cJ cR b ad_s bd_s ls := by
        intro ad_s_rows ad_s_rows_sizes ad_s_rows_cells ad_s_texts ad_s_texts_sizes ad_s_texts_cells ad_s_desks ad_s_desks_facts ad_s_draft ad_s_draft_facts ad_s_round ad_s_round_hours ad_s_round_gifts ad_s_round_written ad_s_kept ad_s_years ad_s_years_leavers ad_s_years_changes ad_s_years_balances ad_s_walk ad_s_walk_signers ad_s_lying ad_s_trial ad_s_card ad_s_card_times ad_s_forecast ad_s_forecast_walk ad_s_forecast_walk_signers ad_s_forecast_now ad_s_forecast_now_parts ad_s_forecast_now_keys ad_s_forecast_then ad_s_forecast_then_parts ad_s_forecast_then_keys ad_s_sequence ad_s_sequence_sequence ad_s_sequence_bestSequence ad_s_packing ad_s_packing_leastLaid ad_s_findingCounts ad_s_kept_k0 ad_s_kept_k0_hours ad_s_kept_k0_gifts ad_s_kept_k0_written ad_s_kept_k1 ad_s_kept_k1_hours ad_s_kept_k1_gifts ad_s_kept_k1_written ad_s_kept_k2 ad_s_kept_k2_hours ad_s_kept_k2_gifts ad_s_kept_k2_written bd_s_findings bd_s_sizes bd_s_rows bd_s_moving bd_s_lengths bd_s_texts bd_s_desks bd_s_gave bd_s_wrote bd_s_when bd_s_aside bd_s_kept bd_s_weights bd_s_nextWeights bd_s_laid bd_s_mostLaid bd_s_lineMany bd_s_lineUsed bd_s_years bd_s_yearGave bd_s_sums s_latestFinding s_askedNumber s_upperNumber s_lowerNumber s_rows_places s_rows_sizes s_rows_cells s_texts_places s_texts_sizes s_texts_cells s_desks_number s_desks_facts s_draft_number s_draft_facts s_round_start s_round_rule s_round_at s_round_isBack s_round_hour s_round_crossed s_round_law s_round_named s_round_linked s_round_isThere s_round_hours s_round_gifts s_round_written s_years_number s_years_leavers s_years_changes s_years_balances s_walk_signed s_walk_at s_walk_crossed s_walk_target s_walk_heap s_walk_signers s_lying_law s_lying_named s_lying_linked s_lying_total s_lying_givers s_lying_least s_trial_law s_trial_named s_trial_linked s_trial_total s_trial_givers s_trial_least s_card_times s_forecast_whole s_forecast_walk_signed s_forecast_walk_at s_forecast_walk_crossed s_forecast_walk_target s_forecast_walk_heap s_forecast_walk_signers s_forecast_now_number s_forecast_now_partHome s_forecast_now_parts s_forecast_now_keys s_forecast_then_number s_forecast_then_partHome s_forecast_then_parts s_forecast_then_keys s_sequence_length s_sequence_members s_sequence_most s_sequence_least s_sequence_sequence s_sequence_bestSequence s_packing_leastLaid s_findingCounts s_kept_k0_start s_kept_k0_rule s_kept_k0_at s_kept_k0_isBack s_kept_k0_hour s_kept_k0_crossed s_kept_k0_law s_kept_k0_named s_kept_k0_linked s_kept_k0_isThere s_kept_k0_hours s_kept_k0_gifts s_kept_k0_written s_kept_k1_start s_kept_k1_rule s_kept_k1_at s_kept_k1_isBack s_kept_k1_hour s_kept_k1_crossed s_kept_k1_law s_kept_k1_named s_kept_k1_linked s_kept_k1_isThere s_kept_k1_hours s_kept_k1_gifts s_kept_k1_written s_kept_k2_start s_kept_k2_rule s_kept_k2_at s_kept_k2_isBack s_kept_k2_hour s_kept_k2_crossed s_kept_k2_law s_kept_k2_named s_kept_k2_linked s_kept_k2_isThere s_kept_k2_hours s_kept_k2_gifts s_kept_k2_written t_finding t_asked t_upper t_lower t_many t_law t_named t_linked t_readAt t_readMany t_crossed t_wordMost t_wordTimes t_hour t_began t_rule t_place t_isBack t_endPlace t_endDone t_endBack t_endHeap t_endTo t_backWeight t_allWeight t_spanMost t_spanLeast t_isAny t_noneMany t_noneEach t_noneOf t_yearMany t_h0 t_findings t_sizes t_rows t_moving t_lengths t_texts t_desks t_gave t_wrote t_when t_aside t_kept t_weights t_nextWeights t_laid t_mostLaid t_lineMany t_lineUsed t_years t_yearGave t_sums H locs hI hP hD hS
        refine lv_iinc (v := nI (6 * (i + 1))) (lv' := [(3, .int (nI (6 * (i + 1)))), (0, .ref b), (1, .ref ad_s), (2, .ref bd_s)]) hx hb dL_law_1628 hl (k := 3) rfl (by show nI (6 * i) + nI 6 = nI (6 * (i + 1)); rw [nI_add]; exact congrArg nI (by omega)) (by decide) rfl (fun ls hl => ?_)
        refine lv_goto (tgt := 18) hx hb dL_law_1631 (by decide) ?_
        exact ih (i + 1) ls (by omega) (by omega) (lv_sub hl [1, 2, 3, 0] rfl) ad_s_rows ad_s_rows_sizes ad_s_rows_cells ad_s_texts ad_s_texts_sizes ad_s_texts_cells ad_s_desks ad_s_desks_facts ad_s_draft ad_s_draft_facts ad_s_round ad_s_round_hours ad_s_round_gifts ad_s_round_written ad_s_kept ad_s_years ad_s_years_leavers ad_s_years_changes ad_s_years_balances ad_s_walk ad_s_walk_signers ad_s_lying ad_s_trial ad_s_card ad_s_card_times ad_s_forecast ad_s_forecast_walk ad_s_forecast_walk_signers ad_s_forecast_now ad_s_forecast_now_parts ad_s_forecast_now_keys ad_s_forecast_then ad_s_forecast_then_parts ad_s_forecast_then_keys ad_s_sequence ad_s_sequence_sequence ad_s_sequence_bestSequence ad_s_packing ad_s_packing_leastLaid ad_s_findingCounts ad_s_kept_k0 ad_s_kept_k0_hours ad_s_kept_k0_gifts ad_s_kept_k0_written ad_s_kept_k1 ad_s_kept_k1_hours ad_s_kept_k1_gifts ad_s_kept_k1_written ad_s_kept_k2 ad_s_kept_k2_hours ad_s_kept_k2_gifts ad_s_kept_k2_written bd_s_findings bd_s_sizes bd_s_rows bd_s_moving bd_s_lengths bd_s_texts bd_s_desks bd_s_gave bd_s_wrote bd_s_when bd_s_aside bd_s_kept bd_s_weights bd_s_nextWeights bd_s_laid bd_s_mostLaid bd_s_lineMany bd_s_lineUsed bd_s_years bd_s_yearGave bd_s_sums s_latestFinding s_askedNumber s_upperNumber s_lowerNumber s_rows_places s_rows_sizes s_rows_cells s_texts_places s_texts_sizes s_texts_cells s_desks_number s_desks_facts s_draft_number s_draft_facts s_round_start s_round_rule s_round_at s_round_isBack s_round_hour s_round_crossed s_round_law s_round_named s_round_linked s_round_isThere s_round_hours s_round_gifts s_round_written s_years_number s_years_leavers s_years_changes s_years_balances s_walk_signed s_walk_at s_walk_crossed s_walk_target s_walk_heap s_walk_signers s_lying_law s_lying_named s_lying_linked s_lying_total s_lying_givers s_lying_least s_trial_law s_trial_named s_trial_linked s_trial_total s_trial_givers s_trial_least s_card_times s_forecast_whole s_forecast_walk_signed s_forecast_walk_at s_forecast_walk_crossed s_forecast_walk_target s_forecast_walk_heap s_forecast_walk_signers s_forecast_now_number s_forecast_now_partHome s_forecast_now_parts s_forecast_now_keys s_forecast_then_number s_forecast_then_partHome s_forecast_then_parts s_forecast_then_keys s_sequence_length s_sequence_members s_sequence_most s_sequence_least s_sequence_sequence s_sequence_bestSequence s_packing_leastLaid s_findingCounts s_kept_k0_start s_kept_k0_rule s_kept_k0_at s_kept_k0_isBack s_kept_k0_hour s_kept_k0_crossed s_kept_k0_law s_kept_k0_named s_kept_k0_linked s_kept_k0_isThere s_kept_k0_hours s_kept_k0_gifts s_kept_k0_written s_kept_k1_start s_kept_k1_rule s_kept_k1_at s_kept_k1_isBack s_kept_k1_hour s_kept_k1_crossed s_kept_k1_law s_kept_k1_named s_kept_k1_linked s_kept_k1_isThere s_kept_k1_hours s_kept_k1_gifts s_kept_k1_written s_kept_k2_start s_kept_k2_rule s_kept_k2_at s_kept_k2_isBack s_kept_k2_hour s_kept_k2_crossed s_kept_k2_law s_kept_k2_named s_kept_k2_linked s_kept_k2_isThere s_kept_k2_hours s_kept_k2_gifts s_kept_k2_written t_finding t_asked t_upper t_lower t_many t_law t_named t_linked t_readAt t_readMany t_crossed t_wordMost t_wordTimes t_hour t_began t_rule t_place t_isBack t_endPlace t_endDone t_endBack t_endHeap t_endTo t_backWeight t_allWeight t_spanMost t_spanLeast t_isAny t_noneMany t_noneEach t_noneOf t_yearMany t_h0 t_findings t_sizes t_rows t_moving t_lengths t_texts t_desks t_gave t_wrote t_when t_aside t_kept t_weights t_nextWeights t_laid t_mostLaid t_lineMany t_lineUsed t_years t_yearGave t_sums H locs hI hP hD hS
      have hj51 : j = 0 ∨ j = 1 ∨ j = 2 ∨ j = 3 ∨ j = 4 ∨ j = 5 ∨ j = 6 ∨ j = 7 ∨ j = 8 ∨ j = 9 ∨ j = 10 ∨ j = 11 ∨ j = 12 ∨ j = 13 ∨ j = 14 ∨ j = 15 ∨ j = 16 ∨ j = 17 ∨ j = 18 ∨ j = 19 ∨ j = 20 ∨ j = 21 ∨ j = 22 ∨ j = 23 ∨ j = 24 ∨ j = 25 ∨ j = 26 ∨ j = 27 ∨ j = 28 ∨ j = 29 ∨ j = 30 ∨ j = 31 ∨ j = 32 ∨ j = 33 ∨ j = 34 ∨ j = 35 ∨ j = 36 ∨ j = 37 ∨ j = 38 ∨ j = 39 ∨ j = 40 ∨ j = 41 ∨ j = 42 ∨ j = 43 ∨ j = 44 ∨ j = 45 ∨ j = 46 ∨ j = 47 ∨ j = 48 ∨ j = 49 ∨ j = 50 ∨ 51 ≤ j := by omega
      rcases hj51 with rfl | rfl | rfl | rfl | rfl | rfl | rfl | rfl | rfl | rfl | rfl | rfl | rfl | rfl | rfl | rfl | rfl | rfl | rfl | rfl | rfl | rfl | rfl | rfl | rfl | rfl | rfl | rfl | rfl | rfl | rfl | rfl | rfl | rfl | rfl | rfl | rfl | rfl | rfl | rfl | rfl | rfl | rfl | rfl | rfl | rfl | rfl | rfl | rfl | rfl | rfl | hj51
      · refine lv_tableIn (off := 219) (tgt := 252) hx hb dL_law_33 (by decide) (by decide) rfl (by decide) ?_
        exact lc_row hC hL h6 hI hP hD hS hl kk
      · refine lv_tableIn (off := 252) (tgt := 285) hx hb dL_law_33 (by decide) (by decide) rfl (by decide) ?_
        exact lc_lay hC hL h6 hI hP hD hS hl kk
      · refine lv_tableIn (off := 295) (tgt := 328) hx hb dL_law_33 (by decide) (by decide) rfl (by decide) ?_
        exact lc_at hC hL h6 hI hP hD hS hl kk
      · refine lv_tableIn (off := 328) (tgt := 361) hx hb dL_law_33 (by decide) (by decide) rfl (by decide) ?_
        exact lc_tear hC hL h6 hI hP hD hS hl kk
      · refine lv_tableIn (off := 351) (tgt := 384) hx hb dL_law_33 (by decide) (by decide) rfl (by decide) ?_
        exact lc_copy hC hL h6 hI hP hD hS hl kk
      · refine lv_tableIn (off := 414) (tgt := 447) hx hb dL_law_33 (by decide) (by decide) rfl (by decide) ?_
        exact lc_mean hC hL h6 hI hP hD hS hl kk
      · refine lv_tableIn (off := 437) (tgt := 470) hx hb dL_law_33 (by decide) (by decide) rfl (by decide) ?_
        exact lc_text hC hL h6 hI hP hD hS hl kk
      · refine lv_tableIn (off := 470) (tgt := 503) hx hb dL_law_33 (by decide) (by decide) rfl (by decide) ?_
        exact lc_put hC hL h6 hI hP hD hS hl kk
      · refine lv_tableIn (off := 513) (tgt := 546) hx hb dL_law_33 (by decide) (by decide) rfl (by decide) ?_
        exact lc_fault hC hL h6 hI hP hD hS hl kk
      · refine lv_tableIn (off := 536) (tgt := 569) hx hb dL_law_33 (by decide) (by decide) rfl (by decide) ?_
        exact lc_office hC hL h6 hI hP hD hS hl kk
      · refine lv_tableIn (off := 559) (tgt := 592) hx hb dL_law_33 (by decide) (by decide) rfl (by decide) ?_
        exact lc_desk hC hL h6 hI hP hD hS hl kk
      · refine lv_tableIn (off := 592) (tgt := 625) hx hb dL_law_33 (by decide) (by decide) rfl (by decide) ?_
        exact lc_mark hC hL h6 hI hP hD hS hl kk
      · refine lv_tableIn (off := 625) (tgt := 658) hx hb dL_law_33 (by decide) (by decide) rfl (by decide) ?_
        exact lc_law hC hL h6 hI hP hD hS hl kk
      · refine lv_tableIn (off := 648) (tgt := 681) hx hb dL_law_33 (by decide) (by decide) rfl (by decide) ?_
        exact lc_name hC hL h6 hI hP hD hS hl kk
      · refine lv_tableIn (off := 671) (tgt := 704) hx hb dL_law_33 (by decide) (by decide) rfl (by decide) ?_
        exact lc_link hC hL h6 hI hP hD hS hl kk
      · refine lv_tableIn (off := 694) (tgt := 727) hx hb dL_law_33 (by decide) (by decide) rfl (by decide) ?_
        exact lc_begin hC hL h6 hI hP hD hS hl kk
      · refine lv_tableIn (off := 727) (tgt := 760) hx hb dL_law_33 (by decide) (by decide) rfl (by decide) ?_
        exact lc_go hC hL h6 hI hP hD hS hl kk
      · refine lv_tableIn (off := 760) (tgt := 793) hx hb dL_law_33 (by decide) (by decide) rfl (by decide) ?_
        exact lc_where hC hL h6 hI hP hD hS hl kk
      · refine lv_tableIn (off := 773) (tgt := 806) hx hb dL_law_33 (by decide) (by decide) rfl (by decide) ?_
        exact lc_told hC hL h6 hI hP hD hS hl kk
      · refine lv_tableIn (off := 806) (tgt := 839) hx hb dL_law_33 (by decide) (by decide) rfl (by decide) ?_
        exact lc_coins hC hL h6 hI hP hD hS hl kk
      · refine lv_tableIn (off := 819) (tgt := 852) hx hb dL_law_33 (by decide) (by decide) rfl (by decide) ?_
        exact lc_words hC hL h6 hI hP hD hS hl kk
      · refine lv_tableIn (off := 832) (tgt := 865) hx hb dL_law_33 (by decide) (by decide) rfl (by decide) ?_
        exact lc_next hC hL h6 hI hP hD hS hl kk
      · refine lv_tableIn (off := 855) (tgt := 888) hx hb dL_law_33 (by decide) (by decide) rfl (by decide) ?_
        exact lc_keep hC hL h6 hI hP hD hS hl kk
      · refine lv_tableIn (off := 878) (tgt := 911) hx hb dL_law_33 (by decide) (by decide) rfl (by decide) ?_
        exact lc_on hC hL h6 hI hP hD hS hl kk
      · refine lv_tableIn (off := 901) (tgt := 934) hx hb dL_law_33 (by decide) (by decide) rfl (by decide) ?_
        exact lc_friday hC hL h6 hI hP hD hS hl kk
      · refine lv_tableIn (off := 924) (tgt := 957) hx hb dL_law_33 (by decide) (by decide) rfl (by decide) ?_
        exact lc_odds hC hL h6 hI hP hD hS hl kk
      · refine lv_tableIn (off := 957) (tgt := 990) hx hb dL_law_33 (by decide) (by decide) rfl (by decide) ?_
        exact lc_ask hC hL h6 hI hP hD hS hl kk
      · refine lv_tableIn (off := 1000) (tgt := 1033) hx hb dL_law_33 (by decide) (by decide) rfl (by decide) ?_
        exact lc_rule hC hL h6 hI hP hD hS hl kk
      · refine lv_tableIn (off := 1033) (tgt := 1066) hx hb dL_law_33 (by decide) (by decide) rfl (by decide) ?_
        exact lc_order hC hL h6 hI hP hD hS hl kk
      · refine lv_tableIn (off := 1056) (tgt := 1089) hx hb dL_law_33 (by decide) (by decide) rfl (by decide) ?_
        exact lc_most hC hL h6 hI hP hD hS hl kk
      · refine lv_tableIn (off := 1089) (tgt := 1122) hx hb dL_law_33 (by decide) (by decide) rfl (by decide) ?_
        exact lc_spans hC hL h6 hI hP hD hS hl kk
      · refine lv_tableIn (off := 1112) (tgt := 1145) hx hb dL_law_33 (by decide) (by decide) rfl (by decide) ?_
        exact lc_best hC hL h6 hI hP hD hS hl kk
      · refine lv_tableIn (off := 1135) (tgt := 1168) hx hb dL_law_33 (by decide) (by decide) rfl (by decide) ?_
        exact lc_first hC hL h6 hI hP hD hS hl kk
      · refine lv_tableIn (off := 1168) (tgt := 1201) hx hb dL_law_33 (by decide) (by decide) rfl (by decide) ?_
        exact lc_buy hC hL h6 hI hP hD hS hl kk
      · refine lv_tableIn (off := 1191) (tgt := 1224) hx hb dL_law_33 (by decide) (by decide) rfl (by decide) ?_
        exact lc_fill hC hL h6 hI hP hD hS hl kk
      · refine lv_tableIn (off := 1214) (tgt := 1247) hx hb dL_law_33 (by decide) (by decide) rfl (by decide) ?_
        exact lc_nothing hC hL h6 hI hP hD hS hl kk
      · refine lv_tableIn (off := 1237) (tgt := 1270) hx hb dL_law_33 (by decide) (by decide) rfl (by decide) ?_
        exact lc_gaveNone hC hL h6 hI hP hD hS hl kk
      · refine lv_tableIn (off := 1270) (tgt := 1303) hx hb dL_law_33 (by decide) (by decide) rfl (by decide) ?_
        exact lc_fits hC hL h6 hI hP hD hS hl kk
      · refine lv_tableIn (off := 1313) (tgt := 1346) hx hb dL_law_33 (by decide) (by decide) rfl (by decide) ?_
        exact lc_room hC hL h6 hI hP hD hS hl kk
      · refine lv_tableIn (off := 1356) (tgt := 1389) hx hb dL_law_33 (by decide) (by decide) rfl (by decide) ?_
        exact lc_starts hC hL h6 hI hP hD hS hl kk
      · refine lv_tableIn (off := 1389) (tgt := 1422) hx hb dL_law_33 (by decide) (by decide) rfl (by decide) ?_
        exact lc_year hC hL h6 hI hP hD hS hl kk
      · refine lv_tableIn (off := 1412) (tgt := 1445) hx hb dL_law_33 (by decide) (by decide) rfl (by decide) ?_
        exact lc_balance hC hL h6 hI hP hD hS hl kk
      · refine lv_tableIn (off := 1435) (tgt := 1468) hx hb dL_law_33 (by decide) (by decide) rfl (by decide) ?_
        exact lc_forget hC hL h6 hI hP hD hS hl kk
      · refine lv_tableIn (off := 1458) (tgt := 1491) hx hb dL_law_33 (by decide) (by decide) rfl (by decide) ?_
        exact lc_even hC hL h6 hI hP hD hS hl kk
      · refine lv_tableIn (off := 1481) (tgt := 1514) hx hb dL_law_33 (by decide) (by decide) rfl (by decide) ?_
        exact lc_asked hC hL h6 hI hP hD hS hl kk
      · refine lv_tableIn (off := 1494) (tgt := 1527) hx hb dL_law_33 (by decide) (by decide) rfl (by decide) ?_
        exact lc_upper hC hL h6 hI hP hD hS hl kk
      · refine lv_tableIn (off := 1508) (tgt := 1541) hx hb dL_law_33 (by decide) (by decide) rfl (by decide) ?_
        exact lc_lower hC hL h6 hI hP hD hS hl kk
      · refine lv_tableIn (off := 1522) (tgt := 1555) hx hb dL_law_33 (by decide) (by decide) rfl (by decide) ?_
        exact lc_count hC hL h6 hI hP hD hS hl kk
      · refine lv_tableIn (off := 1545) (tgt := 1578) hx hb dL_law_33 (by decide) (by decide) rfl (by decide) ?_
        exact lc_finding hC hL h6 hI hP hD hS hl kk
      · refine lv_tableIn (off := 1558) (tgt := 1591) hx hb dL_law_33 (by decide) (by decide) rfl (by decide) ?_
        exact lc_findings hC hL h6 hI hP hD hS hl kk
      · refine lv_tableIn (off := 1581) (tgt := 1614) hx hb dL_law_33 (by decide) (by decide) rfl (by decide) ?_
        exact lc_digest hC hL h6 hI hP hD hS hl kk
      · refine lv_tableOut (tgt := 1628) hx hb dL_law_33 (Or.inr (by rw [nI_toInt (by omega)]; omega)) (by decide) ?_
        exact kk ad_s_rows ad_s_rows_sizes ad_s_rows_cells ad_s_texts ad_s_texts_sizes ad_s_texts_cells ad_s_desks ad_s_desks_facts ad_s_draft ad_s_draft_facts ad_s_round ad_s_round_hours ad_s_round_gifts ad_s_round_written ad_s_kept ad_s_years ad_s_years_leavers ad_s_years_changes ad_s_years_balances ad_s_walk ad_s_walk_signers ad_s_lying ad_s_trial ad_s_card ad_s_card_times ad_s_forecast ad_s_forecast_walk ad_s_forecast_walk_signers ad_s_forecast_now ad_s_forecast_now_parts ad_s_forecast_now_keys ad_s_forecast_then ad_s_forecast_then_parts ad_s_forecast_then_keys ad_s_sequence ad_s_sequence_sequence ad_s_sequence_bestSequence ad_s_packing ad_s_packing_leastLaid ad_s_findingCounts ad_s_kept_k0 ad_s_kept_k0_hours ad_s_kept_k0_gifts ad_s_kept_k0_written ad_s_kept_k1 ad_s_kept_k1_hours ad_s_kept_k1_gifts ad_s_kept_k1_written ad_s_kept_k2 ad_s_kept_k2_hours ad_s_kept_k2_gifts ad_s_kept_k2_written bd_s_findings bd_s_sizes bd_s_rows bd_s_moving bd_s_lengths bd_s_texts bd_s_desks bd_s_gave bd_s_wrote bd_s_when bd_s_aside bd_s_kept bd_s_weights bd_s_nextWeights bd_s_laid bd_s_mostLaid bd_s_lineMany bd_s_lineUsed bd_s_years bd_s_yearGave bd_s_sums s_latestFinding s_askedNumber s_upperNumber s_lowerNumber s_rows_places s_rows_sizes s_rows_cells s_texts_places s_texts_sizes s_texts_cells s_desks_number s_desks_facts s_draft_number s_draft_facts s_round_start s_round_rule s_round_at s_round_isBack s_round_hour s_round_crossed s_round_law s_round_named s_round_linked s_round_isThere s_round_hours s_round_gifts s_round_written s_years_number s_years_leavers s_years_changes s_years_balances s_walk_signed s_walk_at s_walk_crossed s_walk_target s_walk_heap s_walk_signers s_lying_law s_lying_named s_lying_linked s_lying_total s_lying_givers s_lying_least s_trial_law s_trial_named s_trial_linked s_trial_total s_trial_givers s_trial_least s_card_times s_forecast_whole s_forecast_walk_signed s_forecast_walk_at s_forecast_walk_crossed s_forecast_walk_target s_forecast_walk_heap s_forecast_walk_signers s_forecast_now_number s_forecast_now_partHome s_forecast_now_parts s_forecast_now_keys s_forecast_then_number s_forecast_then_partHome s_forecast_then_parts s_forecast_then_keys s_sequence_length s_sequence_members s_sequence_most s_sequence_least s_sequence_sequence s_sequence_bestSequence s_packing_leastLaid s_findingCounts s_kept_k0_start s_kept_k0_rule s_kept_k0_at s_kept_k0_isBack s_kept_k0_hour s_kept_k0_crossed s_kept_k0_law s_kept_k0_named s_kept_k0_linked s_kept_k0_isThere s_kept_k0_hours s_kept_k0_gifts s_kept_k0_written s_kept_k1_start s_kept_k1_rule s_kept_k1_at s_kept_k1_isBack s_kept_k1_hour s_kept_k1_crossed s_kept_k1_law s_kept_k1_named s_kept_k1_linked s_kept_k1_isThere s_kept_k1_hours s_kept_k1_gifts s_kept_k1_written s_kept_k2_start s_kept_k2_rule s_kept_k2_at s_kept_k2_isBack s_kept_k2_hour s_kept_k2_crossed s_kept_k2_law s_kept_k2_named s_kept_k2_linked s_kept_k2_isThere s_kept_k2_hours s_kept_k2_gifts s_kept_k2_written t_finding t_asked t_upper t_lower t_many t_law t_named t_linked t_readAt t_readMany t_crossed t_wordMost t_wordTimes t_hour t_began t_rule t_place t_isBack t_endPlace t_endDone t_endBack t_endHeap t_endTo t_backWeight t_allWeight t_spanMost t_spanLeast t_isAny t_noneMany t_noneEach t_noneOf t_yearMany t_h0 t_findings t_sizes t_rows t_moving t_lengths t_texts t_desks t_gave t_wrote t_when t_aside t_kept t_weights t_nextWeights t_laid t_mostLaid t_lineMany t_lineUsed t_years t_yearGave t_sums H locs hI hP hD hS
theorem lw_eqi {args : Array Value} {s : State} {tm : Term} {z : Int32} (h : (Cond.eq tm (.int z)).before args s = true) : tm.eval args s none [] s = some (.int z) := by
  cases hv : tm.eval args s none [] s with
  | none => simp [Cond.before, Cond.holds, Cond.value, hv] at h
  | some w =>
    have hz : (Term.int z).eval args s none [] s = some (.int z) := rfl
    simp only [Cond.before, Cond.holds, Cond.value, hv, hz] at h
    cases w <;> simp_all
def lwA (s : State) : Nat → Prop := fun q => s.heap.size ≤ q
theorem lw_st {s : State} {b : Nat} (hts : ∀ w ∈ lw_tbl, w.before #[Value.ref b] s = true) (hgv : (Jvm.Cond.and given_1 narrow_1).before #[Value.ref b] s = true) : kSt (fun q => s.heap.size ≤ q) s s.heap := by
  have hs := flat_of_before _ hgv
  have hA : ∀ a : Nat, a < s.heap.size → ¬ (fun q : Nat => s.heap.size ≤ q) a := fun a h => Nat.not_le.mpr h
  obtain ⟨t, h1, h2⟩ := va_Tof (N := 6) (ty := .int) (tm := .static "EnvelopeCard" "LETTERS" "[I") (f := fun j => .int (lettersF j)) (A := fun q => s.heap.size ≤ q) (by decide) (hs _ (by decide +kernel)) (lw_eqi (hs (.eq (.length (.static "EnvelopeCard" "LETTERS" "[I")) (.int 6)) (by decide +kernel))) (fun j hj => by
    rcases (show j = 0 ∨ j = 1 ∨ j = 2 ∨ j = 3 ∨ j = 4 ∨ j = 5 by omega) with rfl | rfl | rfl | rfl | rfl | rfl
    · exact lw_eqi (hs (.eq (.elem (.static "EnvelopeCard" "LETTERS" "[I") (.int 0)) (.int 104)) (by decide +kernel))
    · exact lw_eqi (hs (.eq (.elem (.static "EnvelopeCard" "LETTERS" "[I") (.int 1)) (.int 113)) (by decide +kernel))
    · exact lw_eqi (hs (.eq (.elem (.static "EnvelopeCard" "LETTERS" "[I") (.int 2)) (.int 112)) (by decide +kernel))
    · exact lw_eqi (hs (.eq (.elem (.static "EnvelopeCard" "LETTERS" "[I") (.int 3)) (.int 97)) (by decide +kernel))
    · exact lw_eqi (hs (.eq (.elem (.static "EnvelopeCard" "LETTERS" "[I") (.int 4)) (.int 99)) (by decide +kernel))
    · exact lw_eqi (hs (.eq (.elem (.static "EnvelopeCard" "LETTERS" "[I") (.int 5)) (.int 101)) (by decide +kernel))
    ) hA
  refine ⟨⟨t, va_Zref (hts _ (List.mem_append_right _ (List.mem_append_right _ (List.mem_append_left _ (List.mem_of_getElem? (i := 222) (by decide +kernel)))))) (hts _ (List.mem_append_right _ (List.mem_append_left _ (List.mem_of_getElem? (i := 1) (by decide +kernel))))) h1 hA, h2⟩, va_Nw.of rfl (hts _ (List.mem_append_right _ (List.mem_append_right _ (List.mem_append_left _ (List.mem_of_getElem? (i := 221) (by decide +kernel)))))), va_AO.of (hts _ (List.mem_append_right _ (List.mem_append_left _ (List.mem_of_getElem? (i := 123) (by decide +kernel))))), ?_⟩
  intro q hq
  simp only [kNest, List.mem_cons, List.mem_nil_iff, or_false] at hq
  rcases hq with rfl | rfl | rfl | rfl | rfl | rfl | rfl | rfl | rfl | rfl | rfl
  · exact va_Nw.of rfl (hts _ (List.mem_append_right _ (List.mem_append_left _ (List.mem_of_getElem? (i := 46) (by decide +kernel)))))
  · exact va_Nw.of rfl (hts _ (List.mem_append_right _ (List.mem_append_left _ (List.mem_of_getElem? (i := 61) (by decide +kernel)))))
  · exact va_Nw.of rfl (hts _ (List.mem_append_right _ (List.mem_append_left _ (List.mem_of_getElem? (i := 126) (by decide +kernel)))))
  · exact va_Nw.of rfl (hts _ (List.mem_append_right _ (List.mem_append_left _ (List.mem_of_getElem? (i := 146) (by decide +kernel)))))
  · exact va_Nw.of rfl (hts _ (List.mem_append_right _ (List.mem_append_left _ (List.mem_of_getElem? (i := 179) (by decide +kernel)))))
  · exact va_Nw.of rfl (hts _ (List.mem_append_right _ (List.mem_append_left _ (List.mem_of_getElem? (i := 208) (by decide +kernel)))))
  · exact va_Nw.of rfl (hts _ (List.mem_append_right _ (List.mem_append_left _ (List.mem_of_getElem? (i := 218) (by decide +kernel)))))
  · exact va_Nw.of rfl (hts _ (List.mem_append_right _ (List.mem_append_left _ (List.mem_of_getElem? (i := 223) (by decide +kernel)))))
  · exact va_Nw.of rfl (hts _ (List.mem_append_right _ (List.mem_append_left _ (List.mem_of_getElem? (i := 226) (by decide +kernel)))))
  · exact va_Nw.of rfl (hts _ (List.mem_append_right _ (List.mem_append_right _ (List.mem_append_left _ (List.mem_of_getElem? (i := 22) (by decide +kernel))))))
  · exact va_Nw.of rfl (hts _ (List.mem_append_right _ (List.mem_append_right _ (List.mem_append_left _ (List.mem_of_getElem? (i := 50) (by decide +kernel))))))
set_option maxHeartbeats 4000000 in
set_option maxRecDepth 100000 in
theorem lw_known {s : State} {b : Nat} (hts : ∀ w ∈ lw_tbl, w.before #[Value.ref b] s = true) : ∃ (D : va_G) (cI cJ cR : ClassId), va_K D vwCl (kT cI cJ cR) s := by
  have hok : ∀ w ∈ lw_ok, w.before #[Value.ref b] s = true := fun w hw => hts w (List.mem_filter.mp hw).1
  obtain ⟨c0, i0, hK0⟩ := u_known (C := RX0) (T := TX0) (N := 1) (n := 1) hok inX0 (hok _ wd271)
  obtain ⟨c1, i1, hK1⟩ := u_known (C := RX1) (T := TX1) (N := 2) (n := 2) hok inX1 (hok _ wd109)
  obtain ⟨c2, i2, hK2⟩ := u_known (C := RX2) (T := TX2) (N := 4) (n := 4) hok inX2 (hok _ wd281)
  obtain ⟨c3, i3, hK3⟩ := u_known (C := RX3) (T := TX3) (N := 6) (n := 6) hok inX3 (hok _ wd325)
  obtain ⟨c4, i4, hK4⟩ := u_known (C := RX4) (T := TX4) (N := 1) (n := 1) hok inX4 (hok _ wd353)
  obtain ⟨c5, i5, hK5⟩ := u_known (C := RX5) (T := TX5) (N := 6) (n := 6) hok inX5 (hok _ wd242)
  obtain ⟨c6, i6, hK6⟩ := u_known (C := RX6) (T := TX6) (N := 13) (n := 13) hok inX6 (hok _ wd124)
  obtain ⟨c7, i7, hK7⟩ := u_known (C := RX7) (T := TX7) (N := 3) (n := 3) hok inX7 (hok _ wd89)
  obtain ⟨c8, i8, hK8⟩ := u_known (C := RX8) (T := TX8) (N := 4) (n := 4) hok inX8 (hok _ wd289)
  obtain ⟨c9, i9, hK9⟩ := u_known (C := RX9) (T := TX9) (N := 6) (n := 6) hok inX9 (hok _ wd209)
  obtain ⟨c10, i10, hK10⟩ := u_known (C := RX10) (T := TX10) (N := 4) (n := 4) hok inX10 (hok _ wd189)
  obtain ⟨c11, i11, hK11⟩ := u_known (C := RX11) (T := TX11) (N := 19) (n := 19) hok inX11 (hok _ wd81)
  obtain ⟨c12, i12, hK12⟩ := u_known (C := RX12) (T := TX12) (N := 54) (n := 54) hok inX12 (hok _ wd1147)
  obtain ⟨cI, kI, pI, f1, f2, f3⟩ := Cond.arrayClass_spec (hok _ wd107)
  obtain ⟨cJ, kJ, pJ, g1, g2, g3⟩ := Cond.arrayClass_spec (hok _ wd309)
  obtain ⟨pR, cR, kR_, r1, -, r3, r4, r5⟩ := Cond.arrayOver_spec (hts (.arrayOver (.object "EnvelopeCard$Round")) (List.mem_append_right _ (List.mem_append_left _ (List.mem_of_getElem? (i := 123) (by decide +kernel)))))
  refine ⟨(fun k => if k = 0 then c0 else if k = 1 then c1 else if k = 2 then c2 else if k = 3 then c3 else if k = 4 then c4 else if k = 5 then c5 else if k = 6 then c6 else if k = 7 then c7 else if k = 8 then c8 else if k = 9 then c9 else if k = 10 then c10 else if k = 11 then c11 else c12, fun k => if k = 0 then i0 else if k = 1 then i1 else if k = 2 then i2 else if k = 3 then i3 else if k = 4 then i4 else if k = 5 then i5 else if k = 6 then i6 else if k = 7 then i7 else if k = 8 then i8 else if k = 9 then i9 else if k = 10 then i10 else if k = 11 then i11 else i12), cI, cJ, cR, ?_, ?_⟩
  · intro k q hq
    match k, hq with
    | 0, hq => cases hq; exact hK0
    | 1, hq => cases hq; exact hK1
    | 2, hq => cases hq; exact hK2
    | 3, hq => cases hq; exact hK3
    | 4, hq => cases hq; exact hK4
    | 5, hq => cases hq; exact hK5
    | 6, hq => cases hq; exact hK6
    | 7, hq => cases hq; exact hK7
    | 8, hq => cases hq; exact hK8
    | 9, hq => cases hq; exact hK9
    | 10, hq => cases hq; exact hK10
    | 11, hq => cases hq; exact hK11
    | 12, hq => cases hq; exact hK12
    | k + 13, hq => exact absurd hq (by simp [vwCl])
  · intro k q hq
    match k, hq with
    | 0, hq => cases hq; exact ⟨fun n z => ⟨fun k h => (by cases h), kI, f2, pI, f3⟩, f1⟩
    | 1, hq => cases hq; exact ⟨fun n z => ⟨fun k h => (by cases h), kJ, g2, pJ, g3⟩, g1⟩
    | 2, hq => cases hq; exact ⟨fun n z => ⟨fun k h => (by cases h), kR_, r3, pR, r4⟩, kR_, pR, r3, r4, r1, r5⟩
    | k + 3, hq => exact absurd hq (by simp [kT])
