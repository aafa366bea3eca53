set_option maxRecDepth 20000 in
set_option maxHeartbeats 2000000 in
theorem inv_init : Inv 0 (0) (0) (fun _ => 0) (0) (1) (0) (0) (0) (0) (fun _ => 0) (fun _ => 0) (fun _ => 0) (fun _ => 0) (fun _ => 0) (0) (0) (0) (1) (0) (0) (0) (fun _ => 0) (fun _ => 0) (fun _ => 0) (fun _ => 0) (fun _ => 0) (fun _ => 0) (0) (fun _ => 0) (0) (1) (0) (fun _ => 0) (fun _ => 0) (fun _ => 0) (fun _ => 0) (upd (fun _ => 0) ((20 : Int32)).toNatClampNeg (1 : Int32)) (fun _ => 0) (0) (fun _ => 0) (fun _ => 0) (0) (fun _ => 0) (fun _ => 0) (fun _ => 0) (fun _ => 0) (0) := by
  refine ⟨⟨0, by omega, rfl, rfl, fun j hj => absurd hj (by omega)⟩, ⟨0, 1, fun _ => 0, fun _ => 0, fun _ => 0, fun _ => 0, ?_, ⟨(fun _ => 0, fun _ => 0, 1, 0), ?_, ?_, ?_⟩, ?_, ?_⟩, ?_, rfl⟩
  · refine ⟨⟨by omega, fun g hg => absurd hg (by omega)⟩, by omega, ⟨rfl, rfl, ?_, ?_, ?_⟩, fun g hg => absurd hg (by omega), fun g hg => absurd hg (by omega), ⟨rfl, rfl⟩, fun g hg => absurd hg (by omega), fun g hg => absurd hg (by omega)⟩
    · decide +kernel
    · decide +kernel
    · decide +kernel
  · exact ⟨fun _ => by show 0 ≤ 2; omega, fun _ => by show 0 < 4; omega, fun g hg => absurd hg (by omega), by show 1 ≤ 1 ∧ 1 ≤ 9; omega, by show 0 ≤ 99 * 0; omega⟩
  · refine ⟨?_, ?_, ?_, rfl, rfl⟩
    · decide +kernel
    · decide +kernel
    · decide +kernel
  · refine ⟨⟨fun g hg => absurd hg (by omega), ?_⟩, fun g hg => absurd hg (by omega), ?_⟩
    · decide +kernel
    · decide +kernel
  · exact ⟨0, 0, fun _ => (fun _ => 0, fun _ => 0, 1, 0), by omega, by omega, rfl, rfl, rfl, fun j hj => absurd hj (by omega)⟩
  · refine ⟨fun _ => false, fun _ _ => rfl, ?_, fun i hi => ⟨rfl, fun h => by cases h⟩⟩
    decide +kernel
  · exact ⟨0, by omega, rfl, rfl, fun j hj => absurd hj (by omega)⟩
set_option maxRecDepth 20000 in
set_option maxHeartbeats 2000000 in
theorem inv_mono {k : Nat} {f_keptSlots : Int32} {f_lastSeed : Int64} {f_text_letters : Nat → Int32} {f_text_length : Int32} {f_plan_chips : Int32} {f_plan_gates : Int32} {f_plan_inputs : Int32} {f_plan_registers : Int32} {f_plan_slowRegisters : Int32} {f_plan_kinds : Nat → Int32} {f_plan_firsts : Nat → Int32} {f_plan_seconds : Nat → Int32} {f_plan_clocks : Nat → Int32} {f_plan_sourceSets : Nat → Int32} {f_now_ones : Int32} {f_now_unknowns : Int32} {f_now_places : Int32} {f_now_pins : Int32} {f_now_count : Int32} {f_hist_next : Int32} {f_hist_held : Int32} {f_ring_cells : Nat → Int32} {f_kept_cells : Nat → Int32} {f_sight_steps : Nat → Int32} {f_sight_gates : Nat → Int32} {f_sight_values : Nat → Int32} {f_sight_truths : Nat → Int32} {f_sight_held : Int32} {m_text : Nat → Int32} {m_textSize : Int32} {m_chips : Int32} {m_gates : Int32} {m_kind : Nat → Int32} {m_source : Nat → Int32} {m_second : Nat → Int32} {m_clock : Nat → Int32} {m_page : Nat → Int32} {m_book : Nat → Int32} {m_doings : Int32} {m_kept : Nat → Int32} {m_isKept : Nat → Int32} {m_seen : Int32} {m_seenBehind : Nat → Int32} {m_seenGate : Nat → Int32} {m_seenWorth : Nat → Int32} {m_seenWas : Nat → Int32} {m_seed : Int64} (h : Inv k f_keptSlots f_lastSeed f_text_letters f_text_length f_plan_chips f_plan_gates f_plan_inputs f_plan_registers f_plan_slowRegisters f_plan_kinds f_plan_firsts f_plan_seconds f_plan_clocks f_plan_sourceSets f_now_ones f_now_unknowns f_now_places f_now_pins f_now_count f_hist_next f_hist_held f_ring_cells f_kept_cells f_sight_steps f_sight_gates f_sight_values f_sight_truths f_sight_held m_text m_textSize m_chips m_gates m_kind m_source m_second m_clock m_page m_book m_doings m_kept m_isKept m_seen m_seenBehind m_seenGate m_seenWorth m_seenWas m_seed) : Inv (k + 1) f_keptSlots f_lastSeed f_text_letters f_text_length f_plan_chips f_plan_gates f_plan_inputs f_plan_registers f_plan_slowRegisters f_plan_kinds f_plan_firsts f_plan_seconds f_plan_clocks f_plan_sourceSets f_now_ones f_now_unknowns f_now_places f_now_pins f_now_count f_hist_next f_hist_held f_ring_cells f_kept_cells f_sight_steps f_sight_gates f_sight_values f_sight_truths f_sight_held m_text m_textSize m_chips m_gates m_kind m_source m_second m_clock m_page m_book m_doings m_kept m_isKept m_seen m_seenBehind m_seenGate m_seenWorth m_seenWas m_seed := by
  obtain ⟨hT, ⟨N, C, kd, s1, s2, ck, hP, ⟨z, hz, hz2⟩, hH, hK⟩, hSe, hSd⟩ := h
  exact ⟨hT, ⟨N, C, kd, s1, s2, ck, hP, ⟨z, hz.mono, hz2⟩, hH.mono, hK.mono⟩, hSe, hSd⟩
set_option maxRecDepth 20000 in
set_option maxHeartbeats 2000000 in
theorem law_write {k : Nat} {f_keptSlots : Int32} {f_lastSeed : Int64} {f_text_letters : Nat → Int32} {f_text_length : Int32} {f_plan_chips : Int32} {f_plan_gates : Int32} {f_plan_inputs : Int32} {f_plan_registers : Int32} {f_plan_slowRegisters : Int32} {f_plan_kinds : Nat → Int32} {f_plan_firsts : Nat → Int32} {f_plan_seconds : Nat → Int32} {f_plan_clocks : Nat → Int32} {f_plan_sourceSets : Nat → Int32} {f_now_ones : Int32} {f_now_unknowns : Int32} {f_now_places : Int32} {f_now_pins : Int32} {f_now_count : Int32} {f_hist_next : Int32} {f_hist_held : Int32} {f_ring_cells : Nat → Int32} {f_kept_cells : Nat → Int32} {f_sight_steps : Nat → Int32} {f_sight_gates : Nat → Int32} {f_sight_values : Nat → Int32} {f_sight_truths : Nat → Int32} {f_sight_held : Int32} {m_thrown : Int32} {m_text : Nat → Int32} {m_textSize : Int32} {m_chips : Int32} {m_gates : Int32} {m_kind : Nat → Int32} {m_source : Nat → Int32} {m_second : Nat → Int32} {m_clock : Nat → Int32} {m_page : Nat → Int32} {m_book : Nat → Int32} {m_doings : Int32} {m_kept : Nat → Int32} {m_isKept : Nat → Int32} {m_seen : Int32} {m_seenBehind : Nat → Int32} {m_seenGate : Nat → Int32} {m_seenWorth : Nat → Int32} {m_seenWas : Nat → Int32} {m_seed : Int64} (hk : k < 512) (hI : Inv k f_keptSlots f_lastSeed f_text_letters f_text_length f_plan_chips f_plan_gates f_plan_inputs f_plan_registers f_plan_slowRegisters f_plan_kinds f_plan_firsts f_plan_seconds f_plan_clocks f_plan_sourceSets f_now_ones f_now_unknowns f_now_places f_now_pins f_now_count f_hist_next f_hist_held f_ring_cells f_kept_cells f_sight_steps f_sight_gates f_sight_values f_sight_truths f_sight_held m_text m_textSize m_chips m_gates m_kind m_source m_second m_clock m_page m_book m_doings m_kept m_isKept m_seen m_seenBehind m_seenGate m_seenWorth m_seenWas m_seed) (a1 : Int32) :
    wp_X9_write f_text_length f_text_letters a1 (fun r y_text_length y_text_letters => wp_X10_write m_text m_textSize m_thrown a1 (fun r2 z_text z_textSize z_thrown => r = r2 ∧ Inv (k + 1) f_keptSlots f_lastSeed y_text_letters y_text_length f_plan_chips f_plan_gates f_plan_inputs f_plan_registers f_plan_slowRegisters f_plan_kinds f_plan_firsts f_plan_seconds f_plan_clocks f_plan_sourceSets f_now_ones f_now_unknowns f_now_places f_now_pins f_now_count f_hist_next f_hist_held f_ring_cells f_kept_cells f_sight_steps f_sight_gates f_sight_values f_sight_truths f_sight_held z_text z_textSize m_chips m_gates m_kind m_source m_second m_clock m_page m_book m_doings m_kept m_isKept m_seen m_seenBehind m_seenGate m_seenWorth m_seenWas m_seed)) := by
  obtain ⟨⟨T, hT, rfl, rfl, hL⟩, hrest⟩ := inv_mono hI
  unfold wp_X9_write wp_X8_append wp_X10_write
  have same : Inv _ _ _ _ _ _ _ _ _ _ _ _ _ _ _ _ _ _ _ _ _ _ _ _ _ _ _ _ _ _ _ _ _ _ _ _ _ _ _ _ _ _ _ _ _ _ _ _ := inv_mono hI
  rcases rg_ix a1 0 255 (by omega) with ⟨j, -, hj, rfl⟩ | ha
  · refine in_ll (L := 0) (H := 255) (by omega) hj (by omega) ?_
    refine pk_lt T 90 (fun h => ?_) (fun h => ?_)
    · refine ev_setCell h (by omega) (all_e (br_f (by decide) ?_))
      refine ev_in_t (L := 0) (H := 255) (by omega) hj (by omega) (bn_f (by decide) (bn_f ?_ ⟨vp_in_nI h (by omega), all_e (all_e ⟨rfl, ?_⟩)⟩))
      · rw [show (90 : Int32) = nI 90 from rfl, nI_eq (by omega) (by omega)]; omega
      · refine ⟨⟨T + 1, by omega, nI_1 T, nI_1 T, fun i hi => ?_⟩, hrest⟩
        rw [nI_clamp (by omega)]
        by_cases e : i = T
        · subst e; rw [upd_s, upd_s]; exact ⟨rfl, j, by omega, rfl⟩
        · rw [upd_n e, upd_n e]; exact hL i (by omega)
    · have e : T = 90 := by omega
      subst e
      refine br_t rfl ?_
      exact ev_in_t (L := 0) (H := 255) (by omega) hj (by omega) (bn_f (by decide) (bn_t rfl ⟨rfl, same⟩))
  · refine out_ll (L := 0) (H := 255) (by omega) (by omega) ha ?_
    exact ev_in_f ha (bn_t rfl ⟨rfl, same⟩)
set_option maxRecDepth 20000 in
set_option maxHeartbeats 2000000 in
theorem law_wipe {k : Nat} {f_keptSlots : Int32} {f_lastSeed : Int64} {f_text_letters : Nat → Int32} {f_text_length : Int32} {f_plan_chips : Int32} {f_plan_gates : Int32} {f_plan_inputs : Int32} {f_plan_registers : Int32} {f_plan_slowRegisters : Int32} {f_plan_kinds : Nat → Int32} {f_plan_firsts : Nat → Int32} {f_plan_seconds : Nat → Int32} {f_plan_clocks : Nat → Int32} {f_plan_sourceSets : Nat → Int32} {f_now_ones : Int32} {f_now_unknowns : Int32} {f_now_places : Int32} {f_now_pins : Int32} {f_now_count : Int32} {f_hist_next : Int32} {f_hist_held : Int32} {f_ring_cells : Nat → Int32} {f_kept_cells : Nat → Int32} {f_sight_steps : Nat → Int32} {f_sight_gates : Nat → Int32} {f_sight_values : Nat → Int32} {f_sight_truths : Nat → Int32} {f_sight_held : Int32} {m_thrown : Int32} {m_text : Nat → Int32} {m_textSize : Int32} {m_chips : Int32} {m_gates : Int32} {m_kind : Nat → Int32} {m_source : Nat → Int32} {m_second : Nat → Int32} {m_clock : Nat → Int32} {m_page : Nat → Int32} {m_book : Nat → Int32} {m_doings : Int32} {m_kept : Nat → Int32} {m_isKept : Nat → Int32} {m_seen : Int32} {m_seenBehind : Nat → Int32} {m_seenGate : Nat → Int32} {m_seenWorth : Nat → Int32} {m_seenWas : Nat → Int32} {m_seed : Int64} (hk : k < 512) (hI : Inv k f_keptSlots f_lastSeed f_text_letters f_text_length f_plan_chips f_plan_gates f_plan_inputs f_plan_registers f_plan_slowRegisters f_plan_kinds f_plan_firsts f_plan_seconds f_plan_clocks f_plan_sourceSets f_now_ones f_now_unknowns f_now_places f_now_pins f_now_count f_hist_next f_hist_held f_ring_cells f_kept_cells f_sight_steps f_sight_gates f_sight_values f_sight_truths f_sight_held m_text m_textSize m_chips m_gates m_kind m_source m_second m_clock m_page m_book m_doings m_kept m_isKept m_seen m_seenBehind m_seenGate m_seenWorth m_seenWas m_seed)  :
    wp_X9_wipe f_text_length  (fun r y_text_length => wp_X10_wipe m_textSize m_thrown  (fun r2 z_textSize z_thrown => r = r2 ∧ Inv (k + 1) f_keptSlots f_lastSeed f_text_letters y_text_length f_plan_chips f_plan_gates f_plan_inputs f_plan_registers f_plan_slowRegisters f_plan_kinds f_plan_firsts f_plan_seconds f_plan_clocks f_plan_sourceSets f_now_ones f_now_unknowns f_now_places f_now_pins f_now_count f_hist_next f_hist_held f_ring_cells f_kept_cells f_sight_steps f_sight_gates f_sight_values f_sight_truths f_sight_held m_text z_textSize m_chips m_gates m_kind m_source m_second m_clock m_page m_book m_doings m_kept m_isKept m_seen m_seenBehind m_seenGate m_seenWorth m_seenWas m_seed)) := by
  obtain ⟨⟨T, hT, rfl, rfl, hL⟩, hrest⟩ := inv_mono hI
  unfold wp_X9_wipe wp_X10_wipe
  exact ⟨rfl, ⟨0, by omega, rfl, rfl, fun j hj => absurd hj (by omega)⟩, hrest⟩
set_option maxRecDepth 20000 in
set_option maxHeartbeats 2000000 in
theorem law_unsee {k : Nat} {f_keptSlots : Int32} {f_lastSeed : Int64} {f_text_letters : Nat → Int32} {f_text_length : Int32} {f_plan_chips : Int32} {f_plan_gates : Int32} {f_plan_inputs : Int32} {f_plan_registers : Int32} {f_plan_slowRegisters : Int32} {f_plan_kinds : Nat → Int32} {f_plan_firsts : Nat → Int32} {f_plan_seconds : Nat → Int32} {f_plan_clocks : Nat → Int32} {f_plan_sourceSets : Nat → Int32} {f_now_ones : Int32} {f_now_unknowns : Int32} {f_now_places : Int32} {f_now_pins : Int32} {f_now_count : Int32} {f_hist_next : Int32} {f_hist_held : Int32} {f_ring_cells : Nat → Int32} {f_kept_cells : Nat → Int32} {f_sight_steps : Nat → Int32} {f_sight_gates : Nat → Int32} {f_sight_values : Nat → Int32} {f_sight_truths : Nat → Int32} {f_sight_held : Int32} {m_thrown : Int32} {m_text : Nat → Int32} {m_textSize : Int32} {m_chips : Int32} {m_gates : Int32} {m_kind : Nat → Int32} {m_source : Nat → Int32} {m_second : Nat → Int32} {m_clock : Nat → Int32} {m_page : Nat → Int32} {m_book : Nat → Int32} {m_doings : Int32} {m_kept : Nat → Int32} {m_isKept : Nat → Int32} {m_seen : Int32} {m_seenBehind : Nat → Int32} {m_seenGate : Nat → Int32} {m_seenWorth : Nat → Int32} {m_seenWas : Nat → Int32} {m_seed : Int64} (hk : k < 512) (hI : Inv k f_keptSlots f_lastSeed f_text_letters f_text_length f_plan_chips f_plan_gates f_plan_inputs f_plan_registers f_plan_slowRegisters f_plan_kinds f_plan_firsts f_plan_seconds f_plan_clocks f_plan_sourceSets f_now_ones f_now_unknowns f_now_places f_now_pins f_now_count f_hist_next f_hist_held f_ring_cells f_kept_cells f_sight_steps f_sight_gates f_sight_values f_sight_truths f_sight_held m_text m_textSize m_chips m_gates m_kind m_source m_second m_clock m_page m_book m_doings m_kept m_isKept m_seen m_seenBehind m_seenGate m_seenWorth m_seenWas m_seed)  :
    wp_X9_unsee f_sight_held  (fun r y_sight_held => wp_X10_unsee m_seen m_thrown  (fun r2 z_seen z_thrown => r = r2 ∧ Inv (k + 1) f_keptSlots f_lastSeed f_text_letters f_text_length f_plan_chips f_plan_gates f_plan_inputs f_plan_registers f_plan_slowRegisters f_plan_kinds f_plan_firsts f_plan_seconds f_plan_clocks f_plan_sourceSets f_now_ones f_now_unknowns f_now_places f_now_pins f_now_count f_hist_next f_hist_held f_ring_cells f_kept_cells f_sight_steps f_sight_gates f_sight_values f_sight_truths y_sight_held m_text m_textSize m_chips m_gates m_kind m_source m_second m_clock m_page m_book m_doings m_kept m_isKept z_seen m_seenBehind m_seenGate m_seenWorth m_seenWas m_seed)) := by
  obtain ⟨hT, hP, ⟨H, hH, rfl, rfl, hS⟩, hd⟩ := inv_mono hI
  unfold wp_X9_unsee wp_X10_unsee
  exact ⟨rfl, hT, hP, ⟨0, by omega, rfl, rfl, fun j hj => absurd hj (by omega)⟩, hd⟩
set_option maxRecDepth 20000 in
set_option maxHeartbeats 2000000 in
theorem law_seed {k : Nat} {f_keptSlots : Int32} {f_lastSeed : Int64} {f_text_letters : Nat → Int32} {f_text_length : Int32} {f_plan_chips : Int32} {f_plan_gates : Int32} {f_plan_inputs : Int32} {f_plan_registers : Int32} {f_plan_slowRegisters : Int32} {f_plan_kinds : Nat → Int32} {f_plan_firsts : Nat → Int32} {f_plan_seconds : Nat → Int32} {f_plan_clocks : Nat → Int32} {f_plan_sourceSets : Nat → Int32} {f_now_ones : Int32} {f_now_unknowns : Int32} {f_now_places : Int32} {f_now_pins : Int32} {f_now_count : Int32} {f_hist_next : Int32} {f_hist_held : Int32} {f_ring_cells : Nat → Int32} {f_kept_cells : Nat → Int32} {f_sight_steps : Nat → Int32} {f_sight_gates : Nat → Int32} {f_sight_values : Nat → Int32} {f_sight_truths : Nat → Int32} {f_sight_held : Int32} {m_thrown : Int32} {m_text : Nat → Int32} {m_textSize : Int32} {m_chips : Int32} {m_gates : Int32} {m_kind : Nat → Int32} {m_source : Nat → Int32} {m_second : Nat → Int32} {m_clock : Nat → Int32} {m_page : Nat → Int32} {m_book : Nat → Int32} {m_doings : Int32} {m_kept : Nat → Int32} {m_isKept : Nat → Int32} {m_seen : Int32} {m_seenBehind : Nat → Int32} {m_seenGate : Nat → Int32} {m_seenWorth : Nat → Int32} {m_seenWas : Nat → Int32} {m_seed : Int64} (hk : k < 512) (hI : Inv k f_keptSlots f_lastSeed f_text_letters f_text_length f_plan_chips f_plan_gates f_plan_inputs f_plan_registers f_plan_slowRegisters f_plan_kinds f_plan_firsts f_plan_seconds f_plan_clocks f_plan_sourceSets f_now_ones f_now_unknowns f_now_places f_now_pins f_now_count f_hist_next f_hist_held f_ring_cells f_kept_cells f_sight_steps f_sight_gates f_sight_values f_sight_truths f_sight_held m_text m_textSize m_chips m_gates m_kind m_source m_second m_clock m_page m_book m_doings m_kept m_isKept m_seen m_seenBehind m_seenGate m_seenWorth m_seenWas m_seed) (a1 : Int64) :
    wp_X9_seed f_lastSeed a1 (fun r y_lastSeed => wp_X10_seed m_seed m_thrown a1 (fun r2 z_seed z_thrown => r = r2 ∧ Inv (k + 1) f_keptSlots y_lastSeed f_text_letters f_text_length f_plan_chips f_plan_gates f_plan_inputs f_plan_registers f_plan_slowRegisters f_plan_kinds f_plan_firsts f_plan_seconds f_plan_clocks f_plan_sourceSets f_now_ones f_now_unknowns f_now_places f_now_pins f_now_count f_hist_next f_hist_held f_ring_cells f_kept_cells f_sight_steps f_sight_gates f_sight_values f_sight_truths f_sight_held m_text m_textSize m_chips m_gates m_kind m_source m_second m_clock m_page m_book m_doings m_kept m_isKept m_seen m_seenBehind m_seenGate m_seenWorth m_seenWas z_seed)) := by
  obtain ⟨hT, hP, hS, hd⟩ := inv_mono hI
  unfold wp_X9_seed wp_X10_seed
  exact ⟨hd, hT, hP, hS, rfl⟩
set_option maxRecDepth 20000 in
set_option maxHeartbeats 2000000 in
theorem law_see {k : Nat} {f_keptSlots : Int32} {f_lastSeed : Int64} {f_text_letters : Nat → Int32} {f_text_length : Int32} {f_plan_chips : Int32} {f_plan_gates : Int32} {f_plan_inputs : Int32} {f_plan_registers : Int32} {f_plan_slowRegisters : Int32} {f_plan_kinds : Nat → Int32} {f_plan_firsts : Nat → Int32} {f_plan_seconds : Nat → Int32} {f_plan_clocks : Nat → Int32} {f_plan_sourceSets : Nat → Int32} {f_now_ones : Int32} {f_now_unknowns : Int32} {f_now_places : Int32} {f_now_pins : Int32} {f_now_count : Int32} {f_hist_next : Int32} {f_hist_held : Int32} {f_ring_cells : Nat → Int32} {f_kept_cells : Nat → Int32} {f_sight_steps : Nat → Int32} {f_sight_gates : Nat → Int32} {f_sight_values : Nat → Int32} {f_sight_truths : Nat → Int32} {f_sight_held : Int32} {m_thrown : Int32} {m_text : Nat → Int32} {m_textSize : Int32} {m_chips : Int32} {m_gates : Int32} {m_kind : Nat → Int32} {m_source : Nat → Int32} {m_second : Nat → Int32} {m_clock : Nat → Int32} {m_page : Nat → Int32} {m_book : Nat → Int32} {m_doings : Int32} {m_kept : Nat → Int32} {m_isKept : Nat → Int32} {m_seen : Int32} {m_seenBehind : Nat → Int32} {m_seenGate : Nat → Int32} {m_seenWorth : Nat → Int32} {m_seenWas : Nat → Int32} {m_seed : Int64} (hk : k < 512) (hI : Inv k f_keptSlots f_lastSeed f_text_letters f_text_length f_plan_chips f_plan_gates f_plan_inputs f_plan_registers f_plan_slowRegisters f_plan_kinds f_plan_firsts f_plan_seconds f_plan_clocks f_plan_sourceSets f_now_ones f_now_unknowns f_now_places f_now_pins f_now_count f_hist_next f_hist_held f_ring_cells f_kept_cells f_sight_steps f_sight_gates f_sight_values f_sight_truths f_sight_held m_text m_textSize m_chips m_gates m_kind m_source m_second m_clock m_page m_book m_doings m_kept m_isKept m_seen m_seenBehind m_seenGate m_seenWorth m_seenWas m_seed) (a1 : Int32) (a2 : Int32) (a3 : Int32) (a4 : Int32) :
    wp_X9_see f_plan_gates f_sight_gates f_sight_held f_sight_steps f_sight_truths f_sight_values a1 a2 a3 a4 (fun r y_sight_gates y_sight_held y_sight_steps y_sight_truths y_sight_values => wp_X10_see m_gates m_seen m_seenBehind m_seenGate m_seenWas m_seenWorth m_thrown a1 a2 a3 a4 (fun r2 z_seen z_seenBehind z_seenGate z_seenWas z_seenWorth z_thrown => r = r2 ∧ Inv (k + 1) f_keptSlots f_lastSeed f_text_letters f_text_length f_plan_chips f_plan_gates f_plan_inputs f_plan_registers f_plan_slowRegisters f_plan_kinds f_plan_firsts f_plan_seconds f_plan_clocks f_plan_sourceSets f_now_ones f_now_unknowns f_now_places f_now_pins f_now_count f_hist_next f_hist_held f_ring_cells f_kept_cells y_sight_steps y_sight_gates y_sight_values y_sight_truths y_sight_held m_text m_textSize m_chips m_gates m_kind m_source m_second m_clock m_page m_book m_doings m_kept m_isKept z_seen z_seenBehind z_seenGate z_seenWorth z_seenWas m_seed)) := by
  have same := inv_mono hI
  obtain ⟨hT, hP, ⟨H, hH, rfl, rfl, hS⟩, hd⟩ := inv_mono hI
  have hP0 := hP
  obtain ⟨N, C, kd, s1, s2, ck, ⟨hO, hC, ⟨rfl, rfl, rfl, rfl, rfl⟩, hPA, hck, ⟨rfl, rfl⟩, hPB, hckM⟩, hrest⟩ := hP
  have hN := hO.1
  unfold wp_X9_see wp_X10_see wp_X6_add
  rcases ge_ix (a := a2) (N := N) (by omega) with ⟨g, hg, rfl⟩ | hg
  · refine ev_isGate_t (by omega) hg (bn_f (by decide) ?_)
    rcases rg_ix a1 0 9 (by omega) with ⟨n, -, hn, rfl⟩ | hn
    · refine in_lg (L := 0) (H := 9) (by omega) hn (by omega) ?_
      rcases rg_ix a3 0 2 (by omega) with ⟨v, -, hv, rfl⟩ | hv
      · refine ev_isValue_t hv (br_f (by decide) ?_)
        rcases rg_ix a4 0 1 (by omega) with ⟨b, -, hb, rfl⟩ | hb
        · refine in_ll (L := 0) (H := 1) (by omega) hb (by omega) ?_
          refine pk_lt H 6 (fun h => ?_) (fun h => ?_)
          · refine ev_setCell h (by omega) (ev_setCell h (by omega) (ev_setCell h (by omega) (ev_setCell h (by omega) (all_e (br_f (by decide) ?_)))))
            refine ev_noGate_t (by omega) hg (br_t rfl (ev_in_t (L := 0) (H := 9) (by omega) hn (by omega) (br_f (by decide) (ev_in_t (L := 0) (H := 2) (by omega) hv (by omega) (br_f (by decide) (ev_in_t (L := 0) (H := 1) (by omega) hb (by omega) (bn_f (by decide) (bn_f ?_ ?_))))))))
            · rw [show (6 : Int32) = nI 6 from rfl, nI_eq (by omega) (by omega)]; omega
            · have hi := vp_in_nI h (by omega)
              refine ⟨hi, all_e ⟨hi, all_e ⟨hi, all_e ⟨hi, all_e (all_e ⟨rfl, hT, hP0, ?_, hd⟩)⟩⟩⟩⟩
              refine ⟨H + 1, by omega, nI_1 H, nI_1 H, fun j hj => ?_⟩
              rw [nI_clamp (by omega)]
              by_cases e : j = H
              · subst e
                exact ⟨n, g, v, b, hn, by omega, hv, hb, upd_s, upd_s, upd_s, upd_s, upd_s, upd_s, upd_s, upd_s⟩
              · obtain ⟨a, g', v', b', h1, h2, h3, h4, e1, e2, e3, e4, e5, e6, e7, e8⟩ := hS j (by omega)
                exact ⟨a, g', v', b', h1, h2, h3, h4, (upd_n e).trans e1, (upd_n e).trans e2, (upd_n e).trans e3, (upd_n e).trans e4, (upd_n e).trans e5, (upd_n e).trans e6, (upd_n e).trans e7, (upd_n e).trans e8⟩
          · have e : H = 6 := by omega
            subst e
            refine br_t rfl ?_
            exact ev_noGate_t (by omega) hg (br_t rfl (ev_in_t (L := 0) (H := 9) (by omega) hn (by omega) (br_f (by decide) (ev_in_t (L := 0) (H := 2) (by omega) hv (by omega) (br_f (by decide) (ev_in_t (L := 0) (H := 1) (by omega) hb (by omega) (bn_f (by decide) (bn_t rfl ⟨rfl, same⟩))))))))
        · refine out_ll (L := 0) (H := 1) (by omega) (by omega) hb ?_
          exact ev_noGate_t (by omega) hg (br_t rfl (ev_in_t (L := 0) (H := 9) (by omega) hn (by omega) (br_f (by decide) (ev_in_t (L := 0) (H := 2) (by omega) hv (by omega) (br_f (by decide) (ev_in_f hb (bn_t rfl ⟨rfl, same⟩)))))))
      · refine ev_isValue_f hv (br_t rfl ?_)
        exact ev_noGate_t (by omega) hg (br_t rfl (ev_in_t (L := 0) (H := 9) (by omega) hn (by omega) (br_f (by decide) (ev_in_f hv (br_t rfl ⟨rfl, same⟩)))))
    · refine out_lg (L := 0) (H := 9) (by omega) (by omega) hn ?_
      exact ev_noGate_t (by omega) hg (br_t rfl (ev_in_f hn (br_t rfl ⟨rfl, same⟩)))
  · refine ev_isGate_f (by omega) hg (bn_t rfl ?_)
    exact ev_noGate_f (by omega) hg (br_f (by decide) ⟨rfl, same⟩)
