set_option maxRecDepth 100000 in
set_option maxHeartbeats 4000000 in
theorem c_X9_write {l : Launch} {D : va_G} {cI cZ : ClassId} {ad : Nat → Nat} {f_keptSlots : Int32} {f_trace : Nat → Int32} {f_lastSeed : Int64} {f_text_letters : Nat → Int32} {f_text_length : Int32} {f_reader_place : Int32} {f_reader_greatestSource : Int32} {f_plan_chips : Int32} {f_plan_firstPins : Int32} {f_plan_firstPlaces : Int32} {f_plan_gates : Int32} {f_plan_inputs : Int32} {f_plan_registers : Int32} {f_plan_slowRegisters : Int32} {f_plan_kinds : Nat → Int32} {f_plan_firsts : Nat → Int32} {f_plan_seconds : Nat → Int32} {f_plan_clocks : Nat → Int32} {f_plan_sourceSets : Nat → Int32} {f_spare_chips : Int32} {f_spare_firstPins : Int32} {f_spare_firstPlaces : Int32} {f_spare_gates : Int32} {f_spare_inputs : Int32} {f_spare_registers : Int32} {f_spare_slowRegisters : Int32} {f_spare_kinds : Nat → Int32} {f_spare_firsts : Nat → Int32} {f_spare_seconds : Nat → Int32} {f_spare_clocks : Nat → Int32} {f_spare_sourceSets : Nat → Int32} {f_now_ones : Int32} {f_now_unknowns : Int32} {f_now_places : Int32} {f_now_pins : Int32} {f_now_count : Int32} {f_copy_ones : Int32} {f_copy_unknowns : Int32} {f_copy_places : Int32} {f_copy_pins : Int32} {f_copy_count : Int32} {f_logic_ones : Int32} {f_logic_unknowns : Int32} {f_logic_settled : Int32} {f_sched_available : Nat → Int32} {f_sched_wanted : Nat → Int32} {f_sched_coming : Nat → Int32} {f_sched_waiting : Int32} {f_sched_taken : Int32} {f_sched_sent : Int32} {f_sched_lastSent : Int32} {f_hist_next : Int32} {f_hist_held : Int32} {f_ring_cells : Nat → Int32} {f_kept_cells : Nat → Int32} {f_sight_steps : Nat → Int32} {f_sight_gates : Nat → Int32} {f_sight_values : Nat → Int32} {f_sight_truths : Nat → Int32} {f_sight_held : Int32} {X : va_W} {p1 : Int32} {Q : Int32 → Int32 → (Nat → Int32) → Prop} (h : wp_X9_write f_text_length f_text_letters p1 Q) : CtI l yX9_write cX9_write 2 (some .int) ({ frames := 2, cells := 0, slots := 0, locals := 43 } : Room) D [(cI, .int), (cZ, .boolean)] [.ref (ad 33), .int p1] (wC ad cI cZ f_keptSlots f_trace f_lastSeed f_text_letters f_text_length f_reader_place f_reader_greatestSource f_plan_chips f_plan_firstPins f_plan_firstPlaces f_plan_gates f_plan_inputs f_plan_registers f_plan_slowRegisters f_plan_kinds f_plan_firsts f_plan_seconds f_plan_clocks f_plan_sourceSets f_spare_chips f_spare_firstPins f_spare_firstPlaces f_spare_gates f_spare_inputs f_spare_registers f_spare_slowRegisters f_spare_kinds f_spare_firsts f_spare_seconds f_spare_clocks f_spare_sourceSets f_now_ones f_now_unknowns f_now_places f_now_pins f_now_count f_copy_ones f_copy_unknowns f_copy_places f_copy_pins f_copy_count f_logic_ones f_logic_unknowns f_logic_settled f_sched_available f_sched_wanted f_sched_coming f_sched_waiting f_sched_taken f_sched_sent f_sched_lastSent f_hist_next f_hist_held f_ring_cells f_kept_cells f_sight_steps f_sight_gates f_sight_values f_sight_truths f_sight_held X) (fun r u => ∃ w0 w1, u = (wC ad cI cZ f_keptSlots f_trace f_lastSeed w1 w0 f_reader_place f_reader_greatestSource f_plan_chips f_plan_firstPins f_plan_firstPlaces f_plan_gates f_plan_inputs f_plan_registers f_plan_slowRegisters f_plan_kinds f_plan_firsts f_plan_seconds f_plan_clocks f_plan_sourceSets f_spare_chips f_spare_firstPins f_spare_firstPlaces f_spare_gates f_spare_inputs f_spare_registers f_spare_slowRegisters f_spare_kinds f_spare_firsts f_spare_seconds f_spare_clocks f_spare_sourceSets f_now_ones f_now_unknowns f_now_places f_now_pins f_now_count f_copy_ones f_copy_unknowns f_copy_places f_copy_pins f_copy_count f_logic_ones f_logic_unknowns f_logic_settled f_sched_available f_sched_wanted f_sched_coming f_sched_waiting f_sched_taken f_sched_sent f_sched_lastSent f_hist_next f_hist_held f_ring_cells f_kept_cells f_sight_steps f_sight_gates f_sight_values f_sight_truths f_sight_held X) ∧ Q r w0 w1) := by
  refine CtI.of (by decide) rfl (Nat.le_of_ble_eq_true rfl) ?_
  intro p e s m args below meth c A Z E hret ls hl hw
  have E : gE p m c cX9_write 2 s args RX9 D [(cI, .int), (cZ, .boolean)] A := E
  have hx := E.1.1
  have hb := E.1.2.1
  have hl : lv_has ls 2 [(0, .ref (ad 33)), (1, .int p1)] := hl
  unfold wp_X9_write at h
  refine lv_iload_n hx hb dX9_write_0 rfl (lv_at hl 1 rfl) ?_
  refine lv_if_lt (tgt := 11) hx hb dX9_write_1 (by decide) (fun c1 => ?_) (fun c1 => ?_)
  · have h := h.1 c1
    refine lv_bipush (v := -2) hx hb dX9_write_11 (by decide) ?_
    exact hret _ _ _ _ _ _ ⟨_, _, rfl, h⟩ hw dX9_write_13
  · have h := h.2 c1
    refine lv_iload_n hx hb dX9_write_4 rfl (lv_at hl 1 rfl) ?_
    refine lv_sipush (v := 255) hx hb dX9_write_5 (by decide) ?_
    refine lv_icmp_le (tgt := 14) hx hb dX9_write_8 (by decide) (fun c2 => ?_) (fun c2 => ?_)
    · have h := h.1 c2
      refine lv_aload_n hx hb dX9_write_14 rfl (lv_at hl 0 rfl) ?_
      refine gC_X9_12_main E hw dX9_write_15 ?_
      refine lv_iload_n hx hb dX9_write_18 rfl (lv_at hl 1 rfl) ?_
      refine g_aI E hw (g_rV E hw (c_X8_append h _) ym_X8_append k_181 ⟨rfl, rfl⟩ ⟨Nat.le_of_ble_eq_true rfl, Nat.le_of_ble_eq_true rfl⟩ 32 rfl rfl rfl rfl hl.1 rfl (Nat.le_of_ble_eq_true rfl) ⟨Nat.zero_le _, Nat.zero_le _⟩ dX9_write_19) (fun r3 u H locs hq hw => ?_)
      obtain ⟨y4, y5, hu, h⟩ := hq
      rw [hu] at hw
      refine lv_if_eq (tgt := 35) hx hb dX9_write_22 (by decide) (fun c6 => ?_) (fun c6 => ?_)
      · have h := h.1 c6
        refine lv_bipush (v := -4) hx hb dX9_write_35 (by decide) ?_
        exact hret _ _ _ _ _ _ ⟨_, _, rfl, h⟩ hw dX9_write_37
      · have h := h.2 c6
        refine lv_aload_n hx hb dX9_write_25 rfl (lv_at hl 0 rfl) ?_
        refine gC_X9_12_main E hw dX9_write_26 ?_
        refine gC_X9_96_text E hw dX9_write_29 ?_
        refine lv_goto (tgt := 37) hx hb dX9_write_32 (by decide) ?_
        exact hret _ _ _ _ _ _ ⟨_, _, rfl, h⟩ hw dX9_write_37
    · have h := h.2 c2
      refine lv_bipush (v := -2) hx hb dX9_write_11 (by decide) ?_
      exact hret _ _ _ _ _ _ ⟨_, _, rfl, h⟩ hw dX9_write_13
set_option maxRecDepth 100000 in
set_option maxHeartbeats 4000000 in
theorem c_X9_wipe {l : Launch} {D : va_G} {cI cZ : ClassId} {ad : Nat → Nat} {f_keptSlots : Int32} {f_trace : Nat → Int32} {f_lastSeed : Int64} {f_text_letters : Nat → Int32} {f_text_length : Int32} {f_reader_place : Int32} {f_reader_greatestSource : Int32} {f_plan_chips : Int32} {f_plan_firstPins : Int32} {f_plan_firstPlaces : Int32} {f_plan_gates : Int32} {f_plan_inputs : Int32} {f_plan_registers : Int32} {f_plan_slowRegisters : Int32} {f_plan_kinds : Nat → Int32} {f_plan_firsts : Nat → Int32} {f_plan_seconds : Nat → Int32} {f_plan_clocks : Nat → Int32} {f_plan_sourceSets : Nat → Int32} {f_spare_chips : Int32} {f_spare_firstPins : Int32} {f_spare_firstPlaces : Int32} {f_spare_gates : Int32} {f_spare_inputs : Int32} {f_spare_registers : Int32} {f_spare_slowRegisters : Int32} {f_spare_kinds : Nat → Int32} {f_spare_firsts : Nat → Int32} {f_spare_seconds : Nat → Int32} {f_spare_clocks : Nat → Int32} {f_spare_sourceSets : Nat → Int32} {f_now_ones : Int32} {f_now_unknowns : Int32} {f_now_places : Int32} {f_now_pins : Int32} {f_now_count : Int32} {f_copy_ones : Int32} {f_copy_unknowns : Int32} {f_copy_places : Int32} {f_copy_pins : Int32} {f_copy_count : Int32} {f_logic_ones : Int32} {f_logic_unknowns : Int32} {f_logic_settled : Int32} {f_sched_available : Nat → Int32} {f_sched_wanted : Nat → Int32} {f_sched_coming : Nat → Int32} {f_sched_waiting : Int32} {f_sched_taken : Int32} {f_sched_sent : Int32} {f_sched_lastSent : Int32} {f_hist_next : Int32} {f_hist_held : Int32} {f_ring_cells : Nat → Int32} {f_kept_cells : Nat → Int32} {f_sight_steps : Nat → Int32} {f_sight_gates : Nat → Int32} {f_sight_values : Nat → Int32} {f_sight_truths : Nat → Int32} {f_sight_held : Int32} {X : va_W} {Q : Int32 → Int32 → Prop} (h : wp_X9_wipe f_text_length Q) : CtI l yX9_wipe cX9_wipe 2 (some .int) ({ frames := 0, cells := 0, slots := 0, locals := 0 } : Room) D [(cI, .int), (cZ, .boolean)] [.ref (ad 33)] (wC ad cI cZ f_keptSlots f_trace f_lastSeed f_text_letters f_text_length f_reader_place f_reader_greatestSource f_plan_chips f_plan_firstPins f_plan_firstPlaces f_plan_gates f_plan_inputs f_plan_registers f_plan_slowRegisters f_plan_kinds f_plan_firsts f_plan_seconds f_plan_clocks f_plan_sourceSets f_spare_chips f_spare_firstPins f_spare_firstPlaces f_spare_gates f_spare_inputs f_spare_registers f_spare_slowRegisters f_spare_kinds f_spare_firsts f_spare_seconds f_spare_clocks f_spare_sourceSets f_now_ones f_now_unknowns f_now_places f_now_pins f_now_count f_copy_ones f_copy_unknowns f_copy_places f_copy_pins f_copy_count f_logic_ones f_logic_unknowns f_logic_settled f_sched_available f_sched_wanted f_sched_coming f_sched_waiting f_sched_taken f_sched_sent f_sched_lastSent f_hist_next f_hist_held f_ring_cells f_kept_cells f_sight_steps f_sight_gates f_sight_values f_sight_truths f_sight_held X) (fun r u => ∃ w0, u = (wC ad cI cZ f_keptSlots f_trace f_lastSeed f_text_letters w0 f_reader_place f_reader_greatestSource f_plan_chips f_plan_firstPins f_plan_firstPlaces f_plan_gates f_plan_inputs f_plan_registers f_plan_slowRegisters f_plan_kinds f_plan_firsts f_plan_seconds f_plan_clocks f_plan_sourceSets f_spare_chips f_spare_firstPins f_spare_firstPlaces f_spare_gates f_spare_inputs f_spare_registers f_spare_slowRegisters f_spare_kinds f_spare_firsts f_spare_seconds f_spare_clocks f_spare_sourceSets f_now_ones f_now_unknowns f_now_places f_now_pins f_now_count f_copy_ones f_copy_unknowns f_copy_places f_copy_pins f_copy_count f_logic_ones f_logic_unknowns f_logic_settled f_sched_available f_sched_wanted f_sched_coming f_sched_waiting f_sched_taken f_sched_sent f_sched_lastSent f_hist_next f_hist_held f_ring_cells f_kept_cells f_sight_steps f_sight_gates f_sight_values f_sight_truths f_sight_held X) ∧ Q r w0) := by
  refine CtI.of (by decide) rfl (Nat.le_of_ble_eq_true rfl) ?_
  intro p e s m args below meth c A Z E hret ls hl hw
  have E : gE p m c cX9_wipe 2 s args RX9 D [(cI, .int), (cZ, .boolean)] A := E
  have hx := E.1.1
  have hb := E.1.2.1
  have hl : lv_has ls 2 [(0, .ref (ad 33))] := hl
  unfold wp_X9_wipe at h
  refine lv_aload_n hx hb dX9_wipe_0 rfl (lv_at hl 0 rfl) ?_
  refine gC_X9_12_main E hw dX9_wipe_1 ?_
  refine gC_X9_96_text E hw dX9_wipe_4 ?_
  refine lv_istore_n (lv' := [(1, .int f_text_length), (0, .ref (ad 33))]) hx hb dX9_wipe_7 rfl hl (by decide) rfl (fun ls hl => ?_)
  refine lv_aload_n hx hb dX9_wipe_8 rfl (lv_at hl 1 rfl) ?_
  refine gC_X9_12_main E hw dX9_wipe_9 ?_
  refine lv_iconst (v := 0) hx hb dX9_wipe_12 (by decide) ?_
  refine pC_X9_96_text E hw dX9_wipe_13 (fun H locs hw => ?_)
  refine lv_iload_n hx hb dX9_wipe_16 rfl (lv_at hl 0 rfl) ?_
  exact hret _ _ _ _ _ _ ⟨_, rfl, h⟩ hw dX9_wipe_17
set_option maxRecDepth 100000 in
set_option maxHeartbeats 4000000 in
theorem c_X9_fault {l : Launch} {D : va_G} {cI cZ : ClassId} {ad : Nat → Nat} {f_keptSlots : Int32} {f_trace : Nat → Int32} {f_lastSeed : Int64} {f_text_letters : Nat → Int32} {f_text_length : Int32} {f_reader_place : Int32} {f_reader_greatestSource : Int32} {f_plan_chips : Int32} {f_plan_firstPins : Int32} {f_plan_firstPlaces : Int32} {f_plan_gates : Int32} {f_plan_inputs : Int32} {f_plan_registers : Int32} {f_plan_slowRegisters : Int32} {f_plan_kinds : Nat → Int32} {f_plan_firsts : Nat → Int32} {f_plan_seconds : Nat → Int32} {f_plan_clocks : Nat → Int32} {f_plan_sourceSets : Nat → Int32} {f_spare_chips : Int32} {f_spare_firstPins : Int32} {f_spare_firstPlaces : Int32} {f_spare_gates : Int32} {f_spare_inputs : Int32} {f_spare_registers : Int32} {f_spare_slowRegisters : Int32} {f_spare_kinds : Nat → Int32} {f_spare_firsts : Nat → Int32} {f_spare_seconds : Nat → Int32} {f_spare_clocks : Nat → Int32} {f_spare_sourceSets : Nat → Int32} {f_now_ones : Int32} {f_now_unknowns : Int32} {f_now_places : Int32} {f_now_pins : Int32} {f_now_count : Int32} {f_copy_ones : Int32} {f_copy_unknowns : Int32} {f_copy_places : Int32} {f_copy_pins : Int32} {f_copy_count : Int32} {f_logic_ones : Int32} {f_logic_unknowns : Int32} {f_logic_settled : Int32} {f_sched_available : Nat → Int32} {f_sched_wanted : Nat → Int32} {f_sched_coming : Nat → Int32} {f_sched_waiting : Int32} {f_sched_taken : Int32} {f_sched_sent : Int32} {f_sched_lastSent : Int32} {f_hist_next : Int32} {f_hist_held : Int32} {f_ring_cells : Nat → Int32} {f_kept_cells : Nat → Int32} {f_sight_steps : Nat → Int32} {f_sight_gates : Nat → Int32} {f_sight_values : Nat → Int32} {f_sight_truths : Nat → Int32} {f_sight_held : Int32} {X : va_W} {Q : Int32 → Int32 → Int32 → Int32 → (Nat → Int32) → Int32 → Int32 → (Nat → Int32) → Int32 → Int32 → (Nat → Int32) → Int32 → (Nat → Int32) → Int32 → (Nat → Int32) → Prop} (h : wp_X9_fault f_reader_greatestSource f_reader_place f_spare_chips f_spare_clocks f_spare_firstPins f_spare_firstPlaces f_spare_firsts f_spare_gates f_spare_inputs f_spare_kinds f_spare_registers f_spare_seconds f_spare_slowRegisters f_spare_sourceSets f_text_length f_text_letters Q) : CtI l yX9_fault cX9_fault 1 (some .int) ({ frames := 5, cells := 0, slots := 0, locals := 110 } : Room) D [(cI, .int), (cZ, .boolean)] [.ref (ad 33)] (wC ad cI cZ f_keptSlots f_trace f_lastSeed f_text_letters f_text_length f_reader_place f_reader_greatestSource f_plan_chips f_plan_firstPins f_plan_firstPlaces f_plan_gates f_plan_inputs f_plan_registers f_plan_slowRegisters f_plan_kinds f_plan_firsts f_plan_seconds f_plan_clocks f_plan_sourceSets f_spare_chips f_spare_firstPins f_spare_firstPlaces f_spare_gates f_spare_inputs f_spare_registers f_spare_slowRegisters f_spare_kinds f_spare_firsts f_spare_seconds f_spare_clocks f_spare_sourceSets f_now_ones f_now_unknowns f_now_places f_now_pins f_now_count f_copy_ones f_copy_unknowns f_copy_places f_copy_pins f_copy_count f_logic_ones f_logic_unknowns f_logic_settled f_sched_available f_sched_wanted f_sched_coming f_sched_waiting f_sched_taken f_sched_sent f_sched_lastSent f_hist_next f_hist_held f_ring_cells f_kept_cells f_sight_steps f_sight_gates f_sight_values f_sight_truths f_sight_held X) (fun r u => ∃ w0 w1 w2 w3 w4 w5 w6 w7 w8 w9 w10 w11 w12 w13, u = (wC ad cI cZ f_keptSlots f_trace f_lastSeed f_text_letters f_text_length w1 w0 f_plan_chips f_plan_firstPins f_plan_firstPlaces f_plan_gates f_plan_inputs f_plan_registers f_plan_slowRegisters f_plan_kinds f_plan_firsts f_plan_seconds f_plan_clocks f_plan_sourceSets w2 w4 w5 w7 w8 w10 w12 w9 w6 w11 w3 w13 f_now_ones f_now_unknowns f_now_places f_now_pins f_now_count f_copy_ones f_copy_unknowns f_copy_places f_copy_pins f_copy_count f_logic_ones f_logic_unknowns f_logic_settled f_sched_available f_sched_wanted f_sched_coming f_sched_waiting f_sched_taken f_sched_sent f_sched_lastSent f_hist_next f_hist_held f_ring_cells f_kept_cells f_sight_steps f_sight_gates f_sight_values f_sight_truths f_sight_held X) ∧ Q r w0 w1 w2 w3 w4 w5 w6 w7 w8 w9 w10 w11 w12 w13) := by
  refine CtI.of (by decide) rfl (Nat.le_of_ble_eq_true rfl) ?_
  intro p e s m args below meth c A Z E hret ls hl hw
  have E : gE p m c cX9_fault 1 s args RX9 D [(cI, .int), (cZ, .boolean)] A := E
  have hx := E.1.1
  have hb := E.1.2.1
  have hl : lv_has ls 1 [(0, .ref (ad 33))] := hl
  unfold wp_X9_fault at h
  refine lv_aload_n hx hb dX9_fault_0 rfl (lv_at hl 0 rfl) ?_
  refine gC_X9_19_main E hw dX9_fault_1 ?_
  refine lv_aload_n hx hb dX9_fault_4 rfl (lv_at hl 0 rfl) ?_
  refine gC_X9_12_main E hw dX9_fault_5 ?_
  refine lv_aload_n hx hb dX9_fault_8 rfl (lv_at hl 0 rfl) ?_
  refine gC_X9_30_main E hw dX9_fault_9 ?_
  refine g_aI E hw (g_rV E hw (c_X3_read_text_spare h _) ym_X3_read k_195 ⟨rfl, rfl⟩ ⟨Nat.le_of_ble_eq_true rfl, Nat.le_of_ble_eq_true rfl⟩ 30 rfl rfl rfl rfl hl.1 rfl (Nat.le_of_ble_eq_true rfl) ⟨Nat.zero_le _, Nat.zero_le _⟩ dX9_fault_12) (fun r1 u H locs hq hw => ?_)
  obtain ⟨y2, y3, y4, y5, y6, y7, y8, y9, y10, y11, y12, y13, y14, y15, hu, h⟩ := hq
  rw [hu] at hw
  exact hret _ _ _ _ _ _ ⟨_, _, _, _, _, _, _, _, _, _, _, _, _, _, rfl, h⟩ hw dX9_fault_15
set_option maxRecDepth 100000 in
set_option maxHeartbeats 4000000 in
theorem c_X9_isGate {l : Launch} {D : va_G} {cI cZ : ClassId} {ad : Nat → Nat} {f_keptSlots : Int32} {f_trace : Nat → Int32} {f_lastSeed : Int64} {f_text_letters : Nat → Int32} {f_text_length : Int32} {f_reader_place : Int32} {f_reader_greatestSource : Int32} {f_plan_chips : Int32} {f_plan_firstPins : Int32} {f_plan_firstPlaces : Int32} {f_plan_gates : Int32} {f_plan_inputs : Int32} {f_plan_registers : Int32} {f_plan_slowRegisters : Int32} {f_plan_kinds : Nat → Int32} {f_plan_firsts : Nat → Int32} {f_plan_seconds : Nat → Int32} {f_plan_clocks : Nat → Int32} {f_plan_sourceSets : Nat → Int32} {f_spare_chips : Int32} {f_spare_firstPins : Int32} {f_spare_firstPlaces : Int32} {f_spare_gates : Int32} {f_spare_inputs : Int32} {f_spare_registers : Int32} {f_spare_slowRegisters : Int32} {f_spare_kinds : Nat → Int32} {f_spare_firsts : Nat → Int32} {f_spare_seconds : Nat → Int32} {f_spare_clocks : Nat → Int32} {f_spare_sourceSets : Nat → Int32} {f_now_ones : Int32} {f_now_unknowns : Int32} {f_now_places : Int32} {f_now_pins : Int32} {f_now_count : Int32} {f_copy_ones : Int32} {f_copy_unknowns : Int32} {f_copy_places : Int32} {f_copy_pins : Int32} {f_copy_count : Int32} {f_logic_ones : Int32} {f_logic_unknowns : Int32} {f_logic_settled : Int32} {f_sched_available : Nat → Int32} {f_sched_wanted : Nat → Int32} {f_sched_coming : Nat → Int32} {f_sched_waiting : Int32} {f_sched_taken : Int32} {f_sched_sent : Int32} {f_sched_lastSent : Int32} {f_hist_next : Int32} {f_hist_held : Int32} {f_ring_cells : Nat → Int32} {f_kept_cells : Nat → Int32} {f_sight_steps : Nat → Int32} {f_sight_gates : Nat → Int32} {f_sight_values : Nat → Int32} {f_sight_truths : Nat → Int32} {f_sight_held : Int32} {X : va_W} {p1 : Int32} {Q : Int32 → Prop} (h : wp_X9_isGate f_plan_gates p1 Q) : CtI l yX9_isGate cX9_isGate 2 (some .boolean) ({ frames := 0, cells := 0, slots := 0, locals := 0 } : Room) D [(cI, .int), (cZ, .boolean)] [.ref (ad 33), .int p1] (wC ad cI cZ f_keptSlots f_trace f_lastSeed f_text_letters f_text_length f_reader_place f_reader_greatestSource f_plan_chips f_plan_firstPins f_plan_firstPlaces f_plan_gates f_plan_inputs f_plan_registers f_plan_slowRegisters f_plan_kinds f_plan_firsts f_plan_seconds f_plan_clocks f_plan_sourceSets f_spare_chips f_spare_firstPins f_spare_firstPlaces f_spare_gates f_spare_inputs f_spare_registers f_spare_slowRegisters f_spare_kinds f_spare_firsts f_spare_seconds f_spare_clocks f_spare_sourceSets f_now_ones f_now_unknowns f_now_places f_now_pins f_now_count f_copy_ones f_copy_unknowns f_copy_places f_copy_pins f_copy_count f_logic_ones f_logic_unknowns f_logic_settled f_sched_available f_sched_wanted f_sched_coming f_sched_waiting f_sched_taken f_sched_sent f_sched_lastSent f_hist_next f_hist_held f_ring_cells f_kept_cells f_sight_steps f_sight_gates f_sight_values f_sight_truths f_sight_held X) (fun r u => u = (wC ad cI cZ f_keptSlots f_trace f_lastSeed f_text_letters f_text_length f_reader_place f_reader_greatestSource f_plan_chips f_plan_firstPins f_plan_firstPlaces f_plan_gates f_plan_inputs f_plan_registers f_plan_slowRegisters f_plan_kinds f_plan_firsts f_plan_seconds f_plan_clocks f_plan_sourceSets f_spare_chips f_spare_firstPins f_spare_firstPlaces f_spare_gates f_spare_inputs f_spare_registers f_spare_slowRegisters f_spare_kinds f_spare_firsts f_spare_seconds f_spare_clocks f_spare_sourceSets f_now_ones f_now_unknowns f_now_places f_now_pins f_now_count f_copy_ones f_copy_unknowns f_copy_places f_copy_pins f_copy_count f_logic_ones f_logic_unknowns f_logic_settled f_sched_available f_sched_wanted f_sched_coming f_sched_waiting f_sched_taken f_sched_sent f_sched_lastSent f_hist_next f_hist_held f_ring_cells f_kept_cells f_sight_steps f_sight_gates f_sight_values f_sight_truths f_sight_held X) ∧ Q r) := by
  refine CtI.ofZ (by decide) rfl (Nat.le_of_ble_eq_true rfl) ?_
  intro p e s m args below meth c A Z E hret ls hl hw
  have E : gE p m c cX9_isGate 2 s args RX9 D [(cI, .int), (cZ, .boolean)] A := E
  have hx := E.1.1
  have hb := E.1.2.1
  have hl : lv_has ls 2 [(0, .ref (ad 33)), (1, .int p1)] := hl
  have J19 : ∀  (H : Heap) (locs : List Loc) (ls : Array Slot), wp_X9_isGate_b19 f_plan_gates p1 Q   → gW D s A (wC ad cI cZ f_keptSlots f_trace f_lastSeed f_text_letters f_text_length f_reader_place f_reader_greatestSource f_plan_chips f_plan_firstPins f_plan_firstPlaces f_plan_gates f_plan_inputs f_plan_registers f_plan_slowRegisters f_plan_kinds f_plan_firsts f_plan_seconds f_plan_clocks f_plan_sourceSets f_spare_chips f_spare_firstPins f_spare_firstPlaces f_spare_gates f_spare_inputs f_spare_registers f_spare_slowRegisters f_spare_kinds f_spare_firsts f_spare_seconds f_spare_clocks f_spare_sourceSets f_now_ones f_now_unknowns f_now_places f_now_pins f_now_count f_copy_ones f_copy_unknowns f_copy_places f_copy_pins f_copy_count f_logic_ones f_logic_unknowns f_logic_settled f_sched_available f_sched_wanted f_sched_coming f_sched_waiting f_sched_taken f_sched_sent f_sched_lastSent f_hist_next f_hist_held f_ring_cells f_kept_cells f_sight_steps f_sight_gates f_sight_values f_sight_truths f_sight_held X) H locs → lv_has ls 2 [] → W p l e ({ frames := 0, cells := 0, slots := 0, locals := 0 } : Room) s m args below meth c H locs 0 0 Z (F0 m 19 ls []) := by
    intro  H locs ls h hw hl
    unfold wp_X9_isGate_b19 at h
    refine lv_iconst (v := 0) hx hb dX9_isGate_19 (by decide) ?_
    exact hret _ _ _ _ _ _ (Or.inl rfl) ⟨rfl, h⟩ hw dX9_isGate_20
  unfold wp_X9_isGate at h
  refine lv_iload_n hx hb dX9_isGate_0 rfl (lv_at hl 1 rfl) ?_
  refine lv_if_lt (tgt := 19) hx hb dX9_isGate_1 (by decide) (fun c1 => ?_) (fun c1 => ?_)
  · have h := h.1 c1
    exact J19  _ _ _ h hw (lv_sub hl [] rfl)
  · have h := h.2 c1
    refine lv_iload_n hx hb dX9_isGate_4 rfl (lv_at hl 1 rfl) ?_
    refine lv_aload_n hx hb dX9_isGate_5 rfl (lv_at hl 0 rfl) ?_
    refine gC_X9_26_main E hw dX9_isGate_6 ?_
    refine gC_X9_110_plan E hw dX9_isGate_9 ?_
    refine lv_icmp_ge (tgt := 19) hx hb dX9_isGate_12 (by decide) (fun c2 => ?_) (fun c2 => ?_)
    · have h := h.1 c2
      exact J19  _ _ _ h hw (lv_sub hl [] rfl)
    · have h := h.2 c2
      refine lv_iconst (v := 1) hx hb dX9_isGate_15 (by decide) ?_
      refine lv_goto (tgt := 20) hx hb dX9_isGate_16 (by decide) ?_
      exact hret _ _ _ _ _ _ (Or.inr rfl) ⟨rfl, h⟩ hw dX9_isGate_20
set_option maxRecDepth 100000 in
set_option maxHeartbeats 4000000 in
theorem c_X9_valueNow_now {l : Launch} {D : va_G} {cI cZ : ClassId} {ad : Nat → Nat} {f_keptSlots : Int32} {f_trace : Nat → Int32} {f_lastSeed : Int64} {f_text_letters : Nat → Int32} {f_text_length : Int32} {f_reader_place : Int32} {f_reader_greatestSource : Int32} {f_plan_chips : Int32} {f_plan_firstPins : Int32} {f_plan_firstPlaces : Int32} {f_plan_gates : Int32} {f_plan_inputs : Int32} {f_plan_registers : Int32} {f_plan_slowRegisters : Int32} {f_plan_kinds : Nat → Int32} {f_plan_firsts : Nat → Int32} {f_plan_seconds : Nat → Int32} {f_plan_clocks : Nat → Int32} {f_plan_sourceSets : Nat → Int32} {f_spare_chips : Int32} {f_spare_firstPins : Int32} {f_spare_firstPlaces : Int32} {f_spare_gates : Int32} {f_spare_inputs : Int32} {f_spare_registers : Int32} {f_spare_slowRegisters : Int32} {f_spare_kinds : Nat → Int32} {f_spare_firsts : Nat → Int32} {f_spare_seconds : Nat → Int32} {f_spare_clocks : Nat → Int32} {f_spare_sourceSets : Nat → Int32} {f_now_ones : Int32} {f_now_unknowns : Int32} {f_now_places : Int32} {f_now_pins : Int32} {f_now_count : Int32} {f_copy_ones : Int32} {f_copy_unknowns : Int32} {f_copy_places : Int32} {f_copy_pins : Int32} {f_copy_count : Int32} {f_logic_ones : Int32} {f_logic_unknowns : Int32} {f_logic_settled : Int32} {f_sched_available : Nat → Int32} {f_sched_wanted : Nat → Int32} {f_sched_coming : Nat → Int32} {f_sched_waiting : Int32} {f_sched_taken : Int32} {f_sched_sent : Int32} {f_sched_lastSent : Int32} {f_hist_next : Int32} {f_hist_held : Int32} {f_ring_cells : Nat → Int32} {f_kept_cells : Nat → Int32} {f_sight_steps : Nat → Int32} {f_sight_gates : Nat → Int32} {f_sight_values : Nat → Int32} {f_sight_truths : Nat → Int32} {f_sight_held : Int32} {X : va_W} {p2 : Int32} {Q : Int32 → Int32 → Int32 → Int32 → Prop} (h : wp_X9_valueNow f_logic_ones f_logic_settled f_logic_unknowns f_plan_firsts f_plan_gates f_plan_inputs f_plan_kinds f_plan_registers f_plan_seconds f_plan_sourceSets f_now_ones f_now_unknowns p2 Q) : CtI l yX9_valueNow cX9_valueNow 3 (some .int) ({ frames := 4, cells := 0, slots := 0, locals := 91 } : Room) D [(cI, .int), (cZ, .boolean)] [.ref (ad 33), .ref (ad 17), .int p2] (wC ad cI cZ f_keptSlots f_trace f_lastSeed f_text_letters f_text_length f_reader_place f_reader_greatestSource f_plan_chips f_plan_firstPins f_plan_firstPlaces f_plan_gates f_plan_inputs f_plan_registers f_plan_slowRegisters f_plan_kinds f_plan_firsts f_plan_seconds f_plan_clocks f_plan_sourceSets f_spare_chips f_spare_firstPins f_spare_firstPlaces f_spare_gates f_spare_inputs f_spare_registers f_spare_slowRegisters f_spare_kinds f_spare_firsts f_spare_seconds f_spare_clocks f_spare_sourceSets f_now_ones f_now_unknowns f_now_places f_now_pins f_now_count f_copy_ones f_copy_unknowns f_copy_places f_copy_pins f_copy_count f_logic_ones f_logic_unknowns f_logic_settled f_sched_available f_sched_wanted f_sched_coming f_sched_waiting f_sched_taken f_sched_sent f_sched_lastSent f_hist_next f_hist_held f_ring_cells f_kept_cells f_sight_steps f_sight_gates f_sight_values f_sight_truths f_sight_held X) (fun r u => ∃ w0 w1 w2, u = (wC ad cI cZ f_keptSlots f_trace f_lastSeed f_text_letters f_text_length f_reader_place f_reader_greatestSource f_plan_chips f_plan_firstPins f_plan_firstPlaces f_plan_gates f_plan_inputs f_plan_registers f_plan_slowRegisters f_plan_kinds f_plan_firsts f_plan_seconds f_plan_clocks f_plan_sourceSets f_spare_chips f_spare_firstPins f_spare_firstPlaces f_spare_gates f_spare_inputs f_spare_registers f_spare_slowRegisters f_spare_kinds f_spare_firsts f_spare_seconds f_spare_clocks f_spare_sourceSets f_now_ones f_now_unknowns f_now_places f_now_pins f_now_count f_copy_ones f_copy_unknowns f_copy_places f_copy_pins f_copy_count w0 w2 w1 f_sched_available f_sched_wanted f_sched_coming f_sched_waiting f_sched_taken f_sched_sent f_sched_lastSent f_hist_next f_hist_held f_ring_cells f_kept_cells f_sight_steps f_sight_gates f_sight_values f_sight_truths f_sight_held X) ∧ Q r w0 w1 w2) := by
  refine CtI.of (by decide) rfl (Nat.le_of_ble_eq_true rfl) ?_
  intro p e s m args below meth c A Z E hret ls hl hw
  have E : gE p m c cX9_valueNow 3 s args RX9 D [(cI, .int), (cZ, .boolean)] A := E
  have hx := E.1.1
  have hb := E.1.2.1
  have hl : lv_has ls 3 [(0, .ref (ad 33)), (1, .ref (ad 17)), (2, .int p2)] := hl
  unfold wp_X9_valueNow at h
  refine lv_aload_n hx hb dX9_valueNow_0 rfl (lv_at hl 0 rfl) ?_
  refine gC_X9_46_main E hw dX9_valueNow_1 ?_
  refine lv_aload_n hx hb dX9_valueNow_4 rfl (lv_at hl 0 rfl) ?_
  refine gC_X9_26_main E hw dX9_valueNow_5 ?_
  refine lv_aload_n hx hb dX9_valueNow_8 rfl (lv_at hl 1 rfl) ?_
  refine lv_bipush (v := -9) hx hb dX9_valueNow_9 (by decide) ?_
  refine g_aV E hw (g_rV E hw (c_X1_compute_plan_now h _) ym_X1_compute k_298 ⟨rfl, rfl⟩ ⟨Nat.le_of_ble_eq_true rfl, Nat.le_of_ble_eq_true rfl⟩ 15 rfl rfl rfl rfl hl.1 rfl (Nat.le_of_ble_eq_true rfl) ⟨Nat.zero_le _, Nat.zero_le _⟩ dX9_valueNow_11) (fun u H locs hq hw => ?_)
  obtain ⟨y2, y3, y4, hu, h⟩ := hq
  rw [hu] at hw
  refine lv_aload_n hx hb dX9_valueNow_14 rfl (lv_at hl 0 rfl) ?_
  refine gC_X9_46_main E hw dX9_valueNow_15 ?_
  refine gC_X9_290_logic E hw dX9_valueNow_18 ?_
  refine lv_aload_n hx hb dX9_valueNow_21 rfl (lv_at hl 0 rfl) ?_
  refine gC_X9_46_main E hw dX9_valueNow_22 ?_
  refine gC_X9_291_logic E hw dX9_valueNow_25 ?_
  refine lv_iload_n hx hb dX9_valueNow_28 rfl (lv_at hl 2 rfl) ?_
  refine g_aI E hw (g_rS E hw (c_X9_valueIn h _) ym_X9_valueIn k_326 ⟨rfl, rfl⟩ ⟨Nat.le_of_ble_eq_true rfl, Nat.le_of_ble_eq_true rfl⟩ rfl hl.1 rfl (Nat.le_of_ble_eq_true rfl) ⟨Nat.zero_le _, Nat.zero_le _⟩ dX9_valueNow_29) (fun r5 u H locs hq hw => ?_)
  obtain ⟨hu, h⟩ := hq
  rw [hu] at hw
  exact hret _ _ _ _ _ _ ⟨_, _, _, rfl, h⟩ hw dX9_valueNow_32
set_option maxRecDepth 100000 in
set_option maxHeartbeats 4000000 in
theorem c_X9_gate {l : Launch} {D : va_G} {cI cZ : ClassId} {ad : Nat → Nat} {f_keptSlots : Int32} {f_trace : Nat → Int32} {f_lastSeed : Int64} {f_text_letters : Nat → Int32} {f_text_length : Int32} {f_reader_place : Int32} {f_reader_greatestSource : Int32} {f_plan_chips : Int32} {f_plan_firstPins : Int32} {f_plan_firstPlaces : Int32} {f_plan_gates : Int32} {f_plan_inputs : Int32} {f_plan_registers : Int32} {f_plan_slowRegisters : Int32} {f_plan_kinds : Nat → Int32} {f_plan_firsts : Nat → Int32} {f_plan_seconds : Nat → Int32} {f_plan_clocks : Nat → Int32} {f_plan_sourceSets : Nat → Int32} {f_spare_chips : Int32} {f_spare_firstPins : Int32} {f_spare_firstPlaces : Int32} {f_spare_gates : Int32} {f_spare_inputs : Int32} {f_spare_registers : Int32} {f_spare_slowRegisters : Int32} {f_spare_kinds : Nat → Int32} {f_spare_firsts : Nat → Int32} {f_spare_seconds : Nat → Int32} {f_spare_clocks : Nat → Int32} {f_spare_sourceSets : Nat → Int32} {f_now_ones : Int32} {f_now_unknowns : Int32} {f_now_places : Int32} {f_now_pins : Int32} {f_now_count : Int32} {f_copy_ones : Int32} {f_copy_unknowns : Int32} {f_copy_places : Int32} {f_copy_pins : Int32} {f_copy_count : Int32} {f_logic_ones : Int32} {f_logic_unknowns : Int32} {f_logic_settled : Int32} {f_sched_available : Nat → Int32} {f_sched_wanted : Nat → Int32} {f_sched_coming : Nat → Int32} {f_sched_waiting : Int32} {f_sched_taken : Int32} {f_sched_sent : Int32} {f_sched_lastSent : Int32} {f_hist_next : Int32} {f_hist_held : Int32} {f_ring_cells : Nat → Int32} {f_kept_cells : Nat → Int32} {f_sight_steps : Nat → Int32} {f_sight_gates : Nat → Int32} {f_sight_values : Nat → Int32} {f_sight_truths : Nat → Int32} {f_sight_held : Int32} {X : va_W} {p1 : Int32} {p2 : Int32} {Q : Int32 → Int32 → Int32 → Int32 → Prop} (h : wp_X9_gate f_logic_ones f_logic_settled f_logic_unknowns f_now_ones f_now_places f_now_unknowns f_plan_clocks f_plan_firsts f_plan_gates f_plan_inputs f_plan_kinds f_plan_registers f_plan_seconds f_plan_sourceSets p1 p2 Q) : CtI l yX9_gate cX9_gate 3 (some .int) ({ frames := 5, cells := 0, slots := 0, locals := 113 } : Room) D [(cI, .int), (cZ, .boolean)] [.ref (ad 33), .int p1, .int p2] (wC ad cI cZ f_keptSlots f_trace f_lastSeed f_text_letters f_text_length f_reader_place f_reader_greatestSource f_plan_chips f_plan_firstPins f_plan_firstPlaces f_plan_gates f_plan_inputs f_plan_registers f_plan_slowRegisters f_plan_kinds f_plan_firsts f_plan_seconds f_plan_clocks f_plan_sourceSets f_spare_chips f_spare_firstPins f_spare_firstPlaces f_spare_gates f_spare_inputs f_spare_registers f_spare_slowRegisters f_spare_kinds f_spare_firsts f_spare_seconds f_spare_clocks f_spare_sourceSets f_now_ones f_now_unknowns f_now_places f_now_pins f_now_count f_copy_ones f_copy_unknowns f_copy_places f_copy_pins f_copy_count f_logic_ones f_logic_unknowns f_logic_settled f_sched_available f_sched_wanted f_sched_coming f_sched_waiting f_sched_taken f_sched_sent f_sched_lastSent f_hist_next f_hist_held f_ring_cells f_kept_cells f_sight_steps f_sight_gates f_sight_values f_sight_truths f_sight_held X) (fun r u => ∃ w0 w1 w2, u = (wC ad cI cZ f_keptSlots f_trace f_lastSeed f_text_letters f_text_length f_reader_place f_reader_greatestSource f_plan_chips f_plan_firstPins f_plan_firstPlaces f_plan_gates f_plan_inputs f_plan_registers f_plan_slowRegisters f_plan_kinds f_plan_firsts f_plan_seconds f_plan_clocks f_plan_sourceSets f_spare_chips f_spare_firstPins f_spare_firstPlaces f_spare_gates f_spare_inputs f_spare_registers f_spare_slowRegisters f_spare_kinds f_spare_firsts f_spare_seconds f_spare_clocks f_spare_sourceSets f_now_ones f_now_unknowns f_now_places f_now_pins f_now_count f_copy_ones f_copy_unknowns f_copy_places f_copy_pins f_copy_count w0 w2 w1 f_sched_available f_sched_wanted f_sched_coming f_sched_waiting f_sched_taken f_sched_sent f_sched_lastSent f_hist_next f_hist_held f_ring_cells f_kept_cells f_sight_steps f_sight_gates f_sight_values f_sight_truths f_sight_held X) ∧ Q r w0 w1 w2) := by
  refine CtI.of (by decide) rfl (Nat.le_of_ble_eq_true rfl) ?_
  intro p e s m args below meth c A Z E hret ls hl hw
  have E : gE p m c cX9_gate 3 s args RX9 D [(cI, .int), (cZ, .boolean)] A := E
  have hx := E.1.1
  have hb := E.1.2.1
  have hl : lv_has ls 3 [(0, .ref (ad 33)), (1, .int p1), (2, .int p2)] := hl
  unfold wp_X9_gate at h
  refine lv_aload_n hx hb dX9_gate_0 rfl (lv_at hl 0 rfl) ?_
  refine lv_iload_n hx hb dX9_gate_1 rfl (lv_at hl 1 rfl) ?_
  refine g_aI E hw (g_rV E hw (c_X9_isGate h _) ym_X9_isGate k_276 ⟨rfl, rfl⟩ ⟨Nat.le_of_ble_eq_true rfl, Nat.le_of_ble_eq_true rfl⟩ 33 rfl rfl rfl rfl hl.1 rfl (Nat.le_of_ble_eq_true rfl) ⟨Nat.zero_le _, Nat.zero_le _⟩ dX9_gate_2) (fun r1 u H locs hq hw => ?_)
  obtain ⟨hu, h⟩ := hq
  rw [hu] at hw
  refine lv_if_ne (tgt := 10) hx hb dX9_gate_5 (by decide) (fun c2 => ?_) (fun c2 => ?_)
  · have h := h.1 c2
    refine lv_iload_n hx hb dX9_gate_10 rfl (lv_at hl 2 rfl) ?_
    by_cases c3 : p2 = 0
    · have h := h.1 c3
      refine lv_tableIn (tgt := 52) (off := 41) hx hb dX9_gate_11 (by rw [c3]; decide) (by rw [c3]; decide) (by rw [c3]; rfl) (by decide) ?_
      refine lv_aload_n hx hb dX9_gate_52 rfl (lv_at hl 0 rfl) ?_
      refine gC_X9_26_main E hw dX9_gate_53 ?_
      refine lv_iload_n hx hb dX9_gate_56 rfl (lv_at hl 1 rfl) ?_
      refine g_aI E hw (g_rV E hw (c_X2_kindOf_plan h _) ym_X2_kindOf k_279 ⟨rfl, rfl⟩ ⟨Nat.le_of_ble_eq_true rfl, Nat.le_of_ble_eq_true rfl⟩ 29 rfl rfl rfl rfl hl.1 rfl (Nat.le_of_ble_eq_true rfl) ⟨Nat.zero_le _, Nat.zero_le _⟩ dX9_gate_57) (fun r4 u H locs hq hw => ?_)
      obtain ⟨hu, h⟩ := hq
      rw [hu] at hw
      exact hret _ _ _ _ _ _ ⟨_, _, _, rfl, h⟩ hw dX9_gate_60
    · have h := h.2 c3
      by_cases c5 : p2 = 1
      · have h := h.1 c5
        refine lv_tableIn (tgt := 61) (off := 50) hx hb dX9_gate_11 (by rw [c5]; decide) (by rw [c5]; decide) (by rw [c5]; rfl) (by decide) ?_
        refine lv_aload_n hx hb dX9_gate_61 rfl (lv_at hl 0 rfl) ?_
        refine gC_X9_36_main E hw dX9_gate_62 ?_
        refine gC_X9_120_now E hw dX9_gate_65 ?_
        refine lv_iload_n hx hb dX9_gate_68 rfl (lv_at hl 1 rfl) ?_
        refine g_aI E hw (g_rS E hw (c_X9_chipIn h _) ym_X9_chipIn k_280 ⟨rfl, rfl⟩ ⟨Nat.le_of_ble_eq_true rfl, Nat.le_of_ble_eq_true rfl⟩ rfl hl.1 rfl (Nat.le_of_ble_eq_true rfl) ⟨Nat.zero_le _, Nat.zero_le _⟩ dX9_gate_69) (fun r6 u H locs hq hw => ?_)
        obtain ⟨hu, h⟩ := hq
        rw [hu] at hw
        exact hret _ _ _ _ _ _ ⟨_, _, _, rfl, h⟩ hw dX9_gate_72
      · have h := h.2 c5
        by_cases c7 : p2 = 2
        · have h := h.1 c7
          refine lv_tableIn (tgt := 73) (off := 62) hx hb dX9_gate_11 (by rw [c7]; decide) (by rw [c7]; decide) (by rw [c7]; rfl) (by decide) ?_
          refine lv_aload_n hx hb dX9_gate_73 rfl (lv_at hl 0 rfl) ?_
          refine gC_X9_26_main E hw dX9_gate_74 ?_
          refine lv_iload_n hx hb dX9_gate_77 rfl (lv_at hl 1 rfl) ?_
          refine g_aI E hw (g_rV E hw (c_X2_firstOf_plan h _) ym_X2_firstOf k_283 ⟨rfl, rfl⟩ ⟨Nat.le_of_ble_eq_true rfl, Nat.le_of_ble_eq_true rfl⟩ 29 rfl rfl rfl rfl hl.1 rfl (Nat.le_of_ble_eq_true rfl) ⟨Nat.zero_le _, Nat.zero_le _⟩ dX9_gate_78) (fun r8 u H locs hq hw => ?_)
          obtain ⟨hu, h⟩ := hq
          rw [hu] at hw
          exact hret _ _ _ _ _ _ ⟨_, _, _, rfl, h⟩ hw dX9_gate_81
        · have h := h.2 c7
          by_cases c9 : p2 = 3
          · have h := h.1 c9
            refine lv_tableIn (tgt := 82) (off := 71) hx hb dX9_gate_11 (by rw [c9]; decide) (by rw [c9]; decide) (by rw [c9]; rfl) (by decide) ?_
            refine lv_aload_n hx hb dX9_gate_82 rfl (lv_at hl 0 rfl) ?_
            refine gC_X9_26_main E hw dX9_gate_83 ?_
            refine lv_iload_n hx hb dX9_gate_86 rfl (lv_at hl 1 rfl) ?_
            refine g_aI E hw (g_rV E hw (c_X2_secondOf_plan h _) ym_X2_secondOf k_287 ⟨rfl, rfl⟩ ⟨Nat.le_of_ble_eq_true rfl, Nat.le_of_ble_eq_true rfl⟩ 29 rfl rfl rfl rfl hl.1 rfl (Nat.le_of_ble_eq_true rfl) ⟨Nat.zero_le _, Nat.zero_le _⟩ dX9_gate_87) (fun r10 u H locs hq hw => ?_)
            obtain ⟨hu, h⟩ := hq
            rw [hu] at hw
            exact hret _ _ _ _ _ _ ⟨_, _, _, rfl, h⟩ hw dX9_gate_90
          · have h := h.2 c9
            by_cases c11 : p2 = 4
            · have h := h.1 c11
              refine lv_tableIn (tgt := 91) (off := 80) hx hb dX9_gate_11 (by rw [c11]; decide) (by rw [c11]; decide) (by rw [c11]; rfl) (by decide) ?_
              refine lv_aload_n hx hb dX9_gate_91 rfl (lv_at hl 0 rfl) ?_
              refine gC_X9_26_main E hw dX9_gate_92 ?_
              refine lv_iload_n hx hb dX9_gate_95 rfl (lv_at hl 1 rfl) ?_
              refine g_aI E hw (g_rV E hw (c_X2_clockOf_plan h _) ym_X2_clockOf k_291 ⟨rfl, rfl⟩ ⟨Nat.le_of_ble_eq_true rfl, Nat.le_of_ble_eq_true rfl⟩ 29 rfl rfl rfl rfl hl.1 rfl (Nat.le_of_ble_eq_true rfl) ⟨Nat.zero_le _, Nat.zero_le _⟩ dX9_gate_96) (fun r12 u H locs hq hw => ?_)
              obtain ⟨hu, h⟩ := hq
              rw [hu] at hw
              exact hret _ _ _ _ _ _ ⟨_, _, _, rfl, h⟩ hw dX9_gate_99
            · have h := h.2 c11
              by_cases c13 : p2 = 5
              · have h := h.1 c13
                refine lv_tableIn (tgt := 100) (off := 89) hx hb dX9_gate_11 (by rw [c13]; decide) (by rw [c13]; decide) (by rw [c13]; rfl) (by decide) ?_
                refine lv_aload_n hx hb dX9_gate_100 rfl (lv_at hl 0 rfl) ?_
                refine lv_aload_n hx hb dX9_gate_101 rfl (lv_at hl 0 rfl) ?_
                refine gC_X9_36_main E hw dX9_gate_102 ?_
                refine lv_iload_n hx hb dX9_gate_105 rfl (lv_at hl 1 rfl) ?_
                refine g_aI E hw (g_rV E hw (c_X9_valueNow_now h _) ym_X9_valueNow k_295 ⟨rfl, rfl⟩ ⟨Nat.le_of_ble_eq_true rfl, Nat.le_of_ble_eq_true rfl⟩ 33 rfl rfl rfl rfl hl.1 rfl (Nat.le_of_ble_eq_true rfl) ⟨Nat.zero_le _, Nat.zero_le _⟩ dX9_gate_106) (fun r14 u H locs hq hw => ?_)
                obtain ⟨y15, y16, y17, hu, h⟩ := hq
                rw [hu] at hw
                exact hret _ _ _ _ _ _ ⟨_, _, _, rfl, h⟩ hw dX9_gate_109
              · have h := h.2 c13
                by_cases c18 : p2 = 6
                · have h := h.1 c18
                  refine lv_tableIn (tgt := 110) (off := 99) hx hb dX9_gate_11 (by rw [c18]; decide) (by rw [c18]; decide) (by rw [c18]; rfl) (by decide) ?_
                  refine lv_aload_n hx hb dX9_gate_110 rfl (lv_at hl 0 rfl) ?_
                  refine gC_X9_26_main E hw dX9_gate_111 ?_
                  refine lv_iload_n hx hb dX9_gate_114 rfl (lv_at hl 1 rfl) ?_
                  refine g_aI E hw (g_rV E hw (c_X2_readersOf_plan h _) ym_X2_readersOf k_327 ⟨rfl, rfl⟩ ⟨Nat.le_of_ble_eq_true rfl, Nat.le_of_ble_eq_true rfl⟩ 29 rfl rfl rfl rfl hl.1 rfl (Nat.le_of_ble_eq_true rfl) ⟨Nat.zero_le _, Nat.zero_le _⟩ dX9_gate_115) (fun r19 u H locs hq hw => ?_)
                  obtain ⟨hu, h⟩ := hq
                  rw [hu] at hw
                  exact hret _ _ _ _ _ _ ⟨_, _, _, rfl, h⟩ hw dX9_gate_118
                · have h := h.2 c18
                  have nc3 := lv_neT c3 (a := 0) rfl
                  have nc5 := lv_neT c5 (a := 1) rfl
                  have nc7 := lv_neT c7 (a := 2) rfl
                  have nc9 := lv_neT c9 (a := 3) rfl
                  have nc11 := lv_neT c11 (a := 4) rfl
                  have nc13 := lv_neT c13 (a := 5) rfl
                  have nc18 := lv_neT c18 (a := 6) rfl
                  refine lv_tableOut (tgt := 119) hx hb dX9_gate_11 (by omega) (by decide) ?_
                  refine lv_bipush (v := -2) hx hb dX9_gate_119 (by decide) ?_
                  exact hret _ _ _ _ _ _ ⟨_, _, _, rfl, h⟩ hw dX9_gate_121
  · have h := h.2 c2
    refine lv_iconst (v := -1) hx hb dX9_gate_8 (by decide) ?_
    exact hret _ _ _ _ _ _ ⟨_, _, _, rfl, h⟩ hw dX9_gate_9
set_option maxRecDepth 100000 in
set_option maxHeartbeats 4000000 in
theorem c_X9_makeSteps_now {l : Launch} {D : va_G} {cI cZ : ClassId} {ad : Nat → Nat} {f_keptSlots : Int32} {f_trace : Nat → Int32} {f_lastSeed : Int64} {f_text_letters : Nat → Int32} {f_text_length : Int32} {f_reader_place : Int32} {f_reader_greatestSource : Int32} {f_plan_chips : Int32} {f_plan_firstPins : Int32} {f_plan_firstPlaces : Int32} {f_plan_gates : Int32} {f_plan_inputs : Int32} {f_plan_registers : Int32} {f_plan_slowRegisters : Int32} {f_plan_kinds : Nat → Int32} {f_plan_firsts : Nat → Int32} {f_plan_seconds : Nat → Int32} {f_plan_clocks : Nat → Int32} {f_plan_sourceSets : Nat → Int32} {f_spare_chips : Int32} {f_spare_firstPins : Int32} {f_spare_firstPlaces : Int32} {f_spare_gates : Int32} {f_spare_inputs : Int32} {f_spare_registers : Int32} {f_spare_slowRegisters : Int32} {f_spare_kinds : Nat → Int32} {f_spare_firsts : Nat → Int32} {f_spare_seconds : Nat → Int32} {f_spare_clocks : Nat → Int32} {f_spare_sourceSets : Nat → Int32} {f_now_ones : Int32} {f_now_unknowns : Int32} {f_now_places : Int32} {f_now_pins : Int32} {f_now_count : Int32} {f_copy_ones : Int32} {f_copy_unknowns : Int32} {f_copy_places : Int32} {f_copy_pins : Int32} {f_copy_count : Int32} {f_logic_ones : Int32} {f_logic_unknowns : Int32} {f_logic_settled : Int32} {f_sched_available : Nat → Int32} {f_sched_wanted : Nat → Int32} {f_sched_coming : Nat → Int32} {f_sched_waiting : Int32} {f_sched_taken : Int32} {f_sched_sent : Int32} {f_sched_lastSent : Int32} {f_hist_next : Int32} {f_hist_held : Int32} {f_ring_cells : Nat → Int32} {f_kept_cells : Nat → Int32} {f_sight_steps : Nat → Int32} {f_sight_gates : Nat → Int32} {f_sight_values : Nat → Int32} {f_sight_truths : Nat → Int32} {f_sight_held : Int32} {X : va_W} {p2 : Int32} {Q : Int32 → Int32 → Int32 → Int32 → Int32 → Int32 → Prop} (h : wp_X9_makeSteps f_logic_ones f_logic_settled f_logic_unknowns f_plan_firsts f_plan_gates f_plan_inputs f_plan_kinds f_plan_registers f_plan_seconds f_plan_slowRegisters f_plan_sourceSets f_now_count f_now_ones f_now_unknowns p2 Q) : CtV l yX9_makeSteps cX9_makeSteps 4 none ({ frames := 4, cells := 0, slots := 0, locals := 91 } : Room) D [(cI, .int), (cZ, .boolean)] [.ref (ad 33), .ref (ad 17), .int p2] (wC ad cI cZ f_keptSlots f_trace f_lastSeed f_text_letters f_text_length f_reader_place f_reader_greatestSource f_plan_chips f_plan_firstPins f_plan_firstPlaces f_plan_gates f_plan_inputs f_plan_registers f_plan_slowRegisters f_plan_kinds f_plan_firsts f_plan_seconds f_plan_clocks f_plan_sourceSets f_spare_chips f_spare_firstPins f_spare_firstPlaces f_spare_gates f_spare_inputs f_spare_registers f_spare_slowRegisters f_spare_kinds f_spare_firsts f_spare_seconds f_spare_clocks f_spare_sourceSets f_now_ones f_now_unknowns f_now_places f_now_pins f_now_count f_copy_ones f_copy_unknowns f_copy_places f_copy_pins f_copy_count f_logic_ones f_logic_unknowns f_logic_settled f_sched_available f_sched_wanted f_sched_coming f_sched_waiting f_sched_taken f_sched_sent f_sched_lastSent f_hist_next f_hist_held f_ring_cells f_kept_cells f_sight_steps f_sight_gates f_sight_values f_sight_truths f_sight_held X) (fun  u => ∃ w0 w1 w2 w3 w4 w5, u = (wC ad cI cZ f_keptSlots f_trace f_lastSeed f_text_letters f_text_length f_reader_place f_reader_greatestSource f_plan_chips f_plan_firstPins f_plan_firstPlaces f_plan_gates f_plan_inputs f_plan_registers f_plan_slowRegisters f_plan_kinds f_plan_firsts f_plan_seconds f_plan_clocks f_plan_sourceSets f_spare_chips f_spare_firstPins f_spare_firstPlaces f_spare_gates f_spare_inputs f_spare_registers f_spare_slowRegisters f_spare_kinds f_spare_firsts f_spare_seconds f_spare_clocks f_spare_sourceSets w4 w5 f_now_places f_now_pins w3 f_copy_ones f_copy_unknowns f_copy_places f_copy_pins f_copy_count w0 w2 w1 f_sched_available f_sched_wanted f_sched_coming f_sched_waiting f_sched_taken f_sched_sent f_sched_lastSent f_hist_next f_hist_held f_ring_cells f_kept_cells f_sight_steps f_sight_gates f_sight_values f_sight_truths f_sight_held X) ∧ Q w0 w1 w2 w3 w4 w5) := by
  refine CtV.of (by decide) rfl (Nat.le_of_ble_eq_true rfl) ?_
  intro p e s m args below meth c A Z E hret ls hl hw
  have E : gE p m c cX9_makeSteps 4 s args RX9 D [(cI, .int), (cZ, .boolean)] A := E
  have hx := E.1.1
  have hb := E.1.2.1
  have hl : lv_has ls 4 [(0, .ref (ad 33)), (1, .ref (ad 17)), (2, .int p2)] := hl
  have L2 : ∀ (n : Nat) (x3 : Int32) (f_logic_ones : Int32) (f_logic_settled : Int32) (f_logic_unknowns : Int32) (f_now_count : Int32) (f_now_ones : Int32) (f_now_unknowns : Int32) (H : Heap) (locs : List Loc) (ls : Array Slot), wp_X9_makeSteps_h2 f_plan_firsts f_plan_gates f_plan_inputs f_plan_kinds f_plan_registers f_plan_seconds f_plan_slowRegisters f_plan_sourceSets p2 Q  n x3 f_logic_ones f_logic_settled f_logic_unknowns f_now_count f_now_ones f_now_unknowns → gW D s A (wC ad cI cZ f_keptSlots f_trace f_lastSeed f_text_letters f_text_length f_reader_place f_reader_greatestSource f_plan_chips f_plan_firstPins f_plan_firstPlaces f_plan_gates f_plan_inputs f_plan_registers f_plan_slowRegisters f_plan_kinds f_plan_firsts f_plan_seconds f_plan_clocks f_plan_sourceSets f_spare_chips f_spare_firstPins f_spare_firstPlaces f_spare_gates f_spare_inputs f_spare_registers f_spare_slowRegisters f_spare_kinds f_spare_firsts f_spare_seconds f_spare_clocks f_spare_sourceSets f_now_ones f_now_unknowns f_now_places f_now_pins f_now_count f_copy_ones f_copy_unknowns f_copy_places f_copy_pins f_copy_count f_logic_ones f_logic_unknowns f_logic_settled f_sched_available f_sched_wanted f_sched_coming f_sched_waiting f_sched_taken f_sched_sent f_sched_lastSent f_hist_next f_hist_held f_ring_cells f_kept_cells f_sight_steps f_sight_gates f_sight_values f_sight_truths f_sight_held X) H locs → lv_has ls 4 [(0, .ref (ad 33)), (1, .ref (ad 17)), (2, .int p2), (3, .int x3)] → W p l e ({ frames := 4, cells := 0, slots := 0, locals := 91 } : Room) s m args below meth c H locs 0 0 Z (F0 m 2 ls []) := by
    intro n
    induction n with
    | zero => intro x3 f_logic_ones f_logic_settled f_logic_unknowns f_now_count f_now_ones f_now_unknowns H locs ls h; exact False.elim h
    | succ n2 ih2 =>
      intro x3 f_logic_ones f_logic_settled f_logic_unknowns f_now_count f_now_ones f_now_unknowns H locs ls h hw hl
      have h : wp_X9_makeSteps_b2 f_plan_firsts f_plan_gates f_plan_inputs f_plan_kinds f_plan_registers f_plan_seconds f_plan_slowRegisters f_plan_sourceSets p2 Q (wp_X9_makeSteps_h2 f_plan_firsts f_plan_gates f_plan_inputs f_plan_kinds f_plan_registers f_plan_seconds f_plan_slowRegisters f_plan_sourceSets p2 Q  n2) x3 f_logic_ones f_logic_settled f_logic_unknowns f_now_count f_now_ones f_now_unknowns := h
      unfold wp_X9_makeSteps_b2 at h
      refine lv_iload_n hx hb dX9_makeSteps_2 rfl (lv_at hl 3 rfl) ?_
      refine lv_iload_n hx hb dX9_makeSteps_3 rfl (lv_at hl 2 rfl) ?_
      refine lv_icmp_ge (tgt := 39) hx hb dX9_makeSteps_4 (by decide) (fun c1 => ?_) (fun c1 => ?_)
      · have h := h.1 c1
        exact hret _ _ _ _ _ ⟨_, _, _, _, _, _, rfl, h⟩ hw dX9_makeSteps_39
      · have h := h.2 c1
        refine lv_aload_n hx hb dX9_makeSteps_7 rfl (lv_at hl 0 rfl) ?_
        refine gC_X9_46_main E hw dX9_makeSteps_8 ?_
        refine lv_aload_n hx hb dX9_makeSteps_11 rfl (lv_at hl 0 rfl) ?_
        refine gC_X9_26_main E hw dX9_makeSteps_12 ?_
        refine lv_aload_n hx hb dX9_makeSteps_15 rfl (lv_at hl 1 rfl) ?_
        refine lv_bipush (v := -9) hx hb dX9_makeSteps_16 (by decide) ?_
        refine g_aV E hw (g_rV E hw (c_X1_compute_plan_now h _) ym_X1_compute k_298 ⟨rfl, rfl⟩ ⟨Nat.le_of_ble_eq_true rfl, Nat.le_of_ble_eq_true rfl⟩ 15 rfl rfl rfl rfl hl.1 rfl (Nat.le_of_ble_eq_true rfl) ⟨Nat.zero_le _, Nat.zero_le _⟩ dX9_makeSteps_18) (fun u H locs hq hw => ?_)
        obtain ⟨y3, y4, y5, hu, h⟩ := hq
        rw [hu] at hw
        refine lv_aload_n hx hb dX9_makeSteps_21 rfl (lv_at hl 0 rfl) ?_
        refine gC_X9_46_main E hw dX9_makeSteps_22 ?_
        refine lv_aload_n hx hb dX9_makeSteps_25 rfl (lv_at hl 0 rfl) ?_
        refine gC_X9_26_main E hw dX9_makeSteps_26 ?_
        refine lv_aload_n hx hb dX9_makeSteps_29 rfl (lv_at hl 1 rfl) ?_
        refine g_aV E hw (g_rV E hw (c_X1_tick_plan_now h _) ym_X1_tick k_349 ⟨rfl, rfl⟩ ⟨Nat.le_of_ble_eq_true rfl, Nat.le_of_ble_eq_true rfl⟩ 15 rfl rfl rfl rfl hl.1 rfl (Nat.le_of_ble_eq_true rfl) ⟨Nat.zero_le _, Nat.zero_le _⟩ dX9_makeSteps_30) (fun u H locs hq hw => ?_)
        obtain ⟨y7, y8, y9, hu, h⟩ := hq
        rw [hu] at hw
        obtain ⟨v10, ev10⟩ : ∃ y : Int32, y = x3 + 1 := ⟨_, rfl⟩
        have h := h v10 ev10
        refine lv_iinc (v := v10) (lv' := [(3, .int v10), (0, .ref (ad 33)), (1, .ref (ad 17)), (2, .int p2)]) hx hb dX9_makeSteps_33 hl (k := 3) rfl (by rw [ev10]; rfl) (by decide) rfl (fun ls hl => ?_)
        refine lv_goto (tgt := 2) hx hb dX9_makeSteps_36 (by decide) ?_
        exact ih2 v10 y3 y4 y5 y7 y8 y9 _ _ _ h hw (lv_sub hl [1, 2, 3, 0] rfl)
  unfold wp_X9_makeSteps at h
  refine lv_iconst (v := 0) hx hb dX9_makeSteps_0 (by decide) ?_
  refine lv_istore_n (lv' := [(3, .int (0 : Int32)), (0, .ref (ad 33)), (1, .ref (ad 17)), (2, .int p2)]) hx hb dX9_makeSteps_1 rfl hl (by decide) rfl (fun ls hl => ?_)
  obtain ⟨n, h⟩ := h
  exact L2 n (0 : Int32) f_logic_ones f_logic_settled f_logic_unknowns f_now_count f_now_ones f_now_unknowns _ _ _ h hw (lv_sub hl [1, 2, 3, 0] rfl)
set_option maxRecDepth 100000 in
set_option maxHeartbeats 4000000 in
theorem c_X9_step {l : Launch} {D : va_G} {cI cZ : ClassId} {ad : Nat → Nat} {f_keptSlots : Int32} {f_trace : Nat → Int32} {f_lastSeed : Int64} {f_text_letters : Nat → Int32} {f_text_length : Int32} {f_reader_place : Int32} {f_reader_greatestSource : Int32} {f_plan_chips : Int32} {f_plan_firstPins : Int32} {f_plan_firstPlaces : Int32} {f_plan_gates : Int32} {f_plan_inputs : Int32} {f_plan_registers : Int32} {f_plan_slowRegisters : Int32} {f_plan_kinds : Nat → Int32} {f_plan_firsts : Nat → Int32} {f_plan_seconds : Nat → Int32} {f_plan_clocks : Nat → Int32} {f_plan_sourceSets : Nat → Int32} {f_spare_chips : Int32} {f_spare_firstPins : Int32} {f_spare_firstPlaces : Int32} {f_spare_gates : Int32} {f_spare_inputs : Int32} {f_spare_registers : Int32} {f_spare_slowRegisters : Int32} {f_spare_kinds : Nat → Int32} {f_spare_firsts : Nat → Int32} {f_spare_seconds : Nat → Int32} {f_spare_clocks : Nat → Int32} {f_spare_sourceSets : Nat → Int32} {f_now_ones : Int32} {f_now_unknowns : Int32} {f_now_places : Int32} {f_now_pins : Int32} {f_now_count : Int32} {f_copy_ones : Int32} {f_copy_unknowns : Int32} {f_copy_places : Int32} {f_copy_pins : Int32} {f_copy_count : Int32} {f_logic_ones : Int32} {f_logic_unknowns : Int32} {f_logic_settled : Int32} {f_sched_available : Nat → Int32} {f_sched_wanted : Nat → Int32} {f_sched_coming : Nat → Int32} {f_sched_waiting : Int32} {f_sched_taken : Int32} {f_sched_sent : Int32} {f_sched_lastSent : Int32} {f_hist_next : Int32} {f_hist_held : Int32} {f_ring_cells : Nat → Int32} {f_kept_cells : Nat → Int32} {f_sight_steps : Nat → Int32} {f_sight_gates : Nat → Int32} {f_sight_values : Nat → Int32} {f_sight_truths : Nat → Int32} {f_sight_held : Int32} {X : va_W} {p1 : Int32} {Q : Int32 → Int32 → Int32 → (Nat → Int32) → Int32 → Int32 → Int32 → Int32 → Int32 → Int32 → Prop} (h : wp_X9_step f_hist_held f_hist_next f_ring_cells f_logic_ones f_logic_settled f_logic_unknowns f_now_count f_now_ones f_now_pins f_now_places f_now_unknowns f_plan_firsts f_plan_gates f_plan_inputs f_plan_kinds f_plan_registers f_plan_seconds f_plan_slowRegisters f_plan_sourceSets p1 Q) : CtI l yX9_step cX9_step 2 (some .int) ({ frames := 5, cells := 0, slots := 0, locals := 114 } : Room) D [(cI, .int), (cZ, .boolean)] [.ref (ad 33), .int p1] (wC ad cI cZ f_keptSlots f_trace f_lastSeed f_text_letters f_text_length f_reader_place f_reader_greatestSource f_plan_chips f_plan_firstPins f_plan_firstPlaces f_plan_gates f_plan_inputs f_plan_registers f_plan_slowRegisters f_plan_kinds f_plan_firsts f_plan_seconds f_plan_clocks f_plan_sourceSets f_spare_chips f_spare_firstPins f_spare_firstPlaces f_spare_gates f_spare_inputs f_spare_registers f_spare_slowRegisters f_spare_kinds f_spare_firsts f_spare_seconds f_spare_clocks f_spare_sourceSets f_now_ones f_now_unknowns f_now_places f_now_pins f_now_count f_copy_ones f_copy_unknowns f_copy_places f_copy_pins f_copy_count f_logic_ones f_logic_unknowns f_logic_settled f_sched_available f_sched_wanted f_sched_coming f_sched_waiting f_sched_taken f_sched_sent f_sched_lastSent f_hist_next f_hist_held f_ring_cells f_kept_cells f_sight_steps f_sight_gates f_sight_values f_sight_truths f_sight_held X) (fun r u => ∃ w0 w1 w2 w3 w4 w5 w6 w7 w8, u = (wC ad cI cZ f_keptSlots f_trace f_lastSeed f_text_letters f_text_length f_reader_place f_reader_greatestSource f_plan_chips f_plan_firstPins f_plan_firstPlaces f_plan_gates f_plan_inputs f_plan_registers f_plan_slowRegisters f_plan_kinds f_plan_firsts f_plan_seconds f_plan_clocks f_plan_sourceSets f_spare_chips f_spare_firstPins f_spare_firstPlaces f_spare_gates f_spare_inputs f_spare_registers f_spare_slowRegisters f_spare_kinds f_spare_firsts f_spare_seconds f_spare_clocks f_spare_sourceSets w7 w8 f_now_places f_now_pins w6 f_copy_ones f_copy_unknowns f_copy_places f_copy_pins f_copy_count w3 w5 w4 f_sched_available f_sched_wanted f_sched_coming f_sched_waiting f_sched_taken f_sched_sent f_sched_lastSent w1 w0 w2 f_kept_cells f_sight_steps f_sight_gates f_sight_values f_sight_truths f_sight_held X) ∧ Q r w0 w1 w2 w3 w4 w5 w6 w7 w8) := by
  refine CtI.of (by decide) rfl (Nat.le_of_ble_eq_true rfl) ?_
  intro p e s m args below meth c A Z E hret ls hl hw
  have E : gE p m c cX9_step 2 s args RX9 D [(cI, .int), (cZ, .boolean)] A := E
  have hx := E.1.1
  have hb := E.1.2.1
  have hl : lv_has ls 2 [(0, .ref (ad 33)), (1, .int p1)] := hl
  unfold wp_X9_step at h
  refine lv_iload_n hx hb dX9_step_0 rfl (lv_at hl 1 rfl) ?_
  refine lv_iconst (v := 1) hx hb dX9_step_1 (by decide) ?_
  refine lv_icmp_lt (tgt := 11) hx hb dX9_step_2 (by decide) (fun c1 => ?_) (fun c1 => ?_)
  · have h := h.1 c1
    refine lv_bipush (v := -2) hx hb dX9_step_11 (by decide) ?_
    exact hret _ _ _ _ _ _ ⟨_, _, _, _, _, _, _, _, _, rfl, h⟩ hw dX9_step_13
  · have h := h.2 c1
    refine lv_iload_n hx hb dX9_step_5 rfl (lv_at hl 1 rfl) ?_
    refine lv_bipush (v := 99) hx hb dX9_step_6 (by decide) ?_
    refine lv_icmp_le (tgt := 14) hx hb dX9_step_8 (by decide) (fun c2 => ?_) (fun c2 => ?_)
    · have h := h.1 c2
      refine lv_aload_n hx hb dX9_step_14 rfl (lv_at hl 0 rfl) ?_
      refine gC_X9_60_main E hw dX9_step_15 ?_
      refine lv_aload_n hx hb dX9_step_18 rfl (lv_at hl 0 rfl) ?_
      refine gC_X9_36_main E hw dX9_step_19 ?_
      refine g_aV E hw (g_rV E hw (c_X0_remember_now h _) ym_X0_remember k_335 ⟨rfl, rfl⟩ ⟨Nat.le_of_ble_eq_true rfl, Nat.le_of_ble_eq_true rfl⟩ 10 rfl rfl rfl rfl hl.1 rfl (Nat.le_of_ble_eq_true rfl) ⟨Nat.zero_le _, Nat.zero_le _⟩ dX9_step_22) (fun u H locs hq hw => ?_)
      obtain ⟨y4, y5, y6, hu, h⟩ := hq
      rw [hu] at hw
      refine lv_aload_n hx hb dX9_step_25 rfl (lv_at hl 0 rfl) ?_
      refine lv_aload_n hx hb dX9_step_26 rfl (lv_at hl 0 rfl) ?_
      refine gC_X9_36_main E hw dX9_step_27 ?_
      refine lv_iload_n hx hb dX9_step_30 rfl (lv_at hl 1 rfl) ?_
      refine g_aV E hw (g_rV E hw (c_X9_makeSteps_now h _) ym_X9_makeSteps k_346 ⟨rfl, rfl⟩ ⟨Nat.le_of_ble_eq_true rfl, Nat.le_of_ble_eq_true rfl⟩ 33 rfl rfl rfl rfl hl.1 rfl (Nat.le_of_ble_eq_true rfl) ⟨Nat.zero_le _, Nat.zero_le _⟩ dX9_step_31) (fun u H locs hq hw => ?_)
      obtain ⟨y8, y9, y10, y11, y12, y13, hu, h⟩ := hq
      rw [hu] at hw
      refine lv_aload_n hx hb dX9_step_34 rfl (lv_at hl 0 rfl) ?_
      refine gC_X9_36_main E hw dX9_step_35 ?_
      refine gC_X9_151_now E hw dX9_step_38 ?_
      exact hret _ _ _ _ _ _ ⟨_, _, _, _, _, _, _, _, _, rfl, h⟩ hw dX9_step_41
    · have h := h.2 c2
      refine lv_bipush (v := -2) hx hb dX9_step_11 (by decide) ?_
      exact hret _ _ _ _ _ _ ⟨_, _, _, _, _, _, _, _, _, rfl, h⟩ hw dX9_step_13
set_option maxRecDepth 100000 in
set_option maxHeartbeats 4000000 in
theorem c_X9_input {l : Launch} {D : va_G} {cI cZ : ClassId} {ad : Nat → Nat} {f_keptSlots : Int32} {f_trace : Nat → Int32} {f_lastSeed : Int64} {f_text_letters : Nat → Int32} {f_text_length : Int32} {f_reader_place : Int32} {f_reader_greatestSource : Int32} {f_plan_chips : Int32} {f_plan_firstPins : Int32} {f_plan_firstPlaces : Int32} {f_plan_gates : Int32} {f_plan_inputs : Int32} {f_plan_registers : Int32} {f_plan_slowRegisters : Int32} {f_plan_kinds : Nat → Int32} {f_plan_firsts : Nat → Int32} {f_plan_seconds : Nat → Int32} {f_plan_clocks : Nat → Int32} {f_plan_sourceSets : Nat → Int32} {f_spare_chips : Int32} {f_spare_firstPins : Int32} {f_spare_firstPlaces : Int32} {f_spare_gates : Int32} {f_spare_inputs : Int32} {f_spare_registers : Int32} {f_spare_slowRegisters : Int32} {f_spare_kinds : Nat → Int32} {f_spare_firsts : Nat → Int32} {f_spare_seconds : Nat → Int32} {f_spare_clocks : Nat → Int32} {f_spare_sourceSets : Nat → Int32} {f_now_ones : Int32} {f_now_unknowns : Int32} {f_now_places : Int32} {f_now_pins : Int32} {f_now_count : Int32} {f_copy_ones : Int32} {f_copy_unknowns : Int32} {f_copy_places : Int32} {f_copy_pins : Int32} {f_copy_count : Int32} {f_logic_ones : Int32} {f_logic_unknowns : Int32} {f_logic_settled : Int32} {f_sched_available : Nat → Int32} {f_sched_wanted : Nat → Int32} {f_sched_coming : Nat → Int32} {f_sched_waiting : Int32} {f_sched_taken : Int32} {f_sched_sent : Int32} {f_sched_lastSent : Int32} {f_hist_next : Int32} {f_hist_held : Int32} {f_ring_cells : Nat → Int32} {f_kept_cells : Nat → Int32} {f_sight_steps : Nat → Int32} {f_sight_gates : Nat → Int32} {f_sight_values : Nat → Int32} {f_sight_truths : Nat → Int32} {f_sight_held : Int32} {X : va_W} {p1 : Int32} {p2 : Int32} {Q : Int32 → Int32 → Int32 → (Nat → Int32) → Int32 → Int32 → Prop} (h : wp_X9_input f_hist_held f_hist_next f_ring_cells f_now_count f_now_ones f_now_pins f_now_places f_now_unknowns f_plan_gates f_plan_kinds p1 p2 Q) : CtI l yX9_input cX9_input 4 (some .int) ({ frames := 3, cells := 0, slots := 0, locals := 66 } : Room) D [(cI, .int), (cZ, .boolean)] [.ref (ad 33), .int p1, .int p2] (wC ad cI cZ f_keptSlots f_trace f_lastSeed f_text_letters f_text_length f_reader_place f_reader_greatestSource f_plan_chips f_plan_firstPins f_plan_firstPlaces f_plan_gates f_plan_inputs f_plan_registers f_plan_slowRegisters f_plan_kinds f_plan_firsts f_plan_seconds f_plan_clocks f_plan_sourceSets f_spare_chips f_spare_firstPins f_spare_firstPlaces f_spare_gates f_spare_inputs f_spare_registers f_spare_slowRegisters f_spare_kinds f_spare_firsts f_spare_seconds f_spare_clocks f_spare_sourceSets f_now_ones f_now_unknowns f_now_places f_now_pins f_now_count f_copy_ones f_copy_unknowns f_copy_places f_copy_pins f_copy_count f_logic_ones f_logic_unknowns f_logic_settled f_sched_available f_sched_wanted f_sched_coming f_sched_waiting f_sched_taken f_sched_sent f_sched_lastSent f_hist_next f_hist_held f_ring_cells f_kept_cells f_sight_steps f_sight_gates f_sight_values f_sight_truths f_sight_held X) (fun r u => ∃ w0 w1 w2 w3 w4, u = (wC ad cI cZ f_keptSlots f_trace f_lastSeed f_text_letters f_text_length f_reader_place f_reader_greatestSource f_plan_chips f_plan_firstPins f_plan_firstPlaces f_plan_gates f_plan_inputs f_plan_registers f_plan_slowRegisters f_plan_kinds f_plan_firsts f_plan_seconds f_plan_clocks f_plan_sourceSets f_spare_chips f_spare_firstPins f_spare_firstPlaces f_spare_gates f_spare_inputs f_spare_registers f_spare_slowRegisters f_spare_kinds f_spare_firsts f_spare_seconds f_spare_clocks f_spare_sourceSets w3 w4 f_now_places f_now_pins f_now_count f_copy_ones f_copy_unknowns f_copy_places f_copy_pins f_copy_count f_logic_ones f_logic_unknowns f_logic_settled f_sched_available f_sched_wanted f_sched_coming f_sched_waiting f_sched_taken f_sched_sent f_sched_lastSent w1 w0 w2 f_kept_cells f_sight_steps f_sight_gates f_sight_values f_sight_truths f_sight_held X) ∧ Q r w0 w1 w2 w3 w4) := by
  refine CtI.of (by decide) rfl (Nat.le_of_ble_eq_true rfl) ?_
  intro p e s m args below meth c A Z E hret ls hl hw
  have E : gE p m c cX9_input 4 s args RX9 D [(cI, .int), (cZ, .boolean)] A := E
  have hx := E.1.1
  have hb := E.1.2.1
  have hl : lv_has ls 4 [(0, .ref (ad 33)), (1, .int p1), (2, .int p2)] := hl
  unfold wp_X9_input at h
  refine lv_aload_n hx hb dX9_input_0 rfl (lv_at hl 0 rfl) ?_
  refine lv_iload_n hx hb dX9_input_1 rfl (lv_at hl 1 rfl) ?_
  refine g_aI E hw (g_rV E hw (c_X9_isGate h _) ym_X9_isGate k_276 ⟨rfl, rfl⟩ ⟨Nat.le_of_ble_eq_true rfl, Nat.le_of_ble_eq_true rfl⟩ 33 rfl rfl rfl rfl hl.1 rfl (Nat.le_of_ble_eq_true rfl) ⟨Nat.zero_le _, Nat.zero_le _⟩ dX9_input_2) (fun r1 u H locs hq hw => ?_)
  obtain ⟨hu, h⟩ := hq
  rw [hu] at hw
  refine lv_if_ne (tgt := 10) hx hb dX9_input_5 (by decide) (fun c2 => ?_) (fun c2 => ?_)
  · have h := h.1 c2
    refine lv_aload_n hx hb dX9_input_10 rfl (lv_at hl 0 rfl) ?_
    refine gC_X9_26_main E hw dX9_input_11 ?_
    refine lv_iload_n hx hb dX9_input_14 rfl (lv_at hl 1 rfl) ?_
    refine g_aI E hw (g_rV E hw (c_X2_kindOf_plan h _) ym_X2_kindOf k_279 ⟨rfl, rfl⟩ ⟨Nat.le_of_ble_eq_true rfl, Nat.le_of_ble_eq_true rfl⟩ 29 rfl rfl rfl rfl hl.1 rfl (Nat.le_of_ble_eq_true rfl) ⟨Nat.zero_le _, Nat.zero_le _⟩ dX9_input_15) (fun r3 u H locs hq hw => ?_)
    obtain ⟨hu, h⟩ := hq
    rw [hu] at hw
    refine lv_if_eq (tgt := 24) hx hb dX9_input_18 (by decide) (fun c4 => ?_) (fun c4 => ?_)
    · have h := h.1 c4
      refine lv_iload_n hx hb dX9_input_24 rfl (lv_at hl 2 rfl) ?_
      refine g_aI E hw (g_rS E hw (c_X9_isValue h _) ym_X9_isValue k_361 ⟨rfl, rfl⟩ ⟨Nat.le_of_ble_eq_true rfl, Nat.le_of_ble_eq_true rfl⟩ rfl hl.1 rfl (Nat.le_of_ble_eq_true rfl) ⟨Nat.zero_le _, Nat.zero_le _⟩ dX9_input_25) (fun r5 u H locs hq hw => ?_)
      obtain ⟨hu, h⟩ := hq
      rw [hu] at hw
      refine lv_if_ne (tgt := 34) hx hb dX9_input_28 (by decide) (fun c6 => ?_) (fun c6 => ?_)
      · have h := h.1 c6
        refine lv_aload_n hx hb dX9_input_34 rfl (lv_at hl 0 rfl) ?_
        refine gC_X9_60_main E hw dX9_input_35 ?_
        refine lv_aload_n hx hb dX9_input_38 rfl (lv_at hl 0 rfl) ?_
        refine gC_X9_36_main E hw dX9_input_39 ?_
        refine g_aV E hw (g_rV E hw (c_X0_remember_now h _) ym_X0_remember k_335 ⟨rfl, rfl⟩ ⟨Nat.le_of_ble_eq_true rfl, Nat.le_of_ble_eq_true rfl⟩ 10 rfl rfl rfl rfl hl.1 rfl (Nat.le_of_ble_eq_true rfl) ⟨Nat.zero_le _, Nat.zero_le _⟩ dX9_input_42) (fun u H locs hq hw => ?_)
        obtain ⟨y8, y9, y10, hu, h⟩ := hq
        rw [hu] at hw
        refine lv_aload_n hx hb dX9_input_45 rfl (lv_at hl 0 rfl) ?_
        refine gC_X9_36_main E hw dX9_input_46 ?_
        refine gC_X9_157_now E hw dX9_input_49 ?_
        refine lv_aload_n hx hb dX9_input_52 rfl (lv_at hl 0 rfl) ?_
        refine gC_X9_36_main E hw dX9_input_53 ?_
        refine gC_X9_160_now E hw dX9_input_56 ?_
        refine lv_iload_n hx hb dX9_input_59 rfl (lv_at hl 1 rfl) ?_
        refine g_aI E hw (g_rS E hw (c_X9_valueIn h _) ym_X9_valueIn k_326 ⟨rfl, rfl⟩ ⟨Nat.le_of_ble_eq_true rfl, Nat.le_of_ble_eq_true rfl⟩ rfl hl.1 rfl (Nat.le_of_ble_eq_true rfl) ⟨Nat.zero_le _, Nat.zero_le _⟩ dX9_input_60) (fun r11 u H locs hq hw => ?_)
        obtain ⟨hu, h⟩ := hq
        rw [hu] at hw
        refine lv_istore_n (lv' := [(3, .int r11), (0, .ref (ad 33)), (1, .int p1), (2, .int p2)]) hx hb dX9_input_63 rfl hl (by decide) rfl (fun ls hl => ?_)
        refine lv_aload_n hx hb dX9_input_64 rfl (lv_at hl 1 rfl) ?_
        refine gC_X9_36_main E hw dX9_input_65 ?_
        refine lv_iload_n hx hb dX9_input_68 rfl (lv_at hl 2 rfl) ?_
        refine lv_iload_n hx hb dX9_input_69 rfl (lv_at hl 3 rfl) ?_
        refine g_aV E hw (g_rV E hw (c_X7_store_now h _) ym_X7_store k_364 ⟨rfl, rfl⟩ ⟨Nat.le_of_ble_eq_true rfl, Nat.le_of_ble_eq_true rfl⟩ 17 rfl rfl rfl rfl hl.1 rfl (Nat.le_of_ble_eq_true rfl) ⟨Nat.zero_le _, Nat.zero_le _⟩ dX9_input_70) (fun u H locs hq hw => ?_)
        obtain ⟨y13, y14, hu, h⟩ := hq
        rw [hu] at hw
        refine lv_iload_n hx hb dX9_input_73 rfl (lv_at hl 0 rfl) ?_
        exact hret _ _ _ _ _ _ ⟨_, _, _, _, _, rfl, h⟩ hw dX9_input_74
      · have h := h.2 c6
        refine lv_bipush (v := -2) hx hb dX9_input_31 (by decide) ?_
        exact hret _ _ _ _ _ _ ⟨_, _, _, _, _, rfl, h⟩ hw dX9_input_33
    · have h := h.2 c4
      refine lv_bipush (v := -3) hx hb dX9_input_21 (by decide) ?_
      exact hret _ _ _ _ _ _ ⟨_, _, _, _, _, rfl, h⟩ hw dX9_input_23
  · have h := h.2 c2
    refine lv_iconst (v := -1) hx hb dX9_input_8 (by decide) ?_
    exact hret _ _ _ _ _ _ ⟨_, _, _, _, _, rfl, h⟩ hw dX9_input_9
set_option maxRecDepth 100000 in
set_option maxHeartbeats 4000000 in
theorem c_X9_isChip {l : Launch} {D : va_G} {cI cZ : ClassId} {ad : Nat → Nat} {f_keptSlots : Int32} {f_trace : Nat → Int32} {f_lastSeed : Int64} {f_text_letters : Nat → Int32} {f_text_length : Int32} {f_reader_place : Int32} {f_reader_greatestSource : Int32} {f_plan_chips : Int32} {f_plan_firstPins : Int32} {f_plan_firstPlaces : Int32} {f_plan_gates : Int32} {f_plan_inputs : Int32} {f_plan_registers : Int32} {f_plan_slowRegisters : Int32} {f_plan_kinds : Nat → Int32} {f_plan_firsts : Nat → Int32} {f_plan_seconds : Nat → Int32} {f_plan_clocks : Nat → Int32} {f_plan_sourceSets : Nat → Int32} {f_spare_chips : Int32} {f_spare_firstPins : Int32} {f_spare_firstPlaces : Int32} {f_spare_gates : Int32} {f_spare_inputs : Int32} {f_spare_registers : Int32} {f_spare_slowRegisters : Int32} {f_spare_kinds : Nat → Int32} {f_spare_firsts : Nat → Int32} {f_spare_seconds : Nat → Int32} {f_spare_clocks : Nat → Int32} {f_spare_sourceSets : Nat → Int32} {f_now_ones : Int32} {f_now_unknowns : Int32} {f_now_places : Int32} {f_now_pins : Int32} {f_now_count : Int32} {f_copy_ones : Int32} {f_copy_unknowns : Int32} {f_copy_places : Int32} {f_copy_pins : Int32} {f_copy_count : Int32} {f_logic_ones : Int32} {f_logic_unknowns : Int32} {f_logic_settled : Int32} {f_sched_available : Nat → Int32} {f_sched_wanted : Nat → Int32} {f_sched_coming : Nat → Int32} {f_sched_waiting : Int32} {f_sched_taken : Int32} {f_sched_sent : Int32} {f_sched_lastSent : Int32} {f_hist_next : Int32} {f_hist_held : Int32} {f_ring_cells : Nat → Int32} {f_kept_cells : Nat → Int32} {f_sight_steps : Nat → Int32} {f_sight_gates : Nat → Int32} {f_sight_values : Nat → Int32} {f_sight_truths : Nat → Int32} {f_sight_held : Int32} {X : va_W} {p1 : Int32} {Q : Int32 → Prop} (h : wp_X9_isChip f_plan_chips p1 Q) : CtI l yX9_isChip cX9_isChip 2 (some .boolean) ({ frames := 0, cells := 0, slots := 0, locals := 0 } : Room) D [(cI, .int), (cZ, .boolean)] [.ref (ad 33), .int p1] (wC ad cI cZ f_keptSlots f_trace f_lastSeed f_text_letters f_text_length f_reader_place f_reader_greatestSource f_plan_chips f_plan_firstPins f_plan_firstPlaces f_plan_gates f_plan_inputs f_plan_registers f_plan_slowRegisters f_plan_kinds f_plan_firsts f_plan_seconds f_plan_clocks f_plan_sourceSets f_spare_chips f_spare_firstPins f_spare_firstPlaces f_spare_gates f_spare_inputs f_spare_registers f_spare_slowRegisters f_spare_kinds f_spare_firsts f_spare_seconds f_spare_clocks f_spare_sourceSets f_now_ones f_now_unknowns f_now_places f_now_pins f_now_count f_copy_ones f_copy_unknowns f_copy_places f_copy_pins f_copy_count f_logic_ones f_logic_unknowns f_logic_settled f_sched_available f_sched_wanted f_sched_coming f_sched_waiting f_sched_taken f_sched_sent f_sched_lastSent f_hist_next f_hist_held f_ring_cells f_kept_cells f_sight_steps f_sight_gates f_sight_values f_sight_truths f_sight_held X) (fun r u => u = (wC ad cI cZ f_keptSlots f_trace f_lastSeed f_text_letters f_text_length f_reader_place f_reader_greatestSource f_plan_chips f_plan_firstPins f_plan_firstPlaces f_plan_gates f_plan_inputs f_plan_registers f_plan_slowRegisters f_plan_kinds f_plan_firsts f_plan_seconds f_plan_clocks f_plan_sourceSets f_spare_chips f_spare_firstPins f_spare_firstPlaces f_spare_gates f_spare_inputs f_spare_registers f_spare_slowRegisters f_spare_kinds f_spare_firsts f_spare_seconds f_spare_clocks f_spare_sourceSets f_now_ones f_now_unknowns f_now_places f_now_pins f_now_count f_copy_ones f_copy_unknowns f_copy_places f_copy_pins f_copy_count f_logic_ones f_logic_unknowns f_logic_settled f_sched_available f_sched_wanted f_sched_coming f_sched_waiting f_sched_taken f_sched_sent f_sched_lastSent f_hist_next f_hist_held f_ring_cells f_kept_cells f_sight_steps f_sight_gates f_sight_values f_sight_truths f_sight_held X) ∧ Q r) := by
  refine CtI.ofZ (by decide) rfl (Nat.le_of_ble_eq_true rfl) ?_
  intro p e s m args below meth c A Z E hret ls hl hw
  have E : gE p m c cX9_isChip 2 s args RX9 D [(cI, .int), (cZ, .boolean)] A := E
  have hx := E.1.1
  have hb := E.1.2.1
  have hl : lv_has ls 2 [(0, .ref (ad 33)), (1, .int p1)] := hl
  have J19 : ∀  (H : Heap) (locs : List Loc) (ls : Array Slot), wp_X9_isChip_b19 f_plan_chips p1 Q   → gW D s A (wC ad cI cZ f_keptSlots f_trace f_lastSeed f_text_letters f_text_length f_reader_place f_reader_greatestSource f_plan_chips f_plan_firstPins f_plan_firstPlaces f_plan_gates f_plan_inputs f_plan_registers f_plan_slowRegisters f_plan_kinds f_plan_firsts f_plan_seconds f_plan_clocks f_plan_sourceSets f_spare_chips f_spare_firstPins f_spare_firstPlaces f_spare_gates f_spare_inputs f_spare_registers f_spare_slowRegisters f_spare_kinds f_spare_firsts f_spare_seconds f_spare_clocks f_spare_sourceSets f_now_ones f_now_unknowns f_now_places f_now_pins f_now_count f_copy_ones f_copy_unknowns f_copy_places f_copy_pins f_copy_count f_logic_ones f_logic_unknowns f_logic_settled f_sched_available f_sched_wanted f_sched_coming f_sched_waiting f_sched_taken f_sched_sent f_sched_lastSent f_hist_next f_hist_held f_ring_cells f_kept_cells f_sight_steps f_sight_gates f_sight_values f_sight_truths f_sight_held X) H locs → lv_has ls 2 [] → W p l e ({ frames := 0, cells := 0, slots := 0, locals := 0 } : Room) s m args below meth c H locs 0 0 Z (F0 m 19 ls []) := by
    intro  H locs ls h hw hl
    unfold wp_X9_isChip_b19 at h
    refine lv_iconst (v := 0) hx hb dX9_isChip_19 (by decide) ?_
    exact hret _ _ _ _ _ _ (Or.inl rfl) ⟨rfl, h⟩ hw dX9_isChip_20
  unfold wp_X9_isChip at h
  refine lv_iload_n hx hb dX9_isChip_0 rfl (lv_at hl 1 rfl) ?_
  refine lv_if_lt (tgt := 19) hx hb dX9_isChip_1 (by decide) (fun c1 => ?_) (fun c1 => ?_)
  · have h := h.1 c1
    exact J19  _ _ _ h hw (lv_sub hl [] rfl)
  · have h := h.2 c1
    refine lv_iload_n hx hb dX9_isChip_4 rfl (lv_at hl 1 rfl) ?_
    refine lv_aload_n hx hb dX9_isChip_5 rfl (lv_at hl 0 rfl) ?_
    refine gC_X9_26_main E hw dX9_isChip_6 ?_
    refine gC_X9_280_plan E hw dX9_isChip_9 ?_
    refine lv_icmp_ge (tgt := 19) hx hb dX9_isChip_12 (by decide) (fun c2 => ?_) (fun c2 => ?_)
    · have h := h.1 c2
      exact J19  _ _ _ h hw (lv_sub hl [] rfl)
    · have h := h.2 c2
      refine lv_iconst (v := 1) hx hb dX9_isChip_15 (by decide) ?_
      refine lv_goto (tgt := 20) hx hb dX9_isChip_16 (by decide) ?_
      exact hret _ _ _ _ _ _ (Or.inr rfl) ⟨rfl, h⟩ hw dX9_isChip_20
set_option maxRecDepth 100000 in
set_option maxHeartbeats 4000000 in
theorem c_X9_lay {l : Launch} {D : va_G} {cI cZ : ClassId} {ad : Nat → Nat} {f_keptSlots : Int32} {f_trace : Nat → Int32} {f_lastSeed : Int64} {f_text_letters : Nat → Int32} {f_text_length : Int32} {f_reader_place : Int32} {f_reader_greatestSource : Int32} {f_plan_chips : Int32} {f_plan_firstPins : Int32} {f_plan_firstPlaces : Int32} {f_plan_gates : Int32} {f_plan_inputs : Int32} {f_plan_registers : Int32} {f_plan_slowRegisters : Int32} {f_plan_kinds : Nat → Int32} {f_plan_firsts : Nat → Int32} {f_plan_seconds : Nat → Int32} {f_plan_clocks : Nat → Int32} {f_plan_sourceSets : Nat → Int32} {f_spare_chips : Int32} {f_spare_firstPins : Int32} {f_spare_firstPlaces : Int32} {f_spare_gates : Int32} {f_spare_inputs : Int32} {f_spare_registers : Int32} {f_spare_slowRegisters : Int32} {f_spare_kinds : Nat → Int32} {f_spare_firsts : Nat → Int32} {f_spare_seconds : Nat → Int32} {f_spare_clocks : Nat → Int32} {f_spare_sourceSets : Nat → Int32} {f_now_ones : Int32} {f_now_unknowns : Int32} {f_now_places : Int32} {f_now_pins : Int32} {f_now_count : Int32} {f_copy_ones : Int32} {f_copy_unknowns : Int32} {f_copy_places : Int32} {f_copy_pins : Int32} {f_copy_count : Int32} {f_logic_ones : Int32} {f_logic_unknowns : Int32} {f_logic_settled : Int32} {f_sched_available : Nat → Int32} {f_sched_wanted : Nat → Int32} {f_sched_coming : Nat → Int32} {f_sched_waiting : Int32} {f_sched_taken : Int32} {f_sched_sent : Int32} {f_sched_lastSent : Int32} {f_hist_next : Int32} {f_hist_held : Int32} {f_ring_cells : Nat → Int32} {f_kept_cells : Nat → Int32} {f_sight_steps : Nat → Int32} {f_sight_gates : Nat → Int32} {f_sight_values : Nat → Int32} {f_sight_truths : Nat → Int32} {f_sight_held : Int32} {X : va_W} {p1 : Int32} {p2 : Int32} {Q : Int32 → Int32 → Int32 → (Nat → Int32) → Int32 → Prop} (h : wp_X9_lay f_hist_held f_hist_next f_ring_cells f_now_count f_now_ones f_now_pins f_now_places f_now_unknowns f_plan_chips f_plan_gates p1 p2 Q) : CtI l yX9_lay cX9_lay 4 (some .int) ({ frames := 3, cells := 0, slots := 0, locals := 66 } : Room) D [(cI, .int), (cZ, .boolean)] [.ref (ad 33), .int p1, .int p2] (wC ad cI cZ f_keptSlots f_trace f_lastSeed f_text_letters f_text_length f_reader_place f_reader_greatestSource f_plan_chips f_plan_firstPins f_plan_firstPlaces f_plan_gates f_plan_inputs f_plan_registers f_plan_slowRegisters f_plan_kinds f_plan_firsts f_plan_seconds f_plan_clocks f_plan_sourceSets f_spare_chips f_spare_firstPins f_spare_firstPlaces f_spare_gates f_spare_inputs f_spare_registers f_spare_slowRegisters f_spare_kinds f_spare_firsts f_spare_seconds f_spare_clocks f_spare_sourceSets f_now_ones f_now_unknowns f_now_places f_now_pins f_now_count f_copy_ones f_copy_unknowns f_copy_places f_copy_pins f_copy_count f_logic_ones f_logic_unknowns f_logic_settled f_sched_available f_sched_wanted f_sched_coming f_sched_waiting f_sched_taken f_sched_sent f_sched_lastSent f_hist_next f_hist_held f_ring_cells f_kept_cells f_sight_steps f_sight_gates f_sight_values f_sight_truths f_sight_held X) (fun r u => ∃ w0 w1 w2 w3, u = (wC ad cI cZ f_keptSlots f_trace f_lastSeed f_text_letters f_text_length f_reader_place f_reader_greatestSource f_plan_chips f_plan_firstPins f_plan_firstPlaces f_plan_gates f_plan_inputs f_plan_registers f_plan_slowRegisters f_plan_kinds f_plan_firsts f_plan_seconds f_plan_clocks f_plan_sourceSets f_spare_chips f_spare_firstPins f_spare_firstPlaces f_spare_gates f_spare_inputs f_spare_registers f_spare_slowRegisters f_spare_kinds f_spare_firsts f_spare_seconds f_spare_clocks f_spare_sourceSets f_now_ones f_now_unknowns w3 f_now_pins f_now_count f_copy_ones f_copy_unknowns f_copy_places f_copy_pins f_copy_count f_logic_ones f_logic_unknowns f_logic_settled f_sched_available f_sched_wanted f_sched_coming f_sched_waiting f_sched_taken f_sched_sent f_sched_lastSent w1 w0 w2 f_kept_cells f_sight_steps f_sight_gates f_sight_values f_sight_truths f_sight_held X) ∧ Q r w0 w1 w2 w3) := by
  refine CtI.of (by decide) rfl (Nat.le_of_ble_eq_true rfl) ?_
  intro p e s m args below meth c A Z E hret ls hl hw
  have E : gE p m c cX9_lay 4 s args RX9 D [(cI, .int), (cZ, .boolean)] A := E
  have hx := E.1.1
  have hb := E.1.2.1
  have hl : lv_has ls 4 [(0, .ref (ad 33)), (1, .int p1), (2, .int p2)] := hl
  unfold wp_X9_lay at h
  refine lv_aload_n hx hb dX9_lay_0 rfl (lv_at hl 0 rfl) ?_
  refine lv_iload_n hx hb dX9_lay_1 rfl (lv_at hl 1 rfl) ?_
  refine g_aI E hw (g_rV E hw (c_X9_isGate h _) ym_X9_isGate k_276 ⟨rfl, rfl⟩ ⟨Nat.le_of_ble_eq_true rfl, Nat.le_of_ble_eq_true rfl⟩ 33 rfl rfl rfl rfl hl.1 rfl (Nat.le_of_ble_eq_true rfl) ⟨Nat.zero_le _, Nat.zero_le _⟩ dX9_lay_2) (fun r1 u H locs hq hw => ?_)
  obtain ⟨hu, h⟩ := hq
  rw [hu] at hw
  refine lv_if_eq (tgt := 16) hx hb dX9_lay_5 (by decide) (fun c2 => ?_) (fun c2 => ?_)
  · have h := h.1 c2
    refine lv_iconst (v := -1) hx hb dX9_lay_16 (by decide) ?_
    exact hret _ _ _ _ _ _ ⟨_, _, _, _, rfl, h⟩ hw dX9_lay_17
  · have h := h.2 c2
    refine lv_aload_n hx hb dX9_lay_8 rfl (lv_at hl 0 rfl) ?_
    refine lv_iload_n hx hb dX9_lay_9 rfl (lv_at hl 2 rfl) ?_
    refine g_aI E hw (g_rV E hw (c_X9_isChip h _) ym_X9_isChip k_369 ⟨rfl, rfl⟩ ⟨Nat.le_of_ble_eq_true rfl, Nat.le_of_ble_eq_true rfl⟩ 33 rfl rfl rfl rfl hl.1 rfl (Nat.le_of_ble_eq_true rfl) ⟨Nat.zero_le _, Nat.zero_le _⟩ dX9_lay_10) (fun r3 u H locs hq hw => ?_)
    obtain ⟨hu, h⟩ := hq
    rw [hu] at hw
    refine lv_if_ne (tgt := 18) hx hb dX9_lay_13 (by decide) (fun c4 => ?_) (fun c4 => ?_)
    · have h := h.1 c4
      refine lv_aload_n hx hb dX9_lay_18 rfl (lv_at hl 0 rfl) ?_
      refine gC_X9_36_main E hw dX9_lay_19 ?_
      refine gC_X9_120_now E hw dX9_lay_22 ?_
      refine lv_iload_n hx hb dX9_lay_25 rfl (lv_at hl 1 rfl) ?_
      refine g_aI E hw (g_rS E hw (c_X9_chipIn h _) ym_X9_chipIn k_280 ⟨rfl, rfl⟩ ⟨Nat.le_of_ble_eq_true rfl, Nat.le_of_ble_eq_true rfl⟩ rfl hl.1 rfl (Nat.le_of_ble_eq_true rfl) ⟨Nat.zero_le _, Nat.zero_le _⟩ dX9_lay_26) (fun r5 u H locs hq hw => ?_)
      obtain ⟨hu, h⟩ := hq
      rw [hu] at hw
      refine lv_istore_n (lv' := [(3, .int r5), (0, .ref (ad 33)), (1, .int p1), (2, .int p2)]) hx hb dX9_lay_29 rfl hl (by decide) rfl (fun ls hl => ?_)
      refine lv_iload_n hx hb dX9_lay_30 rfl (lv_at hl 0 rfl) ?_
      refine lv_iload_n hx hb dX9_lay_31 rfl (lv_at hl 3 rfl) ?_
      refine lv_icmp_ne (tgt := 38) hx hb dX9_lay_32 (by decide) (fun c6 => ?_) (fun c6 => ?_)
      · have h := h.1 c6
        refine lv_aload_n hx hb dX9_lay_38 rfl (lv_at hl 1 rfl) ?_
        refine gC_X9_60_main E hw dX9_lay_39 ?_
        refine lv_aload_n hx hb dX9_lay_42 rfl (lv_at hl 1 rfl) ?_
        refine gC_X9_36_main E hw dX9_lay_43 ?_
        refine g_aV E hw (g_rV E hw (c_X0_remember_now h _) ym_X0_remember k_335 ⟨rfl, rfl⟩ ⟨Nat.le_of_ble_eq_true rfl, Nat.le_of_ble_eq_true rfl⟩ 10 rfl rfl rfl rfl hl.1 rfl (Nat.le_of_ble_eq_true rfl) ⟨Nat.zero_le _, Nat.zero_le _⟩ dX9_lay_46) (fun u H locs hq hw => ?_)
        obtain ⟨y8, y9, y10, hu, h⟩ := hq
        rw [hu] at hw
        refine lv_aload_n hx hb dX9_lay_49 rfl (lv_at hl 1 rfl) ?_
        refine gC_X9_36_main E hw dX9_lay_50 ?_
        refine lv_aload_n hx hb dX9_lay_53 rfl (lv_at hl 1 rfl) ?_
        refine gC_X9_36_main E hw dX9_lay_54 ?_
        refine gC_X9_120_now E hw dX9_lay_57 ?_
        refine lv_iload_n hx hb dX9_lay_60 rfl (lv_at hl 2 rfl) ?_
        refine lv_iload_n hx hb dX9_lay_61 rfl (lv_at hl 3 rfl) ?_
        refine g_aI E hw (g_rS E hw (c_X9_placed h _) ym_X9_placed k_372 ⟨rfl, rfl⟩ ⟨Nat.le_of_ble_eq_true rfl, Nat.le_of_ble_eq_true rfl⟩ rfl hl.1 rfl (Nat.le_of_ble_eq_true rfl) ⟨Nat.zero_le _, Nat.zero_le _⟩ dX9_lay_62) (fun r11 u H locs hq hw => ?_)
        obtain ⟨hu, h⟩ := hq
        rw [hu] at hw
        refine pC_X9_120_now E hw dX9_lay_65 (fun H locs hw => ?_)
        refine lv_iload_n hx hb dX9_lay_68 rfl (lv_at hl 0 rfl) ?_
        exact hret _ _ _ _ _ _ ⟨_, _, _, _, rfl, h⟩ hw dX9_lay_69
      · have h := h.2 c6
        refine lv_bipush (v := -3) hx hb dX9_lay_35 (by decide) ?_
        exact hret _ _ _ _ _ _ ⟨_, _, _, _, rfl, h⟩ hw dX9_lay_37
    · have h := h.2 c4
      refine lv_iconst (v := -1) hx hb dX9_lay_16 (by decide) ?_
      exact hret _ _ _ _ _ _ ⟨_, _, _, _, rfl, h⟩ hw dX9_lay_17
set_option maxRecDepth 100000 in
set_option maxHeartbeats 4000000 in
theorem c_X9_pins {l : Launch} {D : va_G} {cI cZ : ClassId} {ad : Nat → Nat} {f_keptSlots : Int32} {f_trace : Nat → Int32} {f_lastSeed : Int64} {f_text_letters : Nat → Int32} {f_text_length : Int32} {f_reader_place : Int32} {f_reader_greatestSource : Int32} {f_plan_chips : Int32} {f_plan_firstPins : Int32} {f_plan_firstPlaces : Int32} {f_plan_gates : Int32} {f_plan_inputs : Int32} {f_plan_registers : Int32} {f_plan_slowRegisters : Int32} {f_plan_kinds : Nat → Int32} {f_plan_firsts : Nat → Int32} {f_plan_seconds : Nat → Int32} {f_plan_clocks : Nat → Int32} {f_plan_sourceSets : Nat → Int32} {f_spare_chips : Int32} {f_spare_firstPins : Int32} {f_spare_firstPlaces : Int32} {f_spare_gates : Int32} {f_spare_inputs : Int32} {f_spare_registers : Int32} {f_spare_slowRegisters : Int32} {f_spare_kinds : Nat → Int32} {f_spare_firsts : Nat → Int32} {f_spare_seconds : Nat → Int32} {f_spare_clocks : Nat → Int32} {f_spare_sourceSets : Nat → Int32} {f_now_ones : Int32} {f_now_unknowns : Int32} {f_now_places : Int32} {f_now_pins : Int32} {f_now_count : Int32} {f_copy_ones : Int32} {f_copy_unknowns : Int32} {f_copy_places : Int32} {f_copy_pins : Int32} {f_copy_count : Int32} {f_logic_ones : Int32} {f_logic_unknowns : Int32} {f_logic_settled : Int32} {f_sched_available : Nat → Int32} {f_sched_wanted : Nat → Int32} {f_sched_coming : Nat → Int32} {f_sched_waiting : Int32} {f_sched_taken : Int32} {f_sched_sent : Int32} {f_sched_lastSent : Int32} {f_hist_next : Int32} {f_hist_held : Int32} {f_ring_cells : Nat → Int32} {f_kept_cells : Nat → Int32} {f_sight_steps : Nat → Int32} {f_sight_gates : Nat → Int32} {f_sight_values : Nat → Int32} {f_sight_truths : Nat → Int32} {f_sight_held : Int32} {X : va_W} {p1 : Int32} {Q : Int32 → Int32 → Int32 → (Nat → Int32) → Int32 → Prop} (h : wp_X9_pins f_hist_held f_hist_next f_ring_cells f_now_count f_now_ones f_now_pins f_now_places f_now_unknowns p1 Q) : CtI l yX9_pins cX9_pins 3 (some .int) ({ frames := 3, cells := 0, slots := 0, locals := 66 } : Room) D [(cI, .int), (cZ, .boolean)] [.ref (ad 33), .int p1] (wC ad cI cZ f_keptSlots f_trace f_lastSeed f_text_letters f_text_length f_reader_place f_reader_greatestSource f_plan_chips f_plan_firstPins f_plan_firstPlaces f_plan_gates f_plan_inputs f_plan_registers f_plan_slowRegisters f_plan_kinds f_plan_firsts f_plan_seconds f_plan_clocks f_plan_sourceSets f_spare_chips f_spare_firstPins f_spare_firstPlaces f_spare_gates f_spare_inputs f_spare_registers f_spare_slowRegisters f_spare_kinds f_spare_firsts f_spare_seconds f_spare_clocks f_spare_sourceSets f_now_ones f_now_unknowns f_now_places f_now_pins f_now_count f_copy_ones f_copy_unknowns f_copy_places f_copy_pins f_copy_count f_logic_ones f_logic_unknowns f_logic_settled f_sched_available f_sched_wanted f_sched_coming f_sched_waiting f_sched_taken f_sched_sent f_sched_lastSent f_hist_next f_hist_held f_ring_cells f_kept_cells f_sight_steps f_sight_gates f_sight_values f_sight_truths f_sight_held X) (fun r u => ∃ w0 w1 w2 w3, u = (wC ad cI cZ f_keptSlots f_trace f_lastSeed f_text_letters f_text_length f_reader_place f_reader_greatestSource f_plan_chips f_plan_firstPins f_plan_firstPlaces f_plan_gates f_plan_inputs f_plan_registers f_plan_slowRegisters f_plan_kinds f_plan_firsts f_plan_seconds f_plan_clocks f_plan_sourceSets f_spare_chips f_spare_firstPins f_spare_firstPlaces f_spare_gates f_spare_inputs f_spare_registers f_spare_slowRegisters f_spare_kinds f_spare_firsts f_spare_seconds f_spare_clocks f_spare_sourceSets f_now_ones f_now_unknowns f_now_places w3 f_now_count f_copy_ones f_copy_unknowns f_copy_places f_copy_pins f_copy_count f_logic_ones f_logic_unknowns f_logic_settled f_sched_available f_sched_wanted f_sched_coming f_sched_waiting f_sched_taken f_sched_sent f_sched_lastSent w1 w0 w2 f_kept_cells f_sight_steps f_sight_gates f_sight_values f_sight_truths f_sight_held X) ∧ Q r w0 w1 w2 w3) := by
  refine CtI.of (by decide) rfl (Nat.le_of_ble_eq_true rfl) ?_
  intro p e s m args below meth c A Z E hret ls hl hw
  have E : gE p m c cX9_pins 3 s args RX9 D [(cI, .int), (cZ, .boolean)] A := E
  have hx := E.1.1
  have hb := E.1.2.1
  have hl : lv_has ls 3 [(0, .ref (ad 33)), (1, .int p1)] := hl
  unfold wp_X9_pins at h
  refine lv_iload_n hx hb dX9_pins_0 rfl (lv_at hl 1 rfl) ?_
  refine g_aI E hw (g_rS E hw (c_X9_isPins h _) ym_X9_isPins k_377 ⟨rfl, rfl⟩ ⟨Nat.le_of_ble_eq_true rfl, Nat.le_of_ble_eq_true rfl⟩ rfl hl.1 rfl (Nat.le_of_ble_eq_true rfl) ⟨Nat.zero_le _, Nat.zero_le _⟩ dX9_pins_1) (fun r1 u H locs hq hw => ?_)
  obtain ⟨hu, h⟩ := hq
  rw [hu] at hw
  refine lv_if_ne (tgt := 10) hx hb dX9_pins_4 (by decide) (fun c2 => ?_) (fun c2 => ?_)
  · have h := h.1 c2
    refine lv_aload_n hx hb dX9_pins_10 rfl (lv_at hl 0 rfl) ?_
    refine gC_X9_60_main E hw dX9_pins_11 ?_
    refine lv_aload_n hx hb dX9_pins_14 rfl (lv_at hl 0 rfl) ?_
    refine gC_X9_36_main E hw dX9_pins_15 ?_
    refine g_aV E hw (g_rV E hw (c_X0_remember_now h _) ym_X0_remember k_335 ⟨rfl, rfl⟩ ⟨Nat.le_of_ble_eq_true rfl, Nat.le_of_ble_eq_true rfl⟩ 10 rfl rfl rfl rfl hl.1 rfl (Nat.le_of_ble_eq_true rfl) ⟨Nat.zero_le _, Nat.zero_le _⟩ dX9_pins_18) (fun u H locs hq hw => ?_)
    obtain ⟨y4, y5, y6, hu, h⟩ := hq
    rw [hu] at hw
    refine lv_aload_n hx hb dX9_pins_21 rfl (lv_at hl 0 rfl) ?_
    refine gC_X9_36_main E hw dX9_pins_22 ?_
    refine gC_X9_180_now E hw dX9_pins_25 ?_
    refine lv_istore_n (lv' := [(2, .int f_now_pins), (0, .ref (ad 33)), (1, .int p1)]) hx hb dX9_pins_28 rfl hl (by decide) rfl (fun ls hl => ?_)
    refine lv_aload_n hx hb dX9_pins_29 rfl (lv_at hl 1 rfl) ?_
    refine gC_X9_36_main E hw dX9_pins_30 ?_
    refine lv_iload_n hx hb dX9_pins_33 rfl (lv_at hl 2 rfl) ?_
    refine pC_X9_180_now E hw dX9_pins_34 (fun H locs hw => ?_)
    refine lv_iload_n hx hb dX9_pins_37 rfl (lv_at hl 0 rfl) ?_
    exact hret _ _ _ _ _ _ ⟨_, _, _, _, rfl, h⟩ hw dX9_pins_38
  · have h := h.2 c2
    refine lv_bipush (v := -2) hx hb dX9_pins_7 (by decide) ?_
    exact hret _ _ _ _ _ _ ⟨_, _, _, _, rfl, h⟩ hw dX9_pins_9
set_option maxRecDepth 100000 in
set_option maxHeartbeats 4000000 in
theorem c_X9_undo {l : Launch} {D : va_G} {cI cZ : ClassId} {ad : Nat → Nat} {f_keptSlots : Int32} {f_trace : Nat → Int32} {f_lastSeed : Int64} {f_text_letters : Nat → Int32} {f_text_length : Int32} {f_reader_place : Int32} {f_reader_greatestSource : Int32} {f_plan_chips : Int32} {f_plan_firstPins : Int32} {f_plan_firstPlaces : Int32} {f_plan_gates : Int32} {f_plan_inputs : Int32} {f_plan_registers : Int32} {f_plan_slowRegisters : Int32} {f_plan_kinds : Nat → Int32} {f_plan_firsts : Nat → Int32} {f_plan_seconds : Nat → Int32} {f_plan_clocks : Nat → Int32} {f_plan_sourceSets : Nat → Int32} {f_spare_chips : Int32} {f_spare_firstPins : Int32} {f_spare_firstPlaces : Int32} {f_spare_gates : Int32} {f_spare_inputs : Int32} {f_spare_registers : Int32} {f_spare_slowRegisters : Int32} {f_spare_kinds : Nat → Int32} {f_spare_firsts : Nat → Int32} {f_spare_seconds : Nat → Int32} {f_spare_clocks : Nat → Int32} {f_spare_sourceSets : Nat → Int32} {f_now_ones : Int32} {f_now_unknowns : Int32} {f_now_places : Int32} {f_now_pins : Int32} {f_now_count : Int32} {f_copy_ones : Int32} {f_copy_unknowns : Int32} {f_copy_places : Int32} {f_copy_pins : Int32} {f_copy_count : Int32} {f_logic_ones : Int32} {f_logic_unknowns : Int32} {f_logic_settled : Int32} {f_sched_available : Nat → Int32} {f_sched_wanted : Nat → Int32} {f_sched_coming : Nat → Int32} {f_sched_waiting : Int32} {f_sched_taken : Int32} {f_sched_sent : Int32} {f_sched_lastSent : Int32} {f_hist_next : Int32} {f_hist_held : Int32} {f_ring_cells : Nat → Int32} {f_kept_cells : Nat → Int32} {f_sight_steps : Nat → Int32} {f_sight_gates : Nat → Int32} {f_sight_values : Nat → Int32} {f_sight_truths : Nat → Int32} {f_sight_held : Int32} {X : va_W} {Q : Int32 → Int32 → Int32 → Int32 → Int32 → Int32 → Int32 → Int32 → Prop} (h : wp_X9_undo f_hist_held f_hist_next f_ring_cells f_now_count f_now_ones f_now_pins f_now_places f_now_unknowns Q) : CtI l yX9_undo cX9_undo 1 (some .int) ({ frames := 3, cells := 0, slots := 0, locals := 65 } : Room) D [(cI, .int), (cZ, .boolean)] [.ref (ad 33)] (wC ad cI cZ f_keptSlots f_trace f_lastSeed f_text_letters f_text_length f_reader_place f_reader_greatestSource f_plan_chips f_plan_firstPins f_plan_firstPlaces f_plan_gates f_plan_inputs f_plan_registers f_plan_slowRegisters f_plan_kinds f_plan_firsts f_plan_seconds f_plan_clocks f_plan_sourceSets f_spare_chips f_spare_firstPins f_spare_firstPlaces f_spare_gates f_spare_inputs f_spare_registers f_spare_slowRegisters f_spare_kinds f_spare_firsts f_spare_seconds f_spare_clocks f_spare_sourceSets f_now_ones f_now_unknowns f_now_places f_now_pins f_now_count f_copy_ones f_copy_unknowns f_copy_places f_copy_pins f_copy_count f_logic_ones f_logic_unknowns f_logic_settled f_sched_available f_sched_wanted f_sched_coming f_sched_waiting f_sched_taken f_sched_sent f_sched_lastSent f_hist_next f_hist_held f_ring_cells f_kept_cells f_sight_steps f_sight_gates f_sight_values f_sight_truths f_sight_held X) (fun r u => ∃ w0 w1 w2 w3 w4 w5 w6, u = (wC ad cI cZ f_keptSlots f_trace f_lastSeed f_text_letters f_text_length f_reader_place f_reader_greatestSource f_plan_chips f_plan_firstPins f_plan_firstPlaces f_plan_gates f_plan_inputs f_plan_registers f_plan_slowRegisters f_plan_kinds f_plan_firsts f_plan_seconds f_plan_clocks f_plan_sourceSets f_spare_chips f_spare_firstPins f_spare_firstPlaces f_spare_gates f_spare_inputs f_spare_registers f_spare_slowRegisters f_spare_kinds f_spare_firsts f_spare_seconds f_spare_clocks f_spare_sourceSets w3 w6 w5 w4 w2 f_copy_ones f_copy_unknowns f_copy_places f_copy_pins f_copy_count f_logic_ones f_logic_unknowns f_logic_settled f_sched_available f_sched_wanted f_sched_coming f_sched_waiting f_sched_taken f_sched_sent f_sched_lastSent w1 w0 f_ring_cells f_kept_cells f_sight_steps f_sight_gates f_sight_values f_sight_truths f_sight_held X) ∧ Q r w0 w1 w2 w3 w4 w5 w6) := by
  refine CtI.of (by decide) rfl (Nat.le_of_ble_eq_true rfl) ?_
  intro p e s m args below meth c A Z E hret ls hl hw
  have E : gE p m c cX9_undo 1 s args RX9 D [(cI, .int), (cZ, .boolean)] A := E
  have hx := E.1.1
  have hb := E.1.2.1
  have hl : lv_has ls 1 [(0, .ref (ad 33))] := hl
  unfold wp_X9_undo at h
  refine lv_aload_n hx hb dX9_undo_0 rfl (lv_at hl 0 rfl) ?_
  refine gC_X9_60_main E hw dX9_undo_1 ?_
  refine gC_X9_183_hist E hw dX9_undo_4 ?_
  refine lv_if_ne (tgt := 13) hx hb dX9_undo_7 (by decide) (fun c1 => ?_) (fun c1 => ?_)
  · have h := h.1 c1
    refine lv_aload_n hx hb dX9_undo_13 rfl (lv_at hl 0 rfl) ?_
    refine gC_X9_60_main E hw dX9_undo_14 ?_
    refine lv_aload_n hx hb dX9_undo_17 rfl (lv_at hl 0 rfl) ?_
    refine gC_X9_36_main E hw dX9_undo_18 ?_
    refine g_aV E hw (g_rV E hw (c_X0_recall_now h _) ym_X0_recall k_382 ⟨rfl, rfl⟩ ⟨Nat.le_of_ble_eq_true rfl, Nat.le_of_ble_eq_true rfl⟩ 10 rfl rfl rfl rfl hl.1 rfl (Nat.le_of_ble_eq_true rfl) ⟨Nat.zero_le _, Nat.zero_le _⟩ dX9_undo_21) (fun u H locs hq hw => ?_)
    obtain ⟨y3, y4, y5, y6, y7, y8, y9, hu, h⟩ := hq
    rw [hu] at hw
    refine lv_aload_n hx hb dX9_undo_24 rfl (lv_at hl 0 rfl) ?_
    refine gC_X9_60_main E hw dX9_undo_25 ?_
    refine gC_X9_183_hist E hw dX9_undo_28 ?_
    exact hret _ _ _ _ _ _ ⟨_, _, _, _, _, _, _, rfl, h⟩ hw dX9_undo_31
  · have h := h.2 c1
    refine lv_bipush (v := -3) hx hb dX9_undo_10 (by decide) ?_
    exact hret _ _ _ _ _ _ ⟨_, _, _, _, _, _, _, rfl, h⟩ hw dX9_undo_12
set_option maxRecDepth 100000 in
set_option maxHeartbeats 4000000 in
theorem c_X9_makeSteps_copy {l : Launch} {D : va_G} {cI cZ : ClassId} {ad : Nat → Nat} {f_keptSlots : Int32} {f_trace : Nat → Int32} {f_lastSeed : Int64} {f_text_letters : Nat → Int32} {f_text_length : Int32} {f_reader_place : Int32} {f_reader_greatestSource : Int32} {f_plan_chips : Int32} {f_plan_firstPins : Int32} {f_plan_firstPlaces : Int32} {f_plan_gates : Int32} {f_plan_inputs : Int32} {f_plan_registers : Int32} {f_plan_slowRegisters : Int32} {f_plan_kinds : Nat → Int32} {f_plan_firsts : Nat → Int32} {f_plan_seconds : Nat → Int32} {f_plan_clocks : Nat → Int32} {f_plan_sourceSets : Nat → Int32} {f_spare_chips : Int32} {f_spare_firstPins : Int32} {f_spare_firstPlaces : Int32} {f_spare_gates : Int32} {f_spare_inputs : Int32} {f_spare_registers : Int32} {f_spare_slowRegisters : Int32} {f_spare_kinds : Nat → Int32} {f_spare_firsts : Nat → Int32} {f_spare_seconds : Nat → Int32} {f_spare_clocks : Nat → Int32} {f_spare_sourceSets : Nat → Int32} {f_now_ones : Int32} {f_now_unknowns : Int32} {f_now_places : Int32} {f_now_pins : Int32} {f_now_count : Int32} {f_copy_ones : Int32} {f_copy_unknowns : Int32} {f_copy_places : Int32} {f_copy_pins : Int32} {f_copy_count : Int32} {f_logic_ones : Int32} {f_logic_unknowns : Int32} {f_logic_settled : Int32} {f_sched_available : Nat → Int32} {f_sched_wanted : Nat → Int32} {f_sched_coming : Nat → Int32} {f_sched_waiting : Int32} {f_sched_taken : Int32} {f_sched_sent : Int32} {f_sched_lastSent : Int32} {f_hist_next : Int32} {f_hist_held : Int32} {f_ring_cells : Nat → Int32} {f_kept_cells : Nat → Int32} {f_sight_steps : Nat → Int32} {f_sight_gates : Nat → Int32} {f_sight_values : Nat → Int32} {f_sight_truths : Nat → Int32} {f_sight_held : Int32} {X : va_W} {p2 : Int32} {Q : Int32 → Int32 → Int32 → Int32 → Int32 → Int32 → Prop} (h : wp_X9_makeSteps f_logic_ones f_logic_settled f_logic_unknowns f_plan_firsts f_plan_gates f_plan_inputs f_plan_kinds f_plan_registers f_plan_seconds f_plan_slowRegisters f_plan_sourceSets f_copy_count f_copy_ones f_copy_unknowns p2 Q) : CtV l yX9_makeSteps cX9_makeSteps 4 none ({ frames := 4, cells := 0, slots := 0, locals := 91 } : Room) D [(cI, .int), (cZ, .boolean)] [.ref (ad 33), .ref (ad 16), .int p2] (wC ad cI cZ f_keptSlots f_trace f_lastSeed f_text_letters f_text_length f_reader_place f_reader_greatestSource f_plan_chips f_plan_firstPins f_plan_firstPlaces f_plan_gates f_plan_inputs f_plan_registers f_plan_slowRegisters f_plan_kinds f_plan_firsts f_plan_seconds f_plan_clocks f_plan_sourceSets f_spare_chips f_spare_firstPins f_spare_firstPlaces f_spare_gates f_spare_inputs f_spare_registers f_spare_slowRegisters f_spare_kinds f_spare_firsts f_spare_seconds f_spare_clocks f_spare_sourceSets f_now_ones f_now_unknowns f_now_places f_now_pins f_now_count f_copy_ones f_copy_unknowns f_copy_places f_copy_pins f_copy_count f_logic_ones f_logic_unknowns f_logic_settled f_sched_available f_sched_wanted f_sched_coming f_sched_waiting f_sched_taken f_sched_sent f_sched_lastSent f_hist_next f_hist_held f_ring_cells f_kept_cells f_sight_steps f_sight_gates f_sight_values f_sight_truths f_sight_held X) (fun  u => ∃ w0 w1 w2 w3 w4 w5, u = (wC ad cI cZ f_keptSlots f_trace f_lastSeed f_text_letters f_text_length f_reader_place f_reader_greatestSource f_plan_chips f_plan_firstPins f_plan_firstPlaces f_plan_gates f_plan_inputs f_plan_registers f_plan_slowRegisters f_plan_kinds f_plan_firsts f_plan_seconds f_plan_clocks f_plan_sourceSets f_spare_chips f_spare_firstPins f_spare_firstPlaces f_spare_gates f_spare_inputs f_spare_registers f_spare_slowRegisters f_spare_kinds f_spare_firsts f_spare_seconds f_spare_clocks f_spare_sourceSets f_now_ones f_now_unknowns f_now_places f_now_pins f_now_count w4 w5 f_copy_places f_copy_pins w3 w0 w2 w1 f_sched_available f_sched_wanted f_sched_coming f_sched_waiting f_sched_taken f_sched_sent f_sched_lastSent f_hist_next f_hist_held f_ring_cells f_kept_cells f_sight_steps f_sight_gates f_sight_values f_sight_truths f_sight_held X) ∧ Q w0 w1 w2 w3 w4 w5) := by
  refine CtV.of (by decide) rfl (Nat.le_of_ble_eq_true rfl) ?_
  intro p e s m args below meth c A Z E hret ls hl hw
  have E : gE p m c cX9_makeSteps 4 s args RX9 D [(cI, .int), (cZ, .boolean)] A := E
  have hx := E.1.1
  have hb := E.1.2.1
  have hl : lv_has ls 4 [(0, .ref (ad 33)), (1, .ref (ad 16)), (2, .int p2)] := hl
  have L2 : ∀ (n : Nat) (x3 : Int32) (f_logic_ones : Int32) (f_logic_settled : Int32) (f_logic_unknowns : Int32) (f_copy_count : Int32) (f_copy_ones : Int32) (f_copy_unknowns : Int32) (H : Heap) (locs : List Loc) (ls : Array Slot), wp_X9_makeSteps_h2 f_plan_firsts f_plan_gates f_plan_inputs f_plan_kinds f_plan_registers f_plan_seconds f_plan_slowRegisters f_plan_sourceSets p2 Q  n x3 f_logic_ones f_logic_settled f_logic_unknowns f_copy_count f_copy_ones f_copy_unknowns → gW D s A (wC ad cI cZ f_keptSlots f_trace f_lastSeed f_text_letters f_text_length f_reader_place f_reader_greatestSource f_plan_chips f_plan_firstPins f_plan_firstPlaces f_plan_gates f_plan_inputs f_plan_registers f_plan_slowRegisters f_plan_kinds f_plan_firsts f_plan_seconds f_plan_clocks f_plan_sourceSets f_spare_chips f_spare_firstPins f_spare_firstPlaces f_spare_gates f_spare_inputs f_spare_registers f_spare_slowRegisters f_spare_kinds f_spare_firsts f_spare_seconds f_spare_clocks f_spare_sourceSets f_now_ones f_now_unknowns f_now_places f_now_pins f_now_count f_copy_ones f_copy_unknowns f_copy_places f_copy_pins f_copy_count f_logic_ones f_logic_unknowns f_logic_settled f_sched_available f_sched_wanted f_sched_coming f_sched_waiting f_sched_taken f_sched_sent f_sched_lastSent f_hist_next f_hist_held f_ring_cells f_kept_cells f_sight_steps f_sight_gates f_sight_values f_sight_truths f_sight_held X) H locs → lv_has ls 4 [(0, .ref (ad 33)), (1, .ref (ad 16)), (2, .int p2), (3, .int x3)] → W p l e ({ frames := 4, cells := 0, slots := 0, locals := 91 } : Room) s m args below meth c H locs 0 0 Z (F0 m 2 ls []) := by
    intro n
    induction n with
    | zero => intro x3 f_logic_ones f_logic_settled f_logic_unknowns f_copy_count f_copy_ones f_copy_unknowns H locs ls h; exact False.elim h
    | succ n2 ih2 =>
      intro x3 f_logic_ones f_logic_settled f_logic_unknowns f_copy_count f_copy_ones f_copy_unknowns H locs ls h hw hl
      have h : wp_X9_makeSteps_b2 f_plan_firsts f_plan_gates f_plan_inputs f_plan_kinds f_plan_registers f_plan_seconds f_plan_slowRegisters f_plan_sourceSets p2 Q (wp_X9_makeSteps_h2 f_plan_firsts f_plan_gates f_plan_inputs f_plan_kinds f_plan_registers f_plan_seconds f_plan_slowRegisters f_plan_sourceSets p2 Q  n2) x3 f_logic_ones f_logic_settled f_logic_unknowns f_copy_count f_copy_ones f_copy_unknowns := h
      unfold wp_X9_makeSteps_b2 at h
      refine lv_iload_n hx hb dX9_makeSteps_2 rfl (lv_at hl 3 rfl) ?_
      refine lv_iload_n hx hb dX9_makeSteps_3 rfl (lv_at hl 2 rfl) ?_
      refine lv_icmp_ge (tgt := 39) hx hb dX9_makeSteps_4 (by decide) (fun c1 => ?_) (fun c1 => ?_)
      · have h := h.1 c1
        exact hret _ _ _ _ _ ⟨_, _, _, _, _, _, rfl, h⟩ hw dX9_makeSteps_39
      · have h := h.2 c1
        refine lv_aload_n hx hb dX9_makeSteps_7 rfl (lv_at hl 0 rfl) ?_
        refine gC_X9_46_main E hw dX9_makeSteps_8 ?_
        refine lv_aload_n hx hb dX9_makeSteps_11 rfl (lv_at hl 0 rfl) ?_
        refine gC_X9_26_main E hw dX9_makeSteps_12 ?_
        refine lv_aload_n hx hb dX9_makeSteps_15 rfl (lv_at hl 1 rfl) ?_
        refine lv_bipush (v := -9) hx hb dX9_makeSteps_16 (by decide) ?_
        refine g_aV E hw (g_rV E hw (c_X1_compute_plan_copy h _) ym_X1_compute k_298 ⟨rfl, rfl⟩ ⟨Nat.le_of_ble_eq_true rfl, Nat.le_of_ble_eq_true rfl⟩ 15 rfl rfl rfl rfl hl.1 rfl (Nat.le_of_ble_eq_true rfl) ⟨Nat.zero_le _, Nat.zero_le _⟩ dX9_makeSteps_18) (fun u H locs hq hw => ?_)
        obtain ⟨y3, y4, y5, hu, h⟩ := hq
        rw [hu] at hw
        refine lv_aload_n hx hb dX9_makeSteps_21 rfl (lv_at hl 0 rfl) ?_
        refine gC_X9_46_main E hw dX9_makeSteps_22 ?_
        refine lv_aload_n hx hb dX9_makeSteps_25 rfl (lv_at hl 0 rfl) ?_
        refine gC_X9_26_main E hw dX9_makeSteps_26 ?_
        refine lv_aload_n hx hb dX9_makeSteps_29 rfl (lv_at hl 1 rfl) ?_
        refine g_aV E hw (g_rV E hw (c_X1_tick_plan_copy h _) ym_X1_tick k_349 ⟨rfl, rfl⟩ ⟨Nat.le_of_ble_eq_true rfl, Nat.le_of_ble_eq_true rfl⟩ 15 rfl rfl rfl rfl hl.1 rfl (Nat.le_of_ble_eq_true rfl) ⟨Nat.zero_le _, Nat.zero_le _⟩ dX9_makeSteps_30) (fun u H locs hq hw => ?_)
        obtain ⟨y7, y8, y9, hu, h⟩ := hq
        rw [hu] at hw
        obtain ⟨v10, ev10⟩ : ∃ y : Int32, y = x3 + 1 := ⟨_, rfl⟩
        have h := h v10 ev10
        refine lv_iinc (v := v10) (lv' := [(3, .int v10), (0, .ref (ad 33)), (1, .ref (ad 16)), (2, .int p2)]) hx hb dX9_makeSteps_33 hl (k := 3) rfl (by rw [ev10]; rfl) (by decide) rfl (fun ls hl => ?_)
        refine lv_goto (tgt := 2) hx hb dX9_makeSteps_36 (by decide) ?_
        exact ih2 v10 y3 y4 y5 y7 y8 y9 _ _ _ h hw (lv_sub hl [1, 2, 3, 0] rfl)
  unfold wp_X9_makeSteps at h
  refine lv_iconst (v := 0) hx hb dX9_makeSteps_0 (by decide) ?_
  refine lv_istore_n (lv' := [(3, .int (0 : Int32)), (0, .ref (ad 33)), (1, .ref (ad 16)), (2, .int p2)]) hx hb dX9_makeSteps_1 rfl hl (by decide) rfl (fun ls hl => ?_)
  obtain ⟨n, h⟩ := h
  exact L2 n (0 : Int32) f_logic_ones f_logic_settled f_logic_unknowns f_copy_count f_copy_ones f_copy_unknowns _ _ _ h hw (lv_sub hl [1, 2, 3, 0] rfl)
set_option maxRecDepth 100000 in
set_option maxHeartbeats 4000000 in
theorem c_X9_valueNow_copy {l : Launch} {D : va_G} {cI cZ : ClassId} {ad : Nat → Nat} {f_keptSlots : Int32} {f_trace : Nat → Int32} {f_lastSeed : Int64} {f_text_letters : Nat → Int32} {f_text_length : Int32} {f_reader_place : Int32} {f_reader_greatestSource : Int32} {f_plan_chips : Int32} {f_plan_firstPins : Int32} {f_plan_firstPlaces : Int32} {f_plan_gates : Int32} {f_plan_inputs : Int32} {f_plan_registers : Int32} {f_plan_slowRegisters : Int32} {f_plan_kinds : Nat → Int32} {f_plan_firsts : Nat → Int32} {f_plan_seconds : Nat → Int32} {f_plan_clocks : Nat → Int32} {f_plan_sourceSets : Nat → Int32} {f_spare_chips : Int32} {f_spare_firstPins : Int32} {f_spare_firstPlaces : Int32} {f_spare_gates : Int32} {f_spare_inputs : Int32} {f_spare_registers : Int32} {f_spare_slowRegisters : Int32} {f_spare_kinds : Nat → Int32} {f_spare_firsts : Nat → Int32} {f_spare_seconds : Nat → Int32} {f_spare_clocks : Nat → Int32} {f_spare_sourceSets : Nat → Int32} {f_now_ones : Int32} {f_now_unknowns : Int32} {f_now_places : Int32} {f_now_pins : Int32} {f_now_count : Int32} {f_copy_ones : Int32} {f_copy_unknowns : Int32} {f_copy_places : Int32} {f_copy_pins : Int32} {f_copy_count : Int32} {f_logic_ones : Int32} {f_logic_unknowns : Int32} {f_logic_settled : Int32} {f_sched_available : Nat → Int32} {f_sched_wanted : Nat → Int32} {f_sched_coming : Nat → Int32} {f_sched_waiting : Int32} {f_sched_taken : Int32} {f_sched_sent : Int32} {f_sched_lastSent : Int32} {f_hist_next : Int32} {f_hist_held : Int32} {f_ring_cells : Nat → Int32} {f_kept_cells : Nat → Int32} {f_sight_steps : Nat → Int32} {f_sight_gates : Nat → Int32} {f_sight_values : Nat → Int32} {f_sight_truths : Nat → Int32} {f_sight_held : Int32} {X : va_W} {p2 : Int32} {Q : Int32 → Int32 → Int32 → Int32 → Prop} (h : wp_X9_valueNow f_logic_ones f_logic_settled f_logic_unknowns f_plan_firsts f_plan_gates f_plan_inputs f_plan_kinds f_plan_registers f_plan_seconds f_plan_sourceSets f_copy_ones f_copy_unknowns p2 Q) : CtI l yX9_valueNow cX9_valueNow 3 (some .int) ({ frames := 4, cells := 0, slots := 0, locals := 91 } : Room) D [(cI, .int), (cZ, .boolean)] [.ref (ad 33), .ref (ad 16), .int p2] (wC ad cI cZ f_keptSlots f_trace f_lastSeed f_text_letters f_text_length f_reader_place f_reader_greatestSource f_plan_chips f_plan_firstPins f_plan_firstPlaces f_plan_gates f_plan_inputs f_plan_registers f_plan_slowRegisters f_plan_kinds f_plan_firsts f_plan_seconds f_plan_clocks f_plan_sourceSets f_spare_chips f_spare_firstPins f_spare_firstPlaces f_spare_gates f_spare_inputs f_spare_registers f_spare_slowRegisters f_spare_kinds f_spare_firsts f_spare_seconds f_spare_clocks f_spare_sourceSets f_now_ones f_now_unknowns f_now_places f_now_pins f_now_count f_copy_ones f_copy_unknowns f_copy_places f_copy_pins f_copy_count f_logic_ones f_logic_unknowns f_logic_settled f_sched_available f_sched_wanted f_sched_coming f_sched_waiting f_sched_taken f_sched_sent f_sched_lastSent f_hist_next f_hist_held f_ring_cells f_kept_cells f_sight_steps f_sight_gates f_sight_values f_sight_truths f_sight_held X) (fun r u => ∃ w0 w1 w2, u = (wC ad cI cZ f_keptSlots f_trace f_lastSeed f_text_letters f_text_length f_reader_place f_reader_greatestSource f_plan_chips f_plan_firstPins f_plan_firstPlaces f_plan_gates f_plan_inputs f_plan_registers f_plan_slowRegisters f_plan_kinds f_plan_firsts f_plan_seconds f_plan_clocks f_plan_sourceSets f_spare_chips f_spare_firstPins f_spare_firstPlaces f_spare_gates f_spare_inputs f_spare_registers f_spare_slowRegisters f_spare_kinds f_spare_firsts f_spare_seconds f_spare_clocks f_spare_sourceSets f_now_ones f_now_unknowns f_now_places f_now_pins f_now_count f_copy_ones f_copy_unknowns f_copy_places f_copy_pins f_copy_count w0 w2 w1 f_sched_available f_sched_wanted f_sched_coming f_sched_waiting f_sched_taken f_sched_sent f_sched_lastSent f_hist_next f_hist_held f_ring_cells f_kept_cells f_sight_steps f_sight_gates f_sight_values f_sight_truths f_sight_held X) ∧ Q r w0 w1 w2) := by
  refine CtI.of (by decide) rfl (Nat.le_of_ble_eq_true rfl) ?_
  intro p e s m args below meth c A Z E hret ls hl hw
  have E : gE p m c cX9_valueNow 3 s args RX9 D [(cI, .int), (cZ, .boolean)] A := E
  have hx := E.1.1
  have hb := E.1.2.1
  have hl : lv_has ls 3 [(0, .ref (ad 33)), (1, .ref (ad 16)), (2, .int p2)] := hl
  unfold wp_X9_valueNow at h
  refine lv_aload_n hx hb dX9_valueNow_0 rfl (lv_at hl 0 rfl) ?_
  refine gC_X9_46_main E hw dX9_valueNow_1 ?_
  refine lv_aload_n hx hb dX9_valueNow_4 rfl (lv_at hl 0 rfl) ?_
  refine gC_X9_26_main E hw dX9_valueNow_5 ?_
  refine lv_aload_n hx hb dX9_valueNow_8 rfl (lv_at hl 1 rfl) ?_
  refine lv_bipush (v := -9) hx hb dX9_valueNow_9 (by decide) ?_
  refine g_aV E hw (g_rV E hw (c_X1_compute_plan_copy h _) ym_X1_compute k_298 ⟨rfl, rfl⟩ ⟨Nat.le_of_ble_eq_true rfl, Nat.le_of_ble_eq_true rfl⟩ 15 rfl rfl rfl rfl hl.1 rfl (Nat.le_of_ble_eq_true rfl) ⟨Nat.zero_le _, Nat.zero_le _⟩ dX9_valueNow_11) (fun u H locs hq hw => ?_)
  obtain ⟨y2, y3, y4, hu, h⟩ := hq
  rw [hu] at hw
  refine lv_aload_n hx hb dX9_valueNow_14 rfl (lv_at hl 0 rfl) ?_
  refine gC_X9_46_main E hw dX9_valueNow_15 ?_
  refine gC_X9_290_logic E hw dX9_valueNow_18 ?_
  refine lv_aload_n hx hb dX9_valueNow_21 rfl (lv_at hl 0 rfl) ?_
  refine gC_X9_46_main E hw dX9_valueNow_22 ?_
  refine gC_X9_291_logic E hw dX9_valueNow_25 ?_
  refine lv_iload_n hx hb dX9_valueNow_28 rfl (lv_at hl 2 rfl) ?_
  refine g_aI E hw (g_rS E hw (c_X9_valueIn h _) ym_X9_valueIn k_326 ⟨rfl, rfl⟩ ⟨Nat.le_of_ble_eq_true rfl, Nat.le_of_ble_eq_true rfl⟩ rfl hl.1 rfl (Nat.le_of_ble_eq_true rfl) ⟨Nat.zero_le _, Nat.zero_le _⟩ dX9_valueNow_29) (fun r5 u H locs hq hw => ?_)
  obtain ⟨hu, h⟩ := hq
  rw [hu] at hw
  exact hret _ _ _ _ _ _ ⟨_, _, _, rfl, h⟩ hw dX9_valueNow_32
set_option maxRecDepth 100000 in
set_option maxHeartbeats 4000000 in
theorem c_X9_ahead {l : Launch} {D : va_G} {cI cZ : ClassId} {ad : Nat → Nat} {f_keptSlots : Int32} {f_trace : Nat → Int32} {f_lastSeed : Int64} {f_text_letters : Nat → Int32} {f_text_length : Int32} {f_reader_place : Int32} {f_reader_greatestSource : Int32} {f_plan_chips : Int32} {f_plan_firstPins : Int32} {f_plan_firstPlaces : Int32} {f_plan_gates : Int32} {f_plan_inputs : Int32} {f_plan_registers : Int32} {f_plan_slowRegisters : Int32} {f_plan_kinds : Nat → Int32} {f_plan_firsts : Nat → Int32} {f_plan_seconds : Nat → Int32} {f_plan_clocks : Nat → Int32} {f_plan_sourceSets : Nat → Int32} {f_spare_chips : Int32} {f_spare_firstPins : Int32} {f_spare_firstPlaces : Int32} {f_spare_gates : Int32} {f_spare_inputs : Int32} {f_spare_registers : Int32} {f_spare_slowRegisters : Int32} {f_spare_kinds : Nat → Int32} {f_spare_firsts : Nat → Int32} {f_spare_seconds : Nat → Int32} {f_spare_clocks : Nat → Int32} {f_spare_sourceSets : Nat → Int32} {f_now_ones : Int32} {f_now_unknowns : Int32} {f_now_places : Int32} {f_now_pins : Int32} {f_now_count : Int32} {f_copy_ones : Int32} {f_copy_unknowns : Int32} {f_copy_places : Int32} {f_copy_pins : Int32} {f_copy_count : Int32} {f_logic_ones : Int32} {f_logic_unknowns : Int32} {f_logic_settled : Int32} {f_sched_available : Nat → Int32} {f_sched_wanted : Nat → Int32} {f_sched_coming : Nat → Int32} {f_sched_waiting : Int32} {f_sched_taken : Int32} {f_sched_sent : Int32} {f_sched_lastSent : Int32} {f_hist_next : Int32} {f_hist_held : Int32} {f_ring_cells : Nat → Int32} {f_kept_cells : Nat → Int32} {f_sight_steps : Nat → Int32} {f_sight_gates : Nat → Int32} {f_sight_values : Nat → Int32} {f_sight_truths : Nat → Int32} {f_sight_held : Int32} {X : va_W} {p1 : Int32} {p2 : Int32} {Q : Int32 → Int32 → Int32 → Int32 → Int32 → Int32 → Int32 → Int32 → Int32 → Prop} (h : wp_X9_ahead f_copy_count f_copy_ones f_copy_pins f_copy_places f_copy_unknowns f_logic_ones f_logic_settled f_logic_unknowns f_now_count f_now_ones f_now_pins f_now_places f_now_unknowns f_plan_firsts f_plan_gates f_plan_inputs f_plan_kinds f_plan_registers f_plan_seconds f_plan_slowRegisters f_plan_sourceSets p1 p2 Q) : CtI l yX9_ahead cX9_ahead 3 (some .int) ({ frames := 5, cells := 0, slots := 0, locals := 114 } : Room) D [(cI, .int), (cZ, .boolean)] [.ref (ad 33), .int p1, .int p2] (wC ad cI cZ f_keptSlots f_trace f_lastSeed f_text_letters f_text_length f_reader_place f_reader_greatestSource f_plan_chips f_plan_firstPins f_plan_firstPlaces f_plan_gates f_plan_inputs f_plan_registers f_plan_slowRegisters f_plan_kinds f_plan_firsts f_plan_seconds f_plan_clocks f_plan_sourceSets f_spare_chips f_spare_firstPins f_spare_firstPlaces f_spare_gates f_spare_inputs f_spare_registers f_spare_slowRegisters f_spare_kinds f_spare_firsts f_spare_seconds f_spare_clocks f_spare_sourceSets f_now_ones f_now_unknowns f_now_places f_now_pins f_now_count f_copy_ones f_copy_unknowns f_copy_places f_copy_pins f_copy_count f_logic_ones f_logic_unknowns f_logic_settled f_sched_available f_sched_wanted f_sched_coming f_sched_waiting f_sched_taken f_sched_sent f_sched_lastSent f_hist_next f_hist_held f_ring_cells f_kept_cells f_sight_steps f_sight_gates f_sight_values f_sight_truths f_sight_held X) (fun r u => ∃ w0 w1 w2 w3 w4 w5 w6 w7, u = (wC ad cI cZ f_keptSlots f_trace f_lastSeed f_text_letters f_text_length f_reader_place f_reader_greatestSource f_plan_chips f_plan_firstPins f_plan_firstPlaces f_plan_gates f_plan_inputs f_plan_registers f_plan_slowRegisters f_plan_kinds f_plan_firsts f_plan_seconds f_plan_clocks f_plan_sourceSets f_spare_chips f_spare_firstPins f_spare_firstPlaces f_spare_gates f_spare_inputs f_spare_registers f_spare_slowRegisters f_spare_kinds f_spare_firsts f_spare_seconds f_spare_clocks f_spare_sourceSets f_now_ones f_now_unknowns f_now_places f_now_pins f_now_count w1 w4 w3 w2 w0 w5 w7 w6 f_sched_available f_sched_wanted f_sched_coming f_sched_waiting f_sched_taken f_sched_sent f_sched_lastSent f_hist_next f_hist_held f_ring_cells f_kept_cells f_sight_steps f_sight_gates f_sight_values f_sight_truths f_sight_held X) ∧ Q r w0 w1 w2 w3 w4 w5 w6 w7) := by
  refine CtI.of (by decide) rfl (Nat.le_of_ble_eq_true rfl) ?_
  intro p e s m args below meth c A Z E hret ls hl hw
  have E : gE p m c cX9_ahead 3 s args RX9 D [(cI, .int), (cZ, .boolean)] A := E
  have hx := E.1.1
  have hb := E.1.2.1
  have hl : lv_has ls 3 [(0, .ref (ad 33)), (1, .int p1), (2, .int p2)] := hl
  unfold wp_X9_ahead at h
  refine lv_iload_n hx hb dX9_ahead_0 rfl (lv_at hl 1 rfl) ?_
  refine lv_if_lt (tgt := 10) hx hb dX9_ahead_1 (by decide) (fun c1 => ?_) (fun c1 => ?_)
  · have h := h.1 c1
    refine lv_bipush (v := -2) hx hb dX9_ahead_10 (by decide) ?_
    exact hret _ _ _ _ _ _ ⟨_, _, _, _, _, _, _, _, rfl, h⟩ hw dX9_ahead_12
  · have h := h.2 c1
    refine lv_iload_n hx hb dX9_ahead_4 rfl (lv_at hl 1 rfl) ?_
    refine lv_bipush (v := 99) hx hb dX9_ahead_5 (by decide) ?_
    refine lv_icmp_le (tgt := 13) hx hb dX9_ahead_7 (by decide) (fun c2 => ?_) (fun c2 => ?_)
    · have h := h.1 c2
      refine lv_aload_n hx hb dX9_ahead_13 rfl (lv_at hl 0 rfl) ?_
      refine lv_iload_n hx hb dX9_ahead_14 rfl (lv_at hl 2 rfl) ?_
      refine g_aI E hw (g_rV E hw (c_X9_isGate h _) ym_X9_isGate k_276 ⟨rfl, rfl⟩ ⟨Nat.le_of_ble_eq_true rfl, Nat.le_of_ble_eq_true rfl⟩ 33 rfl rfl rfl rfl hl.1 rfl (Nat.le_of_ble_eq_true rfl) ⟨Nat.zero_le _, Nat.zero_le _⟩ dX9_ahead_15) (fun r3 u H locs hq hw => ?_)
      obtain ⟨hu, h⟩ := hq
      rw [hu] at hw
      refine lv_if_ne (tgt := 23) hx hb dX9_ahead_18 (by decide) (fun c4 => ?_) (fun c4 => ?_)
      · have h := h.1 c4
        refine lv_aload_n hx hb dX9_ahead_23 rfl (lv_at hl 0 rfl) ?_
        refine gC_X9_40_main E hw dX9_ahead_24 ?_
        refine lv_aload_n hx hb dX9_ahead_27 rfl (lv_at hl 0 rfl) ?_
        refine gC_X9_36_main E hw dX9_ahead_28 ?_
        refine g_aV E hw (g_rV E hw (c_X7_takeFrom_now_copy h _) ym_X7_takeFrom k_394 ⟨rfl, rfl⟩ ⟨Nat.le_of_ble_eq_true rfl, Nat.le_of_ble_eq_true rfl⟩ 16 rfl rfl rfl rfl hl.1 rfl (Nat.le_of_ble_eq_true rfl) ⟨Nat.zero_le _, Nat.zero_le _⟩ dX9_ahead_31) (fun u H locs hq hw => ?_)
        obtain ⟨y6, y7, y8, y9, y10, hu, h⟩ := hq
        rw [hu] at hw
        refine lv_aload_n hx hb dX9_ahead_34 rfl (lv_at hl 0 rfl) ?_
        refine lv_aload_n hx hb dX9_ahead_35 rfl (lv_at hl 0 rfl) ?_
        refine gC_X9_40_main E hw dX9_ahead_36 ?_
        refine lv_iload_n hx hb dX9_ahead_39 rfl (lv_at hl 1 rfl) ?_
        refine g_aV E hw (g_rV E hw (c_X9_makeSteps_copy h _) ym_X9_makeSteps k_346 ⟨rfl, rfl⟩ ⟨Nat.le_of_ble_eq_true rfl, Nat.le_of_ble_eq_true rfl⟩ 33 rfl rfl rfl rfl hl.1 rfl (Nat.le_of_ble_eq_true rfl) ⟨Nat.zero_le _, Nat.zero_le _⟩ dX9_ahead_40) (fun u H locs hq hw => ?_)
        obtain ⟨y12, y13, y14, y15, y16, y17, hu, h⟩ := hq
        rw [hu] at hw
        refine lv_aload_n hx hb dX9_ahead_43 rfl (lv_at hl 0 rfl) ?_
        refine lv_aload_n hx hb dX9_ahead_44 rfl (lv_at hl 0 rfl) ?_
        refine gC_X9_40_main E hw dX9_ahead_45 ?_
        refine lv_iload_n hx hb dX9_ahead_48 rfl (lv_at hl 2 rfl) ?_
        refine g_aI E hw (g_rV E hw (c_X9_valueNow_copy h _) ym_X9_valueNow k_295 ⟨rfl, rfl⟩ ⟨Nat.le_of_ble_eq_true rfl, Nat.le_of_ble_eq_true rfl⟩ 33 rfl rfl rfl rfl hl.1 rfl (Nat.le_of_ble_eq_true rfl) ⟨Nat.zero_le _, Nat.zero_le _⟩ dX9_ahead_49) (fun r18 u H locs hq hw => ?_)
        obtain ⟨y19, y20, y21, hu, h⟩ := hq
        rw [hu] at hw
        exact hret _ _ _ _ _ _ ⟨_, _, _, _, _, _, _, _, rfl, h⟩ hw dX9_ahead_52
      · have h := h.2 c4
        refine lv_iconst (v := -1) hx hb dX9_ahead_21 (by decide) ?_
        exact hret _ _ _ _ _ _ ⟨_, _, _, _, _, _, _, _, rfl, h⟩ hw dX9_ahead_22
    · have h := h.2 c2
      refine lv_bipush (v := -2) hx hb dX9_ahead_10 (by decide) ?_
      exact hret _ _ _ _ _ _ ⟨_, _, _, _, _, _, _, _, rfl, h⟩ hw dX9_ahead_12
set_option maxRecDepth 100000 in
set_option maxHeartbeats 4000000 in
theorem c_X9_periodFrom {l : Launch} {D : va_G} {cI cZ : ClassId} {ad : Nat → Nat} {f_keptSlots : Int32} {f_trace : Nat → Int32} {f_lastSeed : Int64} {f_text_letters : Nat → Int32} {f_text_length : Int32} {f_reader_place : Int32} {f_reader_greatestSource : Int32} {f_plan_chips : Int32} {f_plan_firstPins : Int32} {f_plan_firstPlaces : Int32} {f_plan_gates : Int32} {f_plan_inputs : Int32} {f_plan_registers : Int32} {f_plan_slowRegisters : Int32} {f_plan_kinds : Nat → Int32} {f_plan_firsts : Nat → Int32} {f_plan_seconds : Nat → Int32} {f_plan_clocks : Nat → Int32} {f_plan_sourceSets : Nat → Int32} {f_spare_chips : Int32} {f_spare_firstPins : Int32} {f_spare_firstPlaces : Int32} {f_spare_gates : Int32} {f_spare_inputs : Int32} {f_spare_registers : Int32} {f_spare_slowRegisters : Int32} {f_spare_kinds : Nat → Int32} {f_spare_firsts : Nat → Int32} {f_spare_seconds : Nat → Int32} {f_spare_clocks : Nat → Int32} {f_spare_sourceSets : Nat → Int32} {f_now_ones : Int32} {f_now_unknowns : Int32} {f_now_places : Int32} {f_now_pins : Int32} {f_now_count : Int32} {f_copy_ones : Int32} {f_copy_unknowns : Int32} {f_copy_places : Int32} {f_copy_pins : Int32} {f_copy_count : Int32} {f_logic_ones : Int32} {f_logic_unknowns : Int32} {f_logic_settled : Int32} {f_sched_available : Nat → Int32} {f_sched_wanted : Nat → Int32} {f_sched_coming : Nat → Int32} {f_sched_waiting : Int32} {f_sched_taken : Int32} {f_sched_sent : Int32} {f_sched_lastSent : Int32} {f_hist_next : Int32} {f_hist_held : Int32} {f_ring_cells : Nat → Int32} {f_kept_cells : Nat → Int32} {f_sight_steps : Nat → Int32} {f_sight_gates : Nat → Int32} {f_sight_values : Nat → Int32} {f_sight_truths : Nat → Int32} {f_sight_held : Int32} {X : va_W} {p1 : Int32} {Q : Int32 → Prop} (h : wp_X9_periodFrom f_trace p1 Q) : CtI l yX9_periodFrom cX9_periodFrom 4 (some .int) ({ frames := 1, cells := 0, slots := 0, locals := 21 } : Room) D [(cI, .int), (cZ, .boolean)] [.ref (ad 33), .int p1] (wC ad cI cZ f_keptSlots f_trace f_lastSeed f_text_letters f_text_length f_reader_place f_reader_greatestSource f_plan_chips f_plan_firstPins f_plan_firstPlaces f_plan_gates f_plan_inputs f_plan_registers f_plan_slowRegisters f_plan_kinds f_plan_firsts f_plan_seconds f_plan_clocks f_plan_sourceSets f_spare_chips f_spare_firstPins f_spare_firstPlaces f_spare_gates f_spare_inputs f_spare_registers f_spare_slowRegisters f_spare_kinds f_spare_firsts f_spare_seconds f_spare_clocks f_spare_sourceSets f_now_ones f_now_unknowns f_now_places f_now_pins f_now_count f_copy_ones f_copy_unknowns f_copy_places f_copy_pins f_copy_count f_logic_ones f_logic_unknowns f_logic_settled f_sched_available f_sched_wanted f_sched_coming f_sched_waiting f_sched_taken f_sched_sent f_sched_lastSent f_hist_next f_hist_held f_ring_cells f_kept_cells f_sight_steps f_sight_gates f_sight_values f_sight_truths f_sight_held X) (fun r u => u = (wC ad cI cZ f_keptSlots f_trace f_lastSeed f_text_letters f_text_length f_reader_place f_reader_greatestSource f_plan_chips f_plan_firstPins f_plan_firstPlaces f_plan_gates f_plan_inputs f_plan_registers f_plan_slowRegisters f_plan_kinds f_plan_firsts f_plan_seconds f_plan_clocks f_plan_sourceSets f_spare_chips f_spare_firstPins f_spare_firstPlaces f_spare_gates f_spare_inputs f_spare_registers f_spare_slowRegisters f_spare_kinds f_spare_firsts f_spare_seconds f_spare_clocks f_spare_sourceSets f_now_ones f_now_unknowns f_now_places f_now_pins f_now_count f_copy_ones f_copy_unknowns f_copy_places f_copy_pins f_copy_count f_logic_ones f_logic_unknowns f_logic_settled f_sched_available f_sched_wanted f_sched_coming f_sched_waiting f_sched_taken f_sched_sent f_sched_lastSent f_hist_next f_hist_held f_ring_cells f_kept_cells f_sight_steps f_sight_gates f_sight_values f_sight_truths f_sight_held X) ∧ Q r) := by
  refine CtI.of (by decide) rfl (Nat.le_of_ble_eq_true rfl) ?_
  intro p e s m args below meth c A Z E hret ls hl hw
  have E : gE p m c cX9_periodFrom 4 s args RX9 D [(cI, .int), (cZ, .boolean)] A := E
  have hx := E.1.1
  have hb := E.1.2.1
  have hl : lv_has ls 4 [(0, .ref (ad 33)), (1, .int p1)] := hl
  have L11 : ∀ (n : Nat) (x2 : Int32) (x3 : Int32) (H : Heap) (locs : List Loc) (ls : Array Slot), wp_X9_periodFrom_h11 f_trace p1 Q  n x2 x3 → gW D s A (wC ad cI cZ f_keptSlots f_trace f_lastSeed f_text_letters f_text_length f_reader_place f_reader_greatestSource f_plan_chips f_plan_firstPins f_plan_firstPlaces f_plan_gates f_plan_inputs f_plan_registers f_plan_slowRegisters f_plan_kinds f_plan_firsts f_plan_seconds f_plan_clocks f_plan_sourceSets f_spare_chips f_spare_firstPins f_spare_firstPlaces f_spare_gates f_spare_inputs f_spare_registers f_spare_slowRegisters f_spare_kinds f_spare_firsts f_spare_seconds f_spare_clocks f_spare_sourceSets f_now_ones f_now_unknowns f_now_places f_now_pins f_now_count f_copy_ones f_copy_unknowns f_copy_places f_copy_pins f_copy_count f_logic_ones f_logic_unknowns f_logic_settled f_sched_available f_sched_wanted f_sched_coming f_sched_waiting f_sched_taken f_sched_sent f_sched_lastSent f_hist_next f_hist_held f_ring_cells f_kept_cells f_sight_steps f_sight_gates f_sight_values f_sight_truths f_sight_held X) H locs → lv_has ls 4 [(0, .ref (ad 33)), (1, .int p1), (2, .int x2), (3, .int x3)] → W p l e ({ frames := 1, cells := 0, slots := 0, locals := 21 } : Room) s m args below meth c H locs 0 0 Z (F0 m 11 ls []) := by
    intro n
    induction n with
    | zero => intro x2 x3 H locs ls h; exact False.elim h
    | succ n11 ih11 =>
      intro x2 x3 H locs ls h hw hl
      have h : wp_X9_periodFrom_b11 f_trace p1 Q (wp_X9_periodFrom_h11 f_trace p1 Q  n11) x2 x3 := h
      unfold wp_X9_periodFrom_b11 at h
      refine lv_iload_n hx hb dX9_periodFrom_11 rfl (lv_at hl 3 rfl) ?_
      refine lv_bipush (v := 60) hx hb dX9_periodFrom_12 (by decide) ?_
      refine lv_icmp_gt (tgt := 39) hx hb dX9_periodFrom_14 (by decide) (fun c1 => ?_) (fun c1 => ?_)
      · have h := h.1 c1
        refine lv_bipush (v := -9) hx hb dX9_periodFrom_39 (by decide) ?_
        exact hret _ _ _ _ _ _ ⟨rfl, h⟩ hw dX9_periodFrom_41
      · have h := h.2 c1
        refine lv_aload_n hx hb dX9_periodFrom_17 rfl (lv_at hl 0 rfl) ?_
        refine gC_X9_84_main E hw dX9_periodFrom_18 ?_
        refine lv_iload_n hx hb dX9_periodFrom_21 rfl (lv_at hl 1 rfl) ?_
        refine lv_iload_n hx hb dX9_periodFrom_22 rfl (lv_at hl 3 rfl) ?_
        refine lv_iadd hx hb dX9_periodFrom_23 ?_
        refine g_aI E hw (g_rS E hw (c_X9_cell (q0 := 0) rfl h _) ym_X9_cell k_408 ⟨rfl, rfl⟩ ⟨Nat.le_of_ble_eq_true rfl, Nat.le_of_ble_eq_true rfl⟩ rfl hl.1 rfl (Nat.le_of_ble_eq_true rfl) ⟨Nat.zero_le _, Nat.zero_le _⟩ dX9_periodFrom_24) (fun r2 u H locs hq hw => ?_)
        obtain ⟨hu, h⟩ := hq
        rw [hu] at hw
        refine lv_iload_n hx hb dX9_periodFrom_27 rfl (lv_at hl 2 rfl) ?_
        refine lv_icmp_ne (tgt := 33) hx hb dX9_periodFrom_28 (by decide) (fun c3 => ?_) (fun c3 => ?_)
        · have h := h.1 c3
          obtain ⟨v4, ev4⟩ : ∃ y : Int32, y = x3 + (2) := ⟨_, rfl⟩
          have h := h v4 ev4
          refine lv_iinc (v := v4) (lv' := [(3, .int v4), (0, .ref (ad 33)), (1, .int p1), (2, .int x2)]) hx hb dX9_periodFrom_33 hl (k := 3) rfl (by rw [ev4]; rfl) (by decide) rfl (fun ls hl => ?_)
          refine lv_goto (tgt := 11) hx hb dX9_periodFrom_36 (by decide) ?_
          exact ih11 x2 v4 _ _ _ h hw (lv_sub hl [1, 2, 3, 0] rfl)
        · have h := h.2 c3
          refine lv_iload_n hx hb dX9_periodFrom_31 rfl (lv_at hl 3 rfl) ?_
          exact hret _ _ _ _ _ _ ⟨rfl, h⟩ hw dX9_periodFrom_32
  unfold wp_X9_periodFrom at h
  refine lv_aload_n hx hb dX9_periodFrom_0 rfl (lv_at hl 0 rfl) ?_
  refine gC_X9_84_main E hw dX9_periodFrom_1 ?_
  refine lv_iload_n hx hb dX9_periodFrom_4 rfl (lv_at hl 1 rfl) ?_
  refine g_aI E hw (g_rS E hw (c_X9_cell (q0 := 0) rfl h _) ym_X9_cell k_408 ⟨rfl, rfl⟩ ⟨Nat.le_of_ble_eq_true rfl, Nat.le_of_ble_eq_true rfl⟩ rfl hl.1 rfl (Nat.le_of_ble_eq_true rfl) ⟨Nat.zero_le _, Nat.zero_le _⟩ dX9_periodFrom_5) (fun r5 u H locs hq hw => ?_)
  obtain ⟨hu, h⟩ := hq
  rw [hu] at hw
  refine lv_istore_n (lv' := [(2, .int r5), (0, .ref (ad 33)), (1, .int p1)]) hx hb dX9_periodFrom_8 rfl hl (by decide) rfl (fun ls hl => ?_)
  refine lv_iconst (v := 2) hx hb dX9_periodFrom_9 (by decide) ?_
  refine lv_istore_n (lv' := [(3, .int (2 : Int32)), (2, .int r5), (0, .ref (ad 33)), (1, .int p1)]) hx hb dX9_periodFrom_10 rfl hl (by decide) rfl (fun ls hl => ?_)
  obtain ⟨n, h⟩ := h
  exact L11 n r5 (2 : Int32) _ _ _ h hw (lv_sub hl [2, 3, 1, 0] rfl)
set_option maxRecDepth 100000 in
set_option maxHeartbeats 4000000 in
theorem c_X9_traceSteps {l : Launch} {D : va_G} {cI cZ : ClassId} {ad : Nat → Nat} {f_keptSlots : Int32} {f_trace : Nat → Int32} {f_lastSeed : Int64} {f_text_letters : Nat → Int32} {f_text_length : Int32} {f_reader_place : Int32} {f_reader_greatestSource : Int32} {f_plan_chips : Int32} {f_plan_firstPins : Int32} {f_plan_firstPlaces : Int32} {f_plan_gates : Int32} {f_plan_inputs : Int32} {f_plan_registers : Int32} {f_plan_slowRegisters : Int32} {f_plan_kinds : Nat → Int32} {f_plan_firsts : Nat → Int32} {f_plan_seconds : Nat → Int32} {f_plan_clocks : Nat → Int32} {f_plan_sourceSets : Nat → Int32} {f_spare_chips : Int32} {f_spare_firstPins : Int32} {f_spare_firstPlaces : Int32} {f_spare_gates : Int32} {f_spare_inputs : Int32} {f_spare_registers : Int32} {f_spare_slowRegisters : Int32} {f_spare_kinds : Nat → Int32} {f_spare_firsts : Nat → Int32} {f_spare_seconds : Nat → Int32} {f_spare_clocks : Nat → Int32} {f_spare_sourceSets : Nat → Int32} {f_now_ones : Int32} {f_now_unknowns : Int32} {f_now_places : Int32} {f_now_pins : Int32} {f_now_count : Int32} {f_copy_ones : Int32} {f_copy_unknowns : Int32} {f_copy_places : Int32} {f_copy_pins : Int32} {f_copy_count : Int32} {f_logic_ones : Int32} {f_logic_unknowns : Int32} {f_logic_settled : Int32} {f_sched_available : Nat → Int32} {f_sched_wanted : Nat → Int32} {f_sched_coming : Nat → Int32} {f_sched_waiting : Int32} {f_sched_taken : Int32} {f_sched_sent : Int32} {f_sched_lastSent : Int32} {f_hist_next : Int32} {f_hist_held : Int32} {f_ring_cells : Nat → Int32} {f_kept_cells : Nat → Int32} {f_sight_steps : Nat → Int32} {f_sight_gates : Nat → Int32} {f_sight_values : Nat → Int32} {f_sight_truths : Nat → Int32} {f_sight_held : Int32} {X : va_W} {Q : Int32 → Int32 → Int32 → Int32 → Int32 → Int32 → Int32 → Int32 → (Nat → Int32) → Prop} (h : wp_X9_traceSteps f_copy_count f_copy_ones f_copy_pins f_copy_places f_copy_unknowns f_logic_ones f_logic_settled f_logic_unknowns f_now_count f_now_ones f_now_pins f_now_places f_now_unknowns f_plan_firsts f_plan_gates f_plan_inputs f_plan_kinds f_plan_registers f_plan_seconds f_plan_slowRegisters f_plan_sourceSets f_trace Q) : CtV l yX9_traceSteps cX9_traceSteps 2 none ({ frames := 5, cells := 0, slots := 0, locals := 114 } : Room) D [(cI, .int), (cZ, .boolean)] [.ref (ad 33)] (wC ad cI cZ f_keptSlots f_trace f_lastSeed f_text_letters f_text_length f_reader_place f_reader_greatestSource f_plan_chips f_plan_firstPins f_plan_firstPlaces f_plan_gates f_plan_inputs f_plan_registers f_plan_slowRegisters f_plan_kinds f_plan_firsts f_plan_seconds f_plan_clocks f_plan_sourceSets f_spare_chips f_spare_firstPins f_spare_firstPlaces f_spare_gates f_spare_inputs f_spare_registers f_spare_slowRegisters f_spare_kinds f_spare_firsts f_spare_seconds f_spare_clocks f_spare_sourceSets f_now_ones f_now_unknowns f_now_places f_now_pins f_now_count f_copy_ones f_copy_unknowns f_copy_places f_copy_pins f_copy_count f_logic_ones f_logic_unknowns f_logic_settled f_sched_available f_sched_wanted f_sched_coming f_sched_waiting f_sched_taken f_sched_sent f_sched_lastSent f_hist_next f_hist_held f_ring_cells f_kept_cells f_sight_steps f_sight_gates f_sight_values f_sight_truths f_sight_held X) (fun  u => ∃ w0 w1 w2 w3 w4 w5 w6 w7 w8, u = (wC ad cI cZ f_keptSlots w8 f_lastSeed f_text_letters f_text_length f_reader_place f_reader_greatestSource f_plan_chips f_plan_firstPins f_plan_firstPlaces f_plan_gates f_plan_inputs f_plan_registers f_plan_slowRegisters f_plan_kinds f_plan_firsts f_plan_seconds f_plan_clocks f_plan_sourceSets f_spare_chips f_spare_firstPins f_spare_firstPlaces f_spare_gates f_spare_inputs f_spare_registers f_spare_slowRegisters f_spare_kinds f_spare_firsts f_spare_seconds f_spare_clocks f_spare_sourceSets f_now_ones f_now_unknowns f_now_places f_now_pins f_now_count w1 w4 w3 w2 w0 w5 w7 w6 f_sched_available f_sched_wanted f_sched_coming f_sched_waiting f_sched_taken f_sched_sent f_sched_lastSent f_hist_next f_hist_held f_ring_cells f_kept_cells f_sight_steps f_sight_gates f_sight_values f_sight_truths f_sight_held X) ∧ Q w0 w1 w2 w3 w4 w5 w6 w7 w8) := by
  refine CtV.of (by decide) rfl (Nat.le_of_ble_eq_true rfl) ?_
  intro p e s m args below meth c A Z E hret ls hl hw
  have E : gE p m c cX9_traceSteps 2 s args RX9 D [(cI, .int), (cZ, .boolean)] A := E
  have hx := E.1.1
  have hb := E.1.2.1
  have hl : lv_has ls 2 [(0, .ref (ad 33))] := hl
  have L13 : ∀ (n : Nat) (x1 : Int32) (f_copy_count : Int32) (f_copy_ones : Int32) (f_copy_pins : Int32) (f_copy_places : Int32) (f_copy_unknowns : Int32) (f_logic_ones : Int32) (f_logic_settled : Int32) (f_logic_unknowns : Int32) (f_trace : Nat → Int32) (H : Heap) (locs : List Loc) (ls : Array Slot), wp_X9_traceSteps_h13 f_now_count f_now_ones f_now_pins f_now_places f_now_unknowns f_plan_firsts f_plan_gates f_plan_inputs f_plan_kinds f_plan_registers f_plan_seconds f_plan_slowRegisters f_plan_sourceSets Q  n x1 f_copy_count f_copy_ones f_copy_pins f_copy_places f_copy_unknowns f_logic_ones f_logic_settled f_logic_unknowns f_trace → gW D s A (wC ad cI cZ f_keptSlots f_trace f_lastSeed f_text_letters f_text_length f_reader_place f_reader_greatestSource f_plan_chips f_plan_firstPins f_plan_firstPlaces f_plan_gates f_plan_inputs f_plan_registers f_plan_slowRegisters f_plan_kinds f_plan_firsts f_plan_seconds f_plan_clocks f_plan_sourceSets f_spare_chips f_spare_firstPins f_spare_firstPlaces f_spare_gates f_spare_inputs f_spare_registers f_spare_slowRegisters f_spare_kinds f_spare_firsts f_spare_seconds f_spare_clocks f_spare_sourceSets f_now_ones f_now_unknowns f_now_places f_now_pins f_now_count f_copy_ones f_copy_unknowns f_copy_places f_copy_pins f_copy_count f_logic_ones f_logic_unknowns f_logic_settled f_sched_available f_sched_wanted f_sched_coming f_sched_waiting f_sched_taken f_sched_sent f_sched_lastSent f_hist_next f_hist_held f_ring_cells f_kept_cells f_sight_steps f_sight_gates f_sight_values f_sight_truths f_sight_held X) H locs → lv_has ls 2 [(0, .ref (ad 33)), (1, .int x1)] → W p l e ({ frames := 5, cells := 0, slots := 0, locals := 114 } : Room) s m args below meth c H locs 0 0 Z (F0 m 13 ls []) := by
    intro n
    induction n with
    | zero => intro x1 f_copy_count f_copy_ones f_copy_pins f_copy_places f_copy_unknowns f_logic_ones f_logic_settled f_logic_unknowns f_trace H locs ls h; exact False.elim h
    | succ n13 ih13 =>
      intro x1 f_copy_count f_copy_ones f_copy_pins f_copy_places f_copy_unknowns f_logic_ones f_logic_settled f_logic_unknowns f_trace H locs ls h hw hl
      have h : wp_X9_traceSteps_b13 f_now_count f_now_ones f_now_pins f_now_places f_now_unknowns f_plan_firsts f_plan_gates f_plan_inputs f_plan_kinds f_plan_registers f_plan_seconds f_plan_slowRegisters f_plan_sourceSets Q (wp_X9_traceSteps_h13 f_now_count f_now_ones f_now_pins f_now_places f_now_unknowns f_plan_firsts f_plan_gates f_plan_inputs f_plan_kinds f_plan_registers f_plan_seconds f_plan_slowRegisters f_plan_sourceSets Q  n13) x1 f_copy_count f_copy_ones f_copy_pins f_copy_places f_copy_unknowns f_logic_ones f_logic_settled f_logic_unknowns f_trace := h
      unfold wp_X9_traceSteps_b13 at h
      refine lv_iload_n hx hb dX9_traceSteps_13 rfl (lv_at hl 1 rfl) ?_
      refine lv_aload_n hx hb dX9_traceSteps_14 rfl (lv_at hl 0 rfl) ?_
      refine gC_X9_84_main E hw dX9_traceSteps_15 ?_
      refine g_alen E hw 0 0 rfl rfl dX9_traceSteps_18 ?_
      refine lv_icmp_ge (tgt := 61) hx hb dX9_traceSteps_19 (by decide) (fun c1 => ?_) (fun c1 => ?_)
      · have h := h.1 c1
        exact hret _ _ _ _ _ ⟨_, _, _, _, _, _, _, _, _, rfl, h⟩ hw dX9_traceSteps_61
      · have h := h.2 c1
        refine lv_aload_n hx hb dX9_traceSteps_22 rfl (lv_at hl 0 rfl) ?_
        refine gC_X9_84_main E hw dX9_traceSteps_23 ?_
        refine lv_iload_n hx hb dX9_traceSteps_26 rfl (lv_at hl 1 rfl) ?_
        refine lv_aload_n hx hb dX9_traceSteps_27 rfl (lv_at hl 0 rfl) ?_
        refine gC_X9_40_main E hw dX9_traceSteps_28 ?_
        refine gC_X9_157_copy E hw dX9_traceSteps_31 ?_
        refine lv_aload_n hx hb dX9_traceSteps_34 rfl (lv_at hl 0 rfl) ?_
        refine gC_X9_40_main E hw dX9_traceSteps_35 ?_
        refine gC_X9_160_copy E hw dX9_traceSteps_38 ?_
        refine lv_bipush (v := 10) hx hb dX9_traceSteps_41 (by decide) ?_
        refine lv_ishl hx hb dX9_traceSteps_43 ?_
        refine lv_ior hx hb dX9_traceSteps_44 ?_
        refine lv_topi (fun v2 ev2 => ?_)
        have h := h v2 ev2
        refine sC_trace E hw h.1 dX9_traceSteps_45 (fun y3 ey3 H locs hw => ?_)
        have h := h.2 y3 ey3
        refine lv_aload_n hx hb dX9_traceSteps_46 rfl (lv_at hl 0 rfl) ?_
        refine lv_aload_n hx hb dX9_traceSteps_47 rfl (lv_at hl 0 rfl) ?_
        refine gC_X9_40_main E hw dX9_traceSteps_48 ?_
        refine lv_iconst (v := 1) hx hb dX9_traceSteps_51 (by decide) ?_
        refine g_aV E hw (g_rV E hw (c_X9_makeSteps_copy h _) ym_X9_makeSteps k_346 ⟨rfl, rfl⟩ ⟨Nat.le_of_ble_eq_true rfl, Nat.le_of_ble_eq_true rfl⟩ 33 rfl rfl rfl rfl hl.1 rfl (Nat.le_of_ble_eq_true rfl) ⟨Nat.zero_le _, Nat.zero_le _⟩ dX9_traceSteps_52) (fun u H locs hq hw => ?_)
        obtain ⟨y5, y6, y7, y8, y9, y10, hu, h⟩ := hq
        rw [hu] at hw
        obtain ⟨v11, ev11⟩ : ∃ y : Int32, y = x1 + 1 := ⟨_, rfl⟩
        have h := h v11 ev11
        refine lv_iinc (v := v11) (lv' := [(1, .int v11), (0, .ref (ad 33))]) hx hb dX9_traceSteps_55 hl (k := 1) rfl (by rw [ev11]; rfl) (by decide) rfl (fun ls hl => ?_)
        refine lv_goto (tgt := 13) hx hb dX9_traceSteps_58 (by decide) ?_
        exact ih13 v11 y8 y9 f_copy_pins f_copy_places y10 y5 y6 y7 y3 _ _ _ h hw (lv_sub hl [1, 0] rfl)
  unfold wp_X9_traceSteps at h
  refine lv_aload_n hx hb dX9_traceSteps_0 rfl (lv_at hl 0 rfl) ?_
  refine gC_X9_40_main E hw dX9_traceSteps_1 ?_
  refine lv_aload_n hx hb dX9_traceSteps_4 rfl (lv_at hl 0 rfl) ?_
  refine gC_X9_36_main E hw dX9_traceSteps_5 ?_
  refine g_aV E hw (g_rV E hw (c_X7_takeFrom_now_copy h _) ym_X7_takeFrom k_394 ⟨rfl, rfl⟩ ⟨Nat.le_of_ble_eq_true rfl, Nat.le_of_ble_eq_true rfl⟩ 16 rfl rfl rfl rfl hl.1 rfl (Nat.le_of_ble_eq_true rfl) ⟨Nat.zero_le _, Nat.zero_le _⟩ dX9_traceSteps_8) (fun u H locs hq hw => ?_)
  obtain ⟨y13, y14, y15, y16, y17, hu, h⟩ := hq
  rw [hu] at hw
  refine lv_iconst (v := 0) hx hb dX9_traceSteps_11 (by decide) ?_
  refine lv_istore_n (lv' := [(1, .int (0 : Int32)), (0, .ref (ad 33))]) hx hb dX9_traceSteps_12 rfl hl (by decide) rfl (fun ls hl => ?_)
  obtain ⟨n, h⟩ := h
  exact L13 n (0 : Int32) y13 y14 y15 y16 y17 f_logic_ones f_logic_settled f_logic_unknowns f_trace _ _ _ h hw (lv_sub hl [1, 0] rfl)
set_option maxRecDepth 100000 in
set_option maxHeartbeats 4000000 in
theorem c_X9_round {l : Launch} {D : va_G} {cI cZ : ClassId} {ad : Nat → Nat} {f_keptSlots : Int32} {f_trace : Nat → Int32} {f_lastSeed : Int64} {f_text_letters : Nat → Int32} {f_text_length : Int32} {f_reader_place : Int32} {f_reader_greatestSource : Int32} {f_plan_chips : Int32} {f_plan_firstPins : Int32} {f_plan_firstPlaces : Int32} {f_plan_gates : Int32} {f_plan_inputs : Int32} {f_plan_registers : Int32} {f_plan_slowRegisters : Int32} {f_plan_kinds : Nat → Int32} {f_plan_firsts : Nat → Int32} {f_plan_seconds : Nat → Int32} {f_plan_clocks : Nat → Int32} {f_plan_sourceSets : Nat → Int32} {f_spare_chips : Int32} {f_spare_firstPins : Int32} {f_spare_firstPlaces : Int32} {f_spare_gates : Int32} {f_spare_inputs : Int32} {f_spare_registers : Int32} {f_spare_slowRegisters : Int32} {f_spare_kinds : Nat → Int32} {f_spare_firsts : Nat → Int32} {f_spare_seconds : Nat → Int32} {f_spare_clocks : Nat → Int32} {f_spare_sourceSets : Nat → Int32} {f_now_ones : Int32} {f_now_unknowns : Int32} {f_now_places : Int32} {f_now_pins : Int32} {f_now_count : Int32} {f_copy_ones : Int32} {f_copy_unknowns : Int32} {f_copy_places : Int32} {f_copy_pins : Int32} {f_copy_count : Int32} {f_logic_ones : Int32} {f_logic_unknowns : Int32} {f_logic_settled : Int32} {f_sched_available : Nat → Int32} {f_sched_wanted : Nat → Int32} {f_sched_coming : Nat → Int32} {f_sched_waiting : Int32} {f_sched_taken : Int32} {f_sched_sent : Int32} {f_sched_lastSent : Int32} {f_hist_next : Int32} {f_hist_held : Int32} {f_ring_cells : Nat → Int32} {f_kept_cells : Nat → Int32} {f_sight_steps : Nat → Int32} {f_sight_gates : Nat → Int32} {f_sight_values : Nat → Int32} {f_sight_truths : Nat → Int32} {f_sight_held : Int32} {X : va_W} {p1 : Int32} {Q : Int32 → Int32 → Int32 → Int32 → Int32 → Int32 → Int32 → Int32 → Int32 → (Nat → Int32) → Prop} (h : wp_X9_round f_copy_count f_copy_ones f_copy_pins f_copy_places f_copy_unknowns f_logic_ones f_logic_settled f_logic_unknowns f_now_count f_now_ones f_now_pins f_now_places f_now_unknowns f_plan_firsts f_plan_gates f_plan_inputs f_plan_kinds f_plan_registers f_plan_seconds f_plan_slowRegisters f_plan_sourceSets f_trace p1 Q) : CtI l yX9_round cX9_round 4 (some .int) ({ frames := 6, cells := 0, slots := 0, locals := 135 } : Room) D [(cI, .int), (cZ, .boolean)] [.ref (ad 33), .int p1] (wC ad cI cZ f_keptSlots f_trace f_lastSeed f_text_letters f_text_length f_reader_place f_reader_greatestSource f_plan_chips f_plan_firstPins f_plan_firstPlaces f_plan_gates f_plan_inputs f_plan_registers f_plan_slowRegisters f_plan_kinds f_plan_firsts f_plan_seconds f_plan_clocks f_plan_sourceSets f_spare_chips f_spare_firstPins f_spare_firstPlaces f_spare_gates f_spare_inputs f_spare_registers f_spare_slowRegisters f_spare_kinds f_spare_firsts f_spare_seconds f_spare_clocks f_spare_sourceSets f_now_ones f_now_unknowns f_now_places f_now_pins f_now_count f_copy_ones f_copy_unknowns f_copy_places f_copy_pins f_copy_count f_logic_ones f_logic_unknowns f_logic_settled f_sched_available f_sched_wanted f_sched_coming f_sched_waiting f_sched_taken f_sched_sent f_sched_lastSent f_hist_next f_hist_held f_ring_cells f_kept_cells f_sight_steps f_sight_gates f_sight_values f_sight_truths f_sight_held X) (fun r u => ∃ w0 w1 w2 w3 w4 w5 w6 w7 w8, u = (wC ad cI cZ f_keptSlots w8 f_lastSeed f_text_letters f_text_length f_reader_place f_reader_greatestSource f_plan_chips f_plan_firstPins f_plan_firstPlaces f_plan_gates f_plan_inputs f_plan_registers f_plan_slowRegisters f_plan_kinds f_plan_firsts f_plan_seconds f_plan_clocks f_plan_sourceSets f_spare_chips f_spare_firstPins f_spare_firstPlaces f_spare_gates f_spare_inputs f_spare_registers f_spare_slowRegisters f_spare_kinds f_spare_firsts f_spare_seconds f_spare_clocks f_spare_sourceSets f_now_ones f_now_unknowns f_now_places f_now_pins f_now_count w1 w4 w3 w2 w0 w5 w7 w6 f_sched_available f_sched_wanted f_sched_coming f_sched_waiting f_sched_taken f_sched_sent f_sched_lastSent f_hist_next f_hist_held f_ring_cells f_kept_cells f_sight_steps f_sight_gates f_sight_values f_sight_truths f_sight_held X) ∧ Q r w0 w1 w2 w3 w4 w5 w6 w7 w8) := by
  refine CtI.of (by decide) rfl (Nat.le_of_ble_eq_true rfl) ?_
  intro p e s m args below meth c A Z E hret ls hl hw
  have E : gE p m c cX9_round 4 s args RX9 D [(cI, .int), (cZ, .boolean)] A := E
  have hx := E.1.1
  have hb := E.1.2.1
  have hl : lv_has ls 4 [(0, .ref (ad 33)), (1, .int p1)] := hl
  have L18 : ∀ (n : Nat) (x2 : Int32) (f_copy_count : Int32) (f_copy_ones : Int32) (f_copy_pins : Int32) (f_copy_places : Int32) (f_copy_unknowns : Int32) (f_logic_ones : Int32) (f_logic_settled : Int32) (f_logic_unknowns : Int32) (f_trace : Nat → Int32) (H : Heap) (locs : List Loc) (ls : Array Slot), wp_X9_round_h18 f_now_count f_now_ones f_now_pins f_now_places f_now_unknowns f_plan_firsts f_plan_gates f_plan_inputs f_plan_kinds f_plan_registers f_plan_seconds f_plan_slowRegisters f_plan_sourceSets p1 Q  n x2 f_copy_count f_copy_ones f_copy_pins f_copy_places f_copy_unknowns f_logic_ones f_logic_settled f_logic_unknowns f_trace → gW D s A (wC ad cI cZ f_keptSlots f_trace f_lastSeed f_text_letters f_text_length f_reader_place f_reader_greatestSource f_plan_chips f_plan_firstPins f_plan_firstPlaces f_plan_gates f_plan_inputs f_plan_registers f_plan_slowRegisters f_plan_kinds f_plan_firsts f_plan_seconds f_plan_clocks f_plan_sourceSets f_spare_chips f_spare_firstPins f_spare_firstPlaces f_spare_gates f_spare_inputs f_spare_registers f_spare_slowRegisters f_spare_kinds f_spare_firsts f_spare_seconds f_spare_clocks f_spare_sourceSets f_now_ones f_now_unknowns f_now_places f_now_pins f_now_count f_copy_ones f_copy_unknowns f_copy_places f_copy_pins f_copy_count f_logic_ones f_logic_unknowns f_logic_settled f_sched_available f_sched_wanted f_sched_coming f_sched_waiting f_sched_taken f_sched_sent f_sched_lastSent f_hist_next f_hist_held f_ring_cells f_kept_cells f_sight_steps f_sight_gates f_sight_values f_sight_truths f_sight_held X) H locs → lv_has ls 4 [(0, .ref (ad 33)), (1, .int p1), (2, .int x2)] → W p l e ({ frames := 6, cells := 0, slots := 0, locals := 135 } : Room) s m args below meth c H locs 0 0 Z (F0 m 18 ls []) := by
    intro n
    induction n with
    | zero => intro x2 f_copy_count f_copy_ones f_copy_pins f_copy_places f_copy_unknowns f_logic_ones f_logic_settled f_logic_unknowns f_trace H locs ls h; exact False.elim h
    | succ n18 ih18 =>
      intro x2 f_copy_count f_copy_ones f_copy_pins f_copy_places f_copy_unknowns f_logic_ones f_logic_settled f_logic_unknowns f_trace H locs ls h hw hl
      have h : wp_X9_round_b18 f_now_count f_now_ones f_now_pins f_now_places f_now_unknowns f_plan_firsts f_plan_gates f_plan_inputs f_plan_kinds f_plan_registers f_plan_seconds f_plan_slowRegisters f_plan_sourceSets p1 Q (wp_X9_round_h18 f_now_count f_now_ones f_now_pins f_now_places f_now_unknowns f_plan_firsts f_plan_gates f_plan_inputs f_plan_kinds f_plan_registers f_plan_seconds f_plan_slowRegisters f_plan_sourceSets p1 Q  n18) x2 f_copy_count f_copy_ones f_copy_pins f_copy_places f_copy_unknowns f_logic_ones f_logic_settled f_logic_unknowns f_trace := h
      unfold wp_X9_round_b18 at h
      refine lv_iload_n hx hb dX9_round_18 rfl (lv_at hl 2 rfl) ?_
      refine lv_bipush (v := 60) hx hb dX9_round_19 (by decide) ?_
      refine lv_icmp_gt (tgt := 52) hx hb dX9_round_21 (by decide) (fun c1 => ?_) (fun c1 => ?_)
      · have h := h.1 c1
        refine lv_bipush (v := -9) hx hb dX9_round_52 (by decide) ?_
        exact hret _ _ _ _ _ _ ⟨_, _, _, _, _, _, _, _, _, rfl, h⟩ hw dX9_round_54
      · have h := h.2 c1
        refine lv_aload_n hx hb dX9_round_24 rfl (lv_at hl 0 rfl) ?_
        refine lv_iload_n hx hb dX9_round_25 rfl (lv_at hl 2 rfl) ?_
        refine g_aI E hw (g_rV E hw (c_X9_periodFrom h _) ym_X9_periodFrom k_405 ⟨rfl, rfl⟩ ⟨Nat.le_of_ble_eq_true rfl, Nat.le_of_ble_eq_true rfl⟩ 33 rfl rfl rfl rfl hl.1 rfl (Nat.le_of_ble_eq_true rfl) ⟨Nat.zero_le _, Nat.zero_le _⟩ dX9_round_26) (fun r2 u H locs hq hw => ?_)
        obtain ⟨hu, h⟩ := hq
        rw [hu] at hw
        refine lv_istore_n (lv' := [(3, .int r2), (0, .ref (ad 33)), (1, .int p1), (2, .int x2)]) hx hb dX9_round_29 rfl hl (by decide) rfl (fun ls hl => ?_)
        refine lv_iload_n hx hb dX9_round_30 rfl (lv_at hl 0 rfl) ?_
        refine lv_bipush (v := -9) hx hb dX9_round_31 (by decide) ?_
        refine lv_icmp_eq (tgt := 46) hx hb dX9_round_33 (by decide) (fun c3 => ?_) (fun c3 => ?_)
        · have h := h.1 c3
          obtain ⟨v4, ev4⟩ : ∃ y : Int32, y = x2 + 1 := ⟨_, rfl⟩
          have h := h v4 ev4
          refine lv_iinc (v := v4) (lv' := [(2, .int v4), (3, .int r2), (0, .ref (ad 33)), (1, .int p1)]) hx hb dX9_round_46 hl (k := 3) rfl (by rw [ev4]; rfl) (by decide) rfl (fun ls hl => ?_)
          refine lv_goto (tgt := 18) hx hb dX9_round_49 (by decide) ?_
          exact ih18 v4 f_copy_count f_copy_ones f_copy_pins f_copy_places f_copy_unknowns f_logic_ones f_logic_settled f_logic_unknowns f_trace _ _ _ h hw (lv_sub hl [2, 3, 0] rfl)
        · have h := h.2 c3
          refine lv_iload_n hx hb dX9_round_36 rfl (lv_at hl 2 rfl) ?_
          refine lv_if_ne (tgt := 44) hx hb dX9_round_37 (by decide) (fun c5 => ?_) (fun c5 => ?_)
          · have h := h.1 c5
            refine lv_iload_n hx hb dX9_round_44 rfl (lv_at hl 0 rfl) ?_
            exact hret _ _ _ _ _ _ ⟨_, _, _, _, _, _, _, _, _, rfl, h⟩ hw dX9_round_45
          · have h := h.2 c5
            refine lv_iload_n hx hb dX9_round_40 rfl (lv_at hl 3 rfl) ?_
            refine lv_goto (tgt := 45) hx hb dX9_round_41 (by decide) ?_
            exact hret _ _ _ _ _ _ ⟨_, _, _, _, _, _, _, _, _, rfl, h⟩ hw dX9_round_45
  unfold wp_X9_round at h
  refine lv_iload_n hx hb dX9_round_0 rfl (lv_at hl 1 rfl) ?_
  refine lv_if_lt (tgt := 9) hx hb dX9_round_1 (by decide) (fun c6 => ?_) (fun c6 => ?_)
  · have h := h.1 c6
    refine lv_bipush (v := -2) hx hb dX9_round_9 (by decide) ?_
    exact hret _ _ _ _ _ _ ⟨_, _, _, _, _, _, _, _, _, rfl, h⟩ hw dX9_round_11
  · have h := h.2 c6
    refine lv_iload_n hx hb dX9_round_4 rfl (lv_at hl 1 rfl) ?_
    refine lv_iconst (v := 1) hx hb dX9_round_5 (by decide) ?_
    refine lv_icmp_le (tgt := 12) hx hb dX9_round_6 (by decide) (fun c7 => ?_) (fun c7 => ?_)
    · have h := h.1 c7
      refine lv_aload_n hx hb dX9_round_12 rfl (lv_at hl 0 rfl) ?_
      refine g_aV E hw (g_rV E hw (c_X9_traceSteps h _) ym_X9_traceSteps k_402 ⟨rfl, rfl⟩ ⟨Nat.le_of_ble_eq_true rfl, Nat.le_of_ble_eq_true rfl⟩ 33 rfl rfl rfl rfl hl.1 rfl (Nat.le_of_ble_eq_true rfl) ⟨Nat.zero_le _, Nat.zero_le _⟩ dX9_round_13) (fun u H locs hq hw => ?_)
      obtain ⟨y9, y10, y11, y12, y13, y14, y15, y16, y17, hu, h⟩ := hq
      rw [hu] at hw
      refine lv_iconst (v := 0) hx hb dX9_round_16 (by decide) ?_
      refine lv_istore_n (lv' := [(2, .int (0 : Int32)), (0, .ref (ad 33)), (1, .int p1)]) hx hb dX9_round_17 rfl hl (by decide) rfl (fun ls hl => ?_)
      obtain ⟨n, h⟩ := h
      exact L18 n (0 : Int32) y9 y10 y11 y12 y13 y14 y15 y16 y17 _ _ _ h hw (lv_sub hl [1, 2, 0] rfl)
    · have h := h.2 c7
      refine lv_bipush (v := -2) hx hb dX9_round_9 (by decide) ?_
      exact hret _ _ _ _ _ _ ⟨_, _, _, _, _, _, _, _, _, rfl, h⟩ hw dX9_round_11
set_option maxRecDepth 100000 in
set_option maxHeartbeats 4000000 in
theorem c_X9_when {l : Launch} {D : va_G} {cI cZ : ClassId} {ad : Nat → Nat} {f_keptSlots : Int32} {f_trace : Nat → Int32} {f_lastSeed : Int64} {f_text_letters : Nat → Int32} {f_text_length : Int32} {f_reader_place : Int32} {f_reader_greatestSource : Int32} {f_plan_chips : Int32} {f_plan_firstPins : Int32} {f_plan_firstPlaces : Int32} {f_plan_gates : Int32} {f_plan_inputs : Int32} {f_plan_registers : Int32} {f_plan_slowRegisters : Int32} {f_plan_kinds : Nat → Int32} {f_plan_firsts : Nat → Int32} {f_plan_seconds : Nat → Int32} {f_plan_clocks : Nat → Int32} {f_plan_sourceSets : Nat → Int32} {f_spare_chips : Int32} {f_spare_firstPins : Int32} {f_spare_firstPlaces : Int32} {f_spare_gates : Int32} {f_spare_inputs : Int32} {f_spare_registers : Int32} {f_spare_slowRegisters : Int32} {f_spare_kinds : Nat → Int32} {f_spare_firsts : Nat → Int32} {f_spare_seconds : Nat → Int32} {f_spare_clocks : Nat → Int32} {f_spare_sourceSets : Nat → Int32} {f_now_ones : Int32} {f_now_unknowns : Int32} {f_now_places : Int32} {f_now_pins : Int32} {f_now_count : Int32} {f_copy_ones : Int32} {f_copy_unknowns : Int32} {f_copy_places : Int32} {f_copy_pins : Int32} {f_copy_count : Int32} {f_logic_ones : Int32} {f_logic_unknowns : Int32} {f_logic_settled : Int32} {f_sched_available : Nat → Int32} {f_sched_wanted : Nat → Int32} {f_sched_coming : Nat → Int32} {f_sched_waiting : Int32} {f_sched_taken : Int32} {f_sched_sent : Int32} {f_sched_lastSent : Int32} {f_hist_next : Int32} {f_hist_held : Int32} {f_ring_cells : Nat → Int32} {f_kept_cells : Nat → Int32} {f_sight_steps : Nat → Int32} {f_sight_gates : Nat → Int32} {f_sight_values : Nat → Int32} {f_sight_truths : Nat → Int32} {f_sight_held : Int32} {X : va_W} {p1 : Int32} {p2 : Int32} {Q : Int32 → (Nat → Int32) → (Nat → Int32) → Int32 → Int32 → Int32 → Int32 → (Nat → Int32) → Prop} (h : wp_X9_when f_now_pins f_now_places f_plan_chips f_plan_firsts f_plan_gates f_plan_inputs f_plan_registers f_plan_seconds f_plan_sourceSets f_sched_available f_sched_coming f_sched_lastSent f_sched_sent f_sched_taken f_sched_waiting f_sched_wanted p1 p2 Q) : CtI l yX9_when cX9_when 3 (some .int) ({ frames := 5, cells := 0, slots := 0, locals := 119 } : Room) D [(cI, .int), (cZ, .boolean)] [.ref (ad 33), .int p1, .int p2] (wC ad cI cZ f_keptSlots f_trace f_lastSeed f_text_letters f_text_length f_reader_place f_reader_greatestSource f_plan_chips f_plan_firstPins f_plan_firstPlaces f_plan_gates f_plan_inputs f_plan_registers f_plan_slowRegisters f_plan_kinds f_plan_firsts f_plan_seconds f_plan_clocks f_plan_sourceSets f_spare_chips f_spare_firstPins f_spare_firstPlaces f_spare_gates f_spare_inputs f_spare_registers f_spare_slowRegisters f_spare_kinds f_spare_firsts f_spare_seconds f_spare_clocks f_spare_sourceSets f_now_ones f_now_unknowns f_now_places f_now_pins f_now_count f_copy_ones f_copy_unknowns f_copy_places f_copy_pins f_copy_count f_logic_ones f_logic_unknowns f_logic_settled f_sched_available f_sched_wanted f_sched_coming f_sched_waiting f_sched_taken f_sched_sent f_sched_lastSent f_hist_next f_hist_held f_ring_cells f_kept_cells f_sight_steps f_sight_gates f_sight_values f_sight_truths f_sight_held X) (fun r u => ∃ w0 w1 w2 w3 w4 w5 w6, u = (wC ad cI cZ f_keptSlots f_trace f_lastSeed f_text_letters f_text_length f_reader_place f_reader_greatestSource f_plan_chips f_plan_firstPins f_plan_firstPlaces f_plan_gates f_plan_inputs f_plan_registers f_plan_slowRegisters f_plan_kinds f_plan_firsts f_plan_seconds f_plan_clocks f_plan_sourceSets f_spare_chips f_spare_firstPins f_spare_firstPlaces f_spare_gates f_spare_inputs f_spare_registers f_spare_slowRegisters f_spare_kinds f_spare_firsts f_spare_seconds f_spare_clocks f_spare_sourceSets f_now_ones f_now_unknowns f_now_places f_now_pins f_now_count f_copy_ones f_copy_unknowns f_copy_places f_copy_pins f_copy_count f_logic_ones f_logic_unknowns f_logic_settled w0 w6 w1 w5 w4 w3 w2 f_hist_next f_hist_held f_ring_cells f_kept_cells f_sight_steps f_sight_gates f_sight_values f_sight_truths f_sight_held X) ∧ Q r w0 w1 w2 w3 w4 w5 w6) := by
  refine CtI.of (by decide) rfl (Nat.le_of_ble_eq_true rfl) ?_
  intro p e s m args below meth c A Z E hret ls hl hw
  have E : gE p m c cX9_when 3 s args RX9 D [(cI, .int), (cZ, .boolean)] A := E
  have hx := E.1.1
  have hb := E.1.2.1
  have hl : lv_has ls 3 [(0, .ref (ad 33)), (1, .int p1), (2, .int p2)] := hl
  unfold wp_X9_when at h
  refine lv_aload_n hx hb dX9_when_0 rfl (lv_at hl 0 rfl) ?_
  refine lv_iload_n hx hb dX9_when_1 rfl (lv_at hl 1 rfl) ?_
  refine g_aI E hw (g_rV E hw (c_X9_isGate h _) ym_X9_isGate k_276 ⟨rfl, rfl⟩ ⟨Nat.le_of_ble_eq_true rfl, Nat.le_of_ble_eq_true rfl⟩ 33 rfl rfl rfl rfl hl.1 rfl (Nat.le_of_ble_eq_true rfl) ⟨Nat.zero_le _, Nat.zero_le _⟩ dX9_when_2) (fun r1 u H locs hq hw => ?_)
  obtain ⟨hu, h⟩ := hq
  rw [hu] at hw
  refine lv_if_eq (tgt := 16) hx hb dX9_when_5 (by decide) (fun c2 => ?_) (fun c2 => ?_)
  · have h := h.1 c2
    refine lv_iconst (v := -1) hx hb dX9_when_16 (by decide) ?_
    exact hret _ _ _ _ _ _ ⟨_, _, _, _, _, _, _, rfl, h⟩ hw dX9_when_17
  · have h := h.2 c2
    refine lv_aload_n hx hb dX9_when_8 rfl (lv_at hl 0 rfl) ?_
    refine lv_iload_n hx hb dX9_when_9 rfl (lv_at hl 2 rfl) ?_
    refine g_aI E hw (g_rV E hw (c_X9_isChip h _) ym_X9_isChip k_369 ⟨rfl, rfl⟩ ⟨Nat.le_of_ble_eq_true rfl, Nat.le_of_ble_eq_true rfl⟩ 33 rfl rfl rfl rfl hl.1 rfl (Nat.le_of_ble_eq_true rfl) ⟨Nat.zero_le _, Nat.zero_le _⟩ dX9_when_10) (fun r3 u H locs hq hw => ?_)
    obtain ⟨hu, h⟩ := hq
    rw [hu] at hw
    refine lv_if_ne (tgt := 18) hx hb dX9_when_13 (by decide) (fun c4 => ?_) (fun c4 => ?_)
    · have h := h.1 c4
      refine lv_aload_n hx hb dX9_when_18 rfl (lv_at hl 0 rfl) ?_
      refine gC_X9_53_main E hw dX9_when_19 ?_
      refine lv_aload_n hx hb dX9_when_22 rfl (lv_at hl 0 rfl) ?_
      refine gC_X9_26_main E hw dX9_when_23 ?_
      refine lv_aload_n hx hb dX9_when_26 rfl (lv_at hl 0 rfl) ?_
      refine gC_X9_36_main E hw dX9_when_27 ?_
      refine lv_iload_n hx hb dX9_when_30 rfl (lv_at hl 1 rfl) ?_
      refine lv_iload_n hx hb dX9_when_31 rfl (lv_at hl 2 rfl) ?_
      refine g_aI E hw (g_rV E hw (c_X4_firstSlot_plan_now h _) ym_X4_firstSlot k_413 ⟨rfl, rfl⟩ ⟨Nat.le_of_ble_eq_true rfl, Nat.le_of_ble_eq_true rfl⟩ 14 rfl rfl rfl rfl hl.1 rfl (Nat.le_of_ble_eq_true rfl) ⟨Nat.zero_le _, Nat.zero_le _⟩ dX9_when_32) (fun r5 u H locs hq hw => ?_)
      obtain ⟨y6, y7, y8, y9, y10, y11, y12, hu, h⟩ := hq
      rw [hu] at hw
      exact hret _ _ _ _ _ _ ⟨_, _, _, _, _, _, _, rfl, h⟩ hw dX9_when_35
    · have h := h.2 c4
      refine lv_iconst (v := -1) hx hb dX9_when_16 (by decide) ?_
      exact hret _ _ _ _ _ _ ⟨_, _, _, _, _, _, _, rfl, h⟩ hw dX9_when_17
set_option maxRecDepth 100000 in
set_option maxHeartbeats 4000000 in
theorem c_X9_bestMove {l : Launch} {D : va_G} {cI cZ : ClassId} {ad : Nat → Nat} {f_keptSlots : Int32} {f_trace : Nat → Int32} {f_lastSeed : Int64} {f_text_letters : Nat → Int32} {f_text_length : Int32} {f_reader_place : Int32} {f_reader_greatestSource : Int32} {f_plan_chips : Int32} {f_plan_firstPins : Int32} {f_plan_firstPlaces : Int32} {f_plan_gates : Int32} {f_plan_inputs : Int32} {f_plan_registers : Int32} {f_plan_slowRegisters : Int32} {f_plan_kinds : Nat → Int32} {f_plan_firsts : Nat → Int32} {f_plan_seconds : Nat → Int32} {f_plan_clocks : Nat → Int32} {f_plan_sourceSets : Nat → Int32} {f_spare_chips : Int32} {f_spare_firstPins : Int32} {f_spare_firstPlaces : Int32} {f_spare_gates : Int32} {f_spare_inputs : Int32} {f_spare_registers : Int32} {f_spare_slowRegisters : Int32} {f_spare_kinds : Nat → Int32} {f_spare_firsts : Nat → Int32} {f_spare_seconds : Nat → Int32} {f_spare_clocks : Nat → Int32} {f_spare_sourceSets : Nat → Int32} {f_now_ones : Int32} {f_now_unknowns : Int32} {f_now_places : Int32} {f_now_pins : Int32} {f_now_count : Int32} {f_copy_ones : Int32} {f_copy_unknowns : Int32} {f_copy_places : Int32} {f_copy_pins : Int32} {f_copy_count : Int32} {f_logic_ones : Int32} {f_logic_unknowns : Int32} {f_logic_settled : Int32} {f_sched_available : Nat → Int32} {f_sched_wanted : Nat → Int32} {f_sched_coming : Nat → Int32} {f_sched_waiting : Int32} {f_sched_taken : Int32} {f_sched_sent : Int32} {f_sched_lastSent : Int32} {f_hist_next : Int32} {f_hist_held : Int32} {f_ring_cells : Nat → Int32} {f_kept_cells : Nat → Int32} {f_sight_steps : Nat → Int32} {f_sight_gates : Nat → Int32} {f_sight_values : Nat → Int32} {f_sight_truths : Nat → Int32} {f_sight_held : Int32} {X : va_W} {Q : Int32 → (Nat → Int32) → (Nat → Int32) → Int32 → Int32 → Int32 → Int32 → (Nat → Int32) → Prop} (h : wp_X9_bestMove f_now_pins f_now_places f_plan_chips f_plan_firsts f_plan_gates f_plan_inputs f_plan_registers f_plan_seconds f_plan_sourceSets f_sched_available f_sched_coming f_sched_lastSent f_sched_sent f_sched_taken f_sched_waiting f_sched_wanted Q) : CtI l yX9_bestMove cX9_bestMove 6 (some .int) ({ frames := 5, cells := 0, slots := 0, locals := 118 } : Room) D [(cI, .int), (cZ, .boolean)] [.ref (ad 33)] (wC ad cI cZ f_keptSlots f_trace f_lastSeed f_text_letters f_text_length f_reader_place f_reader_greatestSource f_plan_chips f_plan_firstPins f_plan_firstPlaces f_plan_gates f_plan_inputs f_plan_registers f_plan_slowRegisters f_plan_kinds f_plan_firsts f_plan_seconds f_plan_clocks f_plan_sourceSets f_spare_chips f_spare_firstPins f_spare_firstPlaces f_spare_gates f_spare_inputs f_spare_registers f_spare_slowRegisters f_spare_kinds f_spare_firsts f_spare_seconds f_spare_clocks f_spare_sourceSets f_now_ones f_now_unknowns f_now_places f_now_pins f_now_count f_copy_ones f_copy_unknowns f_copy_places f_copy_pins f_copy_count f_logic_ones f_logic_unknowns f_logic_settled f_sched_available f_sched_wanted f_sched_coming f_sched_waiting f_sched_taken f_sched_sent f_sched_lastSent f_hist_next f_hist_held f_ring_cells f_kept_cells f_sight_steps f_sight_gates f_sight_values f_sight_truths f_sight_held X) (fun r u => ∃ w0 w1 w2 w3 w4 w5 w6, u = (wC ad cI cZ f_keptSlots f_trace f_lastSeed f_text_letters f_text_length f_reader_place f_reader_greatestSource f_plan_chips f_plan_firstPins f_plan_firstPlaces f_plan_gates f_plan_inputs f_plan_registers f_plan_slowRegisters f_plan_kinds f_plan_firsts f_plan_seconds f_plan_clocks f_plan_sourceSets f_spare_chips f_spare_firstPins f_spare_firstPlaces f_spare_gates f_spare_inputs f_spare_registers f_spare_slowRegisters f_spare_kinds f_spare_firsts f_spare_seconds f_spare_clocks f_spare_sourceSets f_now_ones f_now_unknowns f_now_places f_now_pins f_now_count f_copy_ones f_copy_unknowns f_copy_places f_copy_pins f_copy_count f_logic_ones f_logic_unknowns f_logic_settled w0 w6 w1 w5 w4 w3 w2 f_hist_next f_hist_held f_ring_cells f_kept_cells f_sight_steps f_sight_gates f_sight_values f_sight_truths f_sight_held X) ∧ Q r w0 w1 w2 w3 w4 w5 w6) := by
  refine CtI.of (by decide) rfl (Nat.le_of_ble_eq_true rfl) ?_
  intro p e s m args below meth c A Z E hret ls hl hw
  have E : gE p m c cX9_bestMove 6 s args RX9 D [(cI, .int), (cZ, .boolean)] A := E
  have hx := E.1.1
  have hb := E.1.2.1
  have hl : lv_has ls 6 [(0, .ref (ad 33))] := hl
  have L47 : ∀ (n : Nat) (x1 : Int32) (x2 : Int32) (x3 : Int32) (x4 : Int32) (f_sched_available : Nat → Int32) (f_sched_coming : Nat → Int32) (f_sched_lastSent : Int32) (f_sched_sent : Int32) (f_sched_taken : Int32) (f_sched_waiting : Int32) (f_sched_wanted : Nat → Int32) (H : Heap) (locs : List Loc) (ls : Array Slot), wp_X9_bestMove_h47 f_now_pins f_now_places f_plan_chips f_plan_firsts f_plan_gates f_plan_inputs f_plan_registers f_plan_seconds f_plan_sourceSets Q  n x1 x2 x3 x4 f_sched_available f_sched_coming f_sched_lastSent f_sched_sent f_sched_taken f_sched_waiting f_sched_wanted → gW D s A (wC ad cI cZ f_keptSlots f_trace f_lastSeed f_text_letters f_text_length f_reader_place f_reader_greatestSource f_plan_chips f_plan_firstPins f_plan_firstPlaces f_plan_gates f_plan_inputs f_plan_registers f_plan_slowRegisters f_plan_kinds f_plan_firsts f_plan_seconds f_plan_clocks f_plan_sourceSets f_spare_chips f_spare_firstPins f_spare_firstPlaces f_spare_gates f_spare_inputs f_spare_registers f_spare_slowRegisters f_spare_kinds f_spare_firsts f_spare_seconds f_spare_clocks f_spare_sourceSets f_now_ones f_now_unknowns f_now_places f_now_pins f_now_count f_copy_ones f_copy_unknowns f_copy_places f_copy_pins f_copy_count f_logic_ones f_logic_unknowns f_logic_settled f_sched_available f_sched_wanted f_sched_coming f_sched_waiting f_sched_taken f_sched_sent f_sched_lastSent f_hist_next f_hist_held f_ring_cells f_kept_cells f_sight_steps f_sight_gates f_sight_values f_sight_truths f_sight_held X) H locs → lv_has ls 6 [(0, .ref (ad 33)), (1, .int x1), (2, .int x2), (3, .int x3), (4, .int x4)] → W p l e ({ frames := 5, cells := 0, slots := 0, locals := 118 } : Room) s m args below meth c H locs 0 0 Z (F0 m 47 ls []) := by
    intro n
    induction n with
    | zero => intro x1 x2 x3 x4 f_sched_available f_sched_coming f_sched_lastSent f_sched_sent f_sched_taken f_sched_waiting f_sched_wanted H locs ls h; exact False.elim h
    | succ n47 ih47 =>
      intro x1 x2 x3 x4 f_sched_available f_sched_coming f_sched_lastSent f_sched_sent f_sched_taken f_sched_waiting f_sched_wanted H locs ls h hw hl
      have h : wp_X9_bestMove_b47 f_now_pins f_now_places f_plan_chips f_plan_firsts f_plan_gates f_plan_inputs f_plan_registers f_plan_seconds f_plan_sourceSets Q (wp_X9_bestMove_h47 f_now_pins f_now_places f_plan_chips f_plan_firsts f_plan_gates f_plan_inputs f_plan_registers f_plan_seconds f_plan_sourceSets Q  n47) x1 x2 x3 x4 f_sched_available f_sched_coming f_sched_lastSent f_sched_sent f_sched_taken f_sched_waiting f_sched_wanted := h
      have L62 : ∀ (n : Nat) (x1 : Int32) (x2 : Int32) (x3 : Int32) (x4 : Int32) (x5 : Int32) (f_sched_available : Nat → Int32) (f_sched_coming : Nat → Int32) (f_sched_lastSent : Int32) (f_sched_sent : Int32) (f_sched_taken : Int32) (f_sched_waiting : Int32) (f_sched_wanted : Nat → Int32) (H : Heap) (locs : List Loc) (ls : Array Slot), wp_X9_bestMove_h62 f_now_pins f_now_places f_plan_chips f_plan_firsts f_plan_gates f_plan_inputs f_plan_registers f_plan_seconds f_plan_sourceSets Q (wp_X9_bestMove_h47 f_now_pins f_now_places f_plan_chips f_plan_firsts f_plan_gates f_plan_inputs f_plan_registers f_plan_seconds f_plan_sourceSets Q  n47) n x1 x2 x3 x4 x5 f_sched_available f_sched_coming f_sched_lastSent f_sched_sent f_sched_taken f_sched_waiting f_sched_wanted → gW D s A (wC ad cI cZ f_keptSlots f_trace f_lastSeed f_text_letters f_text_length f_reader_place f_reader_greatestSource f_plan_chips f_plan_firstPins f_plan_firstPlaces f_plan_gates f_plan_inputs f_plan_registers f_plan_slowRegisters f_plan_kinds f_plan_firsts f_plan_seconds f_plan_clocks f_plan_sourceSets f_spare_chips f_spare_firstPins f_spare_firstPlaces f_spare_gates f_spare_inputs f_spare_registers f_spare_slowRegisters f_spare_kinds f_spare_firsts f_spare_seconds f_spare_clocks f_spare_sourceSets f_now_ones f_now_unknowns f_now_places f_now_pins f_now_count f_copy_ones f_copy_unknowns f_copy_places f_copy_pins f_copy_count f_logic_ones f_logic_unknowns f_logic_settled f_sched_available f_sched_wanted f_sched_coming f_sched_waiting f_sched_taken f_sched_sent f_sched_lastSent f_hist_next f_hist_held f_ring_cells f_kept_cells f_sight_steps f_sight_gates f_sight_values f_sight_truths f_sight_held X) H locs → lv_has ls 6 [(0, .ref (ad 33)), (1, .int x1), (2, .int x2), (3, .int x3), (4, .int x4), (5, .int x5)] → W p l e ({ frames := 5, cells := 0, slots := 0, locals := 118 } : Room) s m args below meth c H locs 0 0 Z (F0 m 62 ls []) := by
        intro n
        induction n with
        | zero => intro x1 x2 x3 x4 x5 f_sched_available f_sched_coming f_sched_lastSent f_sched_sent f_sched_taken f_sched_waiting f_sched_wanted H locs ls h; exact False.elim h
        | succ n62 ih62 =>
          intro x1 x2 x3 x4 x5 f_sched_available f_sched_coming f_sched_lastSent f_sched_sent f_sched_taken f_sched_waiting f_sched_wanted H locs ls h hw hl
          have h : wp_X9_bestMove_b62 f_now_pins f_now_places f_plan_chips f_plan_firsts f_plan_gates f_plan_inputs f_plan_registers f_plan_seconds f_plan_sourceSets Q (wp_X9_bestMove_h47 f_now_pins f_now_places f_plan_chips f_plan_firsts f_plan_gates f_plan_inputs f_plan_registers f_plan_seconds f_plan_sourceSets Q  n47) (wp_X9_bestMove_h62 f_now_pins f_now_places f_plan_chips f_plan_firsts f_plan_gates f_plan_inputs f_plan_registers f_plan_seconds f_plan_sourceSets Q (wp_X9_bestMove_h47 f_now_pins f_now_places f_plan_chips f_plan_firsts f_plan_gates f_plan_inputs f_plan_registers f_plan_seconds f_plan_sourceSets Q  n47) n62) x1 x2 x3 x4 x5 f_sched_available f_sched_coming f_sched_lastSent f_sched_sent f_sched_taken f_sched_waiting f_sched_wanted := h
          have J163 : ∀ (x1 : Int32) (x2 : Int32) (x3 : Int32) (x4 : Int32) (x5 : Int32) (f_sched_available : Nat → Int32) (f_sched_coming : Nat → Int32) (f_sched_lastSent : Int32) (f_sched_sent : Int32) (f_sched_taken : Int32) (f_sched_waiting : Int32) (f_sched_wanted : Nat → Int32) (H : Heap) (locs : List Loc) (ls : Array Slot), wp_X9_bestMove_b163 f_now_pins f_now_places f_plan_chips f_plan_firsts f_plan_gates f_plan_inputs f_plan_registers f_plan_seconds f_plan_sourceSets Q (wp_X9_bestMove_h47 f_now_pins f_now_places f_plan_chips f_plan_firsts f_plan_gates f_plan_inputs f_plan_registers f_plan_seconds f_plan_sourceSets Q  n47) (wp_X9_bestMove_h62 f_now_pins f_now_places f_plan_chips f_plan_firsts f_plan_gates f_plan_inputs f_plan_registers f_plan_seconds f_plan_sourceSets Q (wp_X9_bestMove_h47 f_now_pins f_now_places f_plan_chips f_plan_firsts f_plan_gates f_plan_inputs f_plan_registers f_plan_seconds f_plan_sourceSets Q  n47) n62) x1 x2 x3 x4 x5 f_sched_available f_sched_coming f_sched_lastSent f_sched_sent f_sched_taken f_sched_waiting f_sched_wanted → gW D s A (wC ad cI cZ f_keptSlots f_trace f_lastSeed f_text_letters f_text_length f_reader_place f_reader_greatestSource f_plan_chips f_plan_firstPins f_plan_firstPlaces f_plan_gates f_plan_inputs f_plan_registers f_plan_slowRegisters f_plan_kinds f_plan_firsts f_plan_seconds f_plan_clocks f_plan_sourceSets f_spare_chips f_spare_firstPins f_spare_firstPlaces f_spare_gates f_spare_inputs f_spare_registers f_spare_slowRegisters f_spare_kinds f_spare_firsts f_spare_seconds f_spare_clocks f_spare_sourceSets f_now_ones f_now_unknowns f_now_places f_now_pins f_now_count f_copy_ones f_copy_unknowns f_copy_places f_copy_pins f_copy_count f_logic_ones f_logic_unknowns f_logic_settled f_sched_available f_sched_wanted f_sched_coming f_sched_waiting f_sched_taken f_sched_sent f_sched_lastSent f_hist_next f_hist_held f_ring_cells f_kept_cells f_sight_steps f_sight_gates f_sight_values f_sight_truths f_sight_held X) H locs → lv_has ls 6 [(0, .ref (ad 33)), (1, .int x1), (2, .int x2), (3, .int x3), (4, .int x4), (5, .int x5)] → W p l e ({ frames := 5, cells := 0, slots := 0, locals := 118 } : Room) s m args below meth c H locs 0 0 Z (F0 m 163 ls []) := by
            intro x1 x2 x3 x4 x5 f_sched_available f_sched_coming f_sched_lastSent f_sched_sent f_sched_taken f_sched_waiting f_sched_wanted H locs ls h hw hl
            unfold wp_X9_bestMove_b163 at h
            obtain ⟨v1, ev1⟩ : ∃ y : Int32, y = x5 + 1 := ⟨_, rfl⟩
            have h := h v1 ev1
            refine lv_iinc (v := v1) (lv' := [(5, .int v1), (0, .ref (ad 33)), (1, .int x1), (2, .int x2), (3, .int x3), (4, .int x4)]) hx hb dX9_bestMove_163 hl (k := 5) rfl (by rw [ev1]; rfl) (by decide) rfl (fun ls hl => ?_)
            refine lv_goto (tgt := 62) hx hb dX9_bestMove_166 (by decide) ?_
            exact ih62 x1 x2 x3 x4 v1 f_sched_available f_sched_coming f_sched_lastSent f_sched_sent f_sched_taken f_sched_waiting f_sched_wanted _ _ _ h hw (lv_sub hl [1, 2, 3, 4, 5, 0] rfl)
          unfold wp_X9_bestMove_b62 at h
          refine lv_iload hx hb dX9_bestMove_62 (lv_at hl 5 rfl) ?_
          refine lv_aload_n hx hb dX9_bestMove_64 rfl (lv_at hl 0 rfl) ?_
          refine gC_X9_26_main E hw dX9_bestMove_65 ?_
          refine gC_X9_280_plan E hw dX9_bestMove_68 ?_
          refine lv_icmp_ge (tgt := 169) hx hb dX9_bestMove_71 (by decide) (fun c2 => ?_) (fun c2 => ?_)
          · have h := h.1 c2
            obtain ⟨v3, ev3⟩ : ∃ y : Int32, y = x4 + 1 := ⟨_, rfl⟩
            have h := h v3 ev3
            refine lv_iinc (v := v3) (lv' := [(4, .int v3), (0, .ref (ad 33)), (1, .int x1), (2, .int x2), (3, .int x3), (5, .int x5)]) hx hb dX9_bestMove_169 hl (k := 4) rfl (by rw [ev3]; rfl) (by decide) rfl (fun ls hl => ?_)
            refine lv_goto (tgt := 47) hx hb dX9_bestMove_172 (by decide) ?_
            exact ih47 x1 x2 x3 v3 f_sched_available f_sched_coming f_sched_lastSent f_sched_sent f_sched_taken f_sched_waiting f_sched_wanted _ _ _ h hw (lv_sub hl [1, 2, 3, 4, 0] rfl)
          · have h := h.2 c2
            refine lv_iload hx hb dX9_bestMove_74 (lv_at hl 5 rfl) ?_
            refine lv_aload_n hx hb dX9_bestMove_76 rfl (lv_at hl 0 rfl) ?_
            refine gC_X9_36_main E hw dX9_bestMove_77 ?_
            refine gC_X9_120_now E hw dX9_bestMove_80 ?_
            refine lv_iload hx hb dX9_bestMove_83 (lv_at hl 4 rfl) ?_
            refine g_aI E hw (g_rS E hw (c_X9_chipIn h _) ym_X9_chipIn k_280 ⟨rfl, rfl⟩ ⟨Nat.le_of_ble_eq_true rfl, Nat.le_of_ble_eq_true rfl⟩ rfl hl.1 rfl (Nat.le_of_ble_eq_true rfl) ⟨Nat.zero_le _, Nat.zero_le _⟩ dX9_bestMove_85) (fun r4 u H locs hq hw => ?_)
            obtain ⟨hu, h⟩ := hq
            rw [hu] at hw
            refine lv_icmp_ne (tgt := 94) hx hb dX9_bestMove_88 (by decide) (fun c5 => ?_) (fun c5 => ?_)
            · have h := h.1 c5
              refine lv_aload_n hx hb dX9_bestMove_94 rfl (lv_at hl 0 rfl) ?_
              refine gC_X9_53_main E hw dX9_bestMove_95 ?_
              refine lv_aload_n hx hb dX9_bestMove_98 rfl (lv_at hl 0 rfl) ?_
              refine gC_X9_26_main E hw dX9_bestMove_99 ?_
              refine lv_aload_n hx hb dX9_bestMove_102 rfl (lv_at hl 0 rfl) ?_
              refine gC_X9_36_main E hw dX9_bestMove_103 ?_
              refine gC_X9_120_now E hw dX9_bestMove_106 ?_
              refine lv_iload hx hb dX9_bestMove_109 (lv_at hl 4 rfl) ?_
              refine lv_iload hx hb dX9_bestMove_111 (lv_at hl 5 rfl) ?_
              refine g_aI E hw (g_rS E hw (c_X9_placed h _) ym_X9_placed k_372 ⟨rfl, rfl⟩ ⟨Nat.le_of_ble_eq_true rfl, Nat.le_of_ble_eq_true rfl⟩ rfl hl.1 rfl (Nat.le_of_ble_eq_true rfl) ⟨Nat.zero_le _, Nat.zero_le _⟩ dX9_bestMove_113) (fun r6 u H locs hq hw => ?_)
              obtain ⟨hu, h⟩ := hq
              rw [hu] at hw
              refine lv_aload_n hx hb dX9_bestMove_116 rfl (lv_at hl 0 rfl) ?_
              refine gC_X9_36_main E hw dX9_bestMove_117 ?_
              refine gC_X9_180_now E hw dX9_bestMove_120 ?_
              refine g_aV E hw (g_rV E hw (c_X4_run_plan h _) ym_X4_run k_457 ⟨rfl, rfl⟩ ⟨Nat.le_of_ble_eq_true rfl, Nat.le_of_ble_eq_true rfl⟩ 14 rfl rfl rfl rfl hl.1 rfl (Nat.le_of_ble_eq_true rfl) ⟨Nat.zero_le _, Nat.zero_le _⟩ dX9_bestMove_123) (fun u H locs hq hw => ?_)
              obtain ⟨y8, y9, y10, y11, y12, y13, y14, hu, h⟩ := hq
              rw [hu] at hw
              refine lv_aload_n hx hb dX9_bestMove_126 rfl (lv_at hl 0 rfl) ?_
              refine gC_X9_53_main E hw dX9_bestMove_127 ?_
              refine lv_iload_n hx hb dX9_bestMove_130 rfl (lv_at hl 2 rfl) ?_
              refine lv_iload_n hx hb dX9_bestMove_131 rfl (lv_at hl 3 rfl) ?_
              refine g_aI E hw (g_rV E hw (c_X4_isBelow h _) ym_X4_isBelow k_461 ⟨rfl, rfl⟩ ⟨Nat.le_of_ble_eq_true rfl, Nat.le_of_ble_eq_true rfl⟩ 14 rfl rfl rfl rfl hl.1 rfl (Nat.le_of_ble_eq_true rfl) ⟨Nat.zero_le _, Nat.zero_le _⟩ dX9_bestMove_132) (fun r15 u H locs hq hw => ?_)
              obtain ⟨hu, h⟩ := hq
              rw [hu] at hw
              refine lv_if_eq (tgt := 163) hx hb dX9_bestMove_135 (by decide) (fun c16 => ?_) (fun c16 => ?_)
              · have h := h.1 c16
                exact J163 x1 x2 x3 x4 x5 y8 y9 y10 y11 y12 y13 y14 _ _ _ h hw (lv_sub hl [0, 1, 2, 3, 4, 5] rfl)
              · have h := h.2 c16
                refine lv_bipush (v := 10) hx hb dX9_bestMove_138 (by decide) ?_
                refine lv_iload hx hb dX9_bestMove_140 (lv_at hl 4 rfl) ?_
                refine lv_imul hx hb dX9_bestMove_142 ?_
                refine lv_iload hx hb dX9_bestMove_143 (lv_at hl 5 rfl) ?_
                refine lv_iadd hx hb dX9_bestMove_145 ?_
                refine lv_topi (fun v17 ev17 => ?_)
                have h := h v17 ev17
                refine lv_istore_n (lv' := [(1, .int v17), (0, .ref (ad 33)), (2, .int x2), (3, .int x3), (4, .int x4), (5, .int x5)]) hx hb dX9_bestMove_146 rfl hl (by decide) rfl (fun ls hl => ?_)
                refine lv_aload_n hx hb dX9_bestMove_147 rfl (lv_at hl 1 rfl) ?_
                refine gC_X9_53_main E hw dX9_bestMove_148 ?_
                refine gC_X9_210_sched E hw dX9_bestMove_151 ?_
                refine lv_istore_n (lv' := [(2, .int y12), (1, .int v17), (0, .ref (ad 33)), (3, .int x3), (4, .int x4), (5, .int x5)]) hx hb dX9_bestMove_154 rfl hl (by decide) rfl (fun ls hl => ?_)
                refine lv_aload_n hx hb dX9_bestMove_155 rfl (lv_at hl 2 rfl) ?_
                refine gC_X9_53_main E hw dX9_bestMove_156 ?_
                refine gC_X9_213_sched E hw dX9_bestMove_159 ?_
                refine lv_istore_n (lv' := [(3, .int y11), (2, .int y12), (1, .int v17), (0, .ref (ad 33)), (4, .int x4), (5, .int x5)]) hx hb dX9_bestMove_162 rfl hl (by decide) rfl (fun ls hl => ?_)
                exact J163 v17 y12 y11 x4 x5 y8 y9 y10 y11 y12 y13 y14 _ _ _ h hw (lv_sub hl [3, 2, 1, 0, 4, 5] rfl)
            · have h := h.2 c5
              refine lv_goto (tgt := 163) hx hb dX9_bestMove_91 (by decide) ?_
              exact J163 x1 x2 x3 x4 x5 f_sched_available f_sched_coming f_sched_lastSent f_sched_sent f_sched_taken f_sched_waiting f_sched_wanted _ _ _ h hw (lv_sub hl [0, 1, 2, 3, 4, 5] rfl)
      unfold wp_X9_bestMove_b47 at h
      refine lv_iload hx hb dX9_bestMove_47 (lv_at hl 4 rfl) ?_
      refine lv_aload_n hx hb dX9_bestMove_49 rfl (lv_at hl 0 rfl) ?_
      refine gC_X9_26_main E hw dX9_bestMove_50 ?_
      refine gC_X9_110_plan E hw dX9_bestMove_53 ?_
      refine lv_icmp_ge (tgt := 175) hx hb dX9_bestMove_56 (by decide) (fun c18 => ?_) (fun c18 => ?_)
      · have h := h.1 c18
        refine lv_iload_n hx hb dX9_bestMove_175 rfl (lv_at hl 1 rfl) ?_
        exact hret _ _ _ _ _ _ ⟨_, _, _, _, _, _, _, rfl, h⟩ hw dX9_bestMove_176
      · have h := h.2 c18
        refine lv_iconst (v := 0) hx hb dX9_bestMove_59 (by decide) ?_
        refine lv_istore (lv' := [(5, .int (0 : Int32)), (0, .ref (ad 33)), (1, .int x1), (2, .int x2), (3, .int x3), (4, .int x4)]) hx hb dX9_bestMove_60 hl (by decide) rfl (fun ls hl => ?_)
        obtain ⟨n, h⟩ := h
        exact L62 n x1 x2 x3 x4 (0 : Int32) f_sched_available f_sched_coming f_sched_lastSent f_sched_sent f_sched_taken f_sched_waiting f_sched_wanted _ _ _ h hw (lv_sub hl [1, 2, 3, 4, 5, 0] rfl)
  unfold wp_X9_bestMove at h
  refine lv_aload_n hx hb dX9_bestMove_0 rfl (lv_at hl 0 rfl) ?_
  refine gC_X9_53_main E hw dX9_bestMove_1 ?_
  refine lv_aload_n hx hb dX9_bestMove_4 rfl (lv_at hl 0 rfl) ?_
  refine gC_X9_26_main E hw dX9_bestMove_5 ?_
  refine lv_aload_n hx hb dX9_bestMove_8 rfl (lv_at hl 0 rfl) ?_
  refine gC_X9_36_main E hw dX9_bestMove_9 ?_
  refine gC_X9_120_now E hw dX9_bestMove_12 ?_
  refine lv_aload_n hx hb dX9_bestMove_15 rfl (lv_at hl 0 rfl) ?_
  refine gC_X9_36_main E hw dX9_bestMove_16 ?_
  refine gC_X9_180_now E hw dX9_bestMove_19 ?_
  refine g_aV E hw (g_rV E hw (c_X4_run_plan h _) ym_X4_run k_457 ⟨rfl, rfl⟩ ⟨Nat.le_of_ble_eq_true rfl, Nat.le_of_ble_eq_true rfl⟩ 14 rfl rfl rfl rfl hl.1 rfl (Nat.le_of_ble_eq_true rfl) ⟨Nat.zero_le _, Nat.zero_le _⟩ dX9_bestMove_22) (fun u H locs hq hw => ?_)
  obtain ⟨y20, y21, y22, y23, y24, y25, y26, hu, h⟩ := hq
  rw [hu] at hw
  refine lv_bipush (v := 100) hx hb dX9_bestMove_25 (by decide) ?_
  refine lv_istore_n (lv' := [(1, .int (100 : Int32)), (0, .ref (ad 33))]) hx hb dX9_bestMove_27 rfl hl (by decide) rfl (fun ls hl => ?_)
  refine lv_aload_n hx hb dX9_bestMove_28 rfl (lv_at hl 1 rfl) ?_
  refine gC_X9_53_main E hw dX9_bestMove_29 ?_
  refine gC_X9_210_sched E hw dX9_bestMove_32 ?_
  refine lv_istore_n (lv' := [(2, .int y24), (1, .int (100 : Int32)), (0, .ref (ad 33))]) hx hb dX9_bestMove_35 rfl hl (by decide) rfl (fun ls hl => ?_)
  refine lv_aload_n hx hb dX9_bestMove_36 rfl (lv_at hl 2 rfl) ?_
  refine gC_X9_53_main E hw dX9_bestMove_37 ?_
  refine gC_X9_213_sched E hw dX9_bestMove_40 ?_
  refine lv_istore_n (lv' := [(3, .int y23), (2, .int y24), (1, .int (100 : Int32)), (0, .ref (ad 33))]) hx hb dX9_bestMove_43 rfl hl (by decide) rfl (fun ls hl => ?_)
  refine lv_iconst (v := 0) hx hb dX9_bestMove_44 (by decide) ?_
  refine lv_istore (lv' := [(4, .int (0 : Int32)), (3, .int y23), (2, .int y24), (1, .int (100 : Int32)), (0, .ref (ad 33))]) hx hb dX9_bestMove_45 hl (by decide) rfl (fun ls hl => ?_)
  obtain ⟨n, h⟩ := h
  exact L47 n (100 : Int32) y24 y23 (0 : Int32) y20 y21 y22 y23 y24 y25 y26 _ _ _ h hw (lv_sub hl [4, 3, 2, 1, 0] rfl)
set_option maxRecDepth 100000 in
set_option maxHeartbeats 4000000 in
theorem c_X9_slots {l : Launch} {D : va_G} {cI cZ : ClassId} {ad : Nat → Nat} {f_keptSlots : Int32} {f_trace : Nat → Int32} {f_lastSeed : Int64} {f_text_letters : Nat → Int32} {f_text_length : Int32} {f_reader_place : Int32} {f_reader_greatestSource : Int32} {f_plan_chips : Int32} {f_plan_firstPins : Int32} {f_plan_firstPlaces : Int32} {f_plan_gates : Int32} {f_plan_inputs : Int32} {f_plan_registers : Int32} {f_plan_slowRegisters : Int32} {f_plan_kinds : Nat → Int32} {f_plan_firsts : Nat → Int32} {f_plan_seconds : Nat → Int32} {f_plan_clocks : Nat → Int32} {f_plan_sourceSets : Nat → Int32} {f_spare_chips : Int32} {f_spare_firstPins : Int32} {f_spare_firstPlaces : Int32} {f_spare_gates : Int32} {f_spare_inputs : Int32} {f_spare_registers : Int32} {f_spare_slowRegisters : Int32} {f_spare_kinds : Nat → Int32} {f_spare_firsts : Nat → Int32} {f_spare_seconds : Nat → Int32} {f_spare_clocks : Nat → Int32} {f_spare_sourceSets : Nat → Int32} {f_now_ones : Int32} {f_now_unknowns : Int32} {f_now_places : Int32} {f_now_pins : Int32} {f_now_count : Int32} {f_copy_ones : Int32} {f_copy_unknowns : Int32} {f_copy_places : Int32} {f_copy_pins : Int32} {f_copy_count : Int32} {f_logic_ones : Int32} {f_logic_unknowns : Int32} {f_logic_settled : Int32} {f_sched_available : Nat → Int32} {f_sched_wanted : Nat → Int32} {f_sched_coming : Nat → Int32} {f_sched_waiting : Int32} {f_sched_taken : Int32} {f_sched_sent : Int32} {f_sched_lastSent : Int32} {f_hist_next : Int32} {f_hist_held : Int32} {f_ring_cells : Nat → Int32} {f_kept_cells : Nat → Int32} {f_sight_steps : Nat → Int32} {f_sight_gates : Nat → Int32} {f_sight_values : Nat → Int32} {f_sight_truths : Nat → Int32} {f_sight_held : Int32} {X : va_W} {p1 : Int32} {Q : Int32 → (Nat → Int32) → (Nat → Int32) → Int32 → Int32 → Int32 → Int32 → (Nat → Int32) → Prop} (h : wp_X9_slots f_now_pins f_now_places f_plan_chips f_plan_firsts f_plan_gates f_plan_inputs f_plan_registers f_plan_seconds f_plan_sourceSets f_sched_available f_sched_coming f_sched_lastSent f_sched_sent f_sched_taken f_sched_waiting f_sched_wanted p1 Q) : CtI l yX9_slots cX9_slots 2 (some .int) ({ frames := 6, cells := 0, slots := 0, locals := 143 } : Room) D [(cI, .int), (cZ, .boolean)] [.ref (ad 33), .int p1] (wC ad cI cZ f_keptSlots f_trace f_lastSeed f_text_letters f_text_length f_reader_place f_reader_greatestSource f_plan_chips f_plan_firstPins f_plan_firstPlaces f_plan_gates f_plan_inputs f_plan_registers f_plan_slowRegisters f_plan_kinds f_plan_firsts f_plan_seconds f_plan_clocks f_plan_sourceSets f_spare_chips f_spare_firstPins f_spare_firstPlaces f_spare_gates f_spare_inputs f_spare_registers f_spare_slowRegisters f_spare_kinds f_spare_firsts f_spare_seconds f_spare_clocks f_spare_sourceSets f_now_ones f_now_unknowns f_now_places f_now_pins f_now_count f_copy_ones f_copy_unknowns f_copy_places f_copy_pins f_copy_count f_logic_ones f_logic_unknowns f_logic_settled f_sched_available f_sched_wanted f_sched_coming f_sched_waiting f_sched_taken f_sched_sent f_sched_lastSent f_hist_next f_hist_held f_ring_cells f_kept_cells f_sight_steps f_sight_gates f_sight_values f_sight_truths f_sight_held X) (fun r u => ∃ w0 w1 w2 w3 w4 w5 w6, u = (wC ad cI cZ f_keptSlots f_trace f_lastSeed f_text_letters f_text_length f_reader_place f_reader_greatestSource f_plan_chips f_plan_firstPins f_plan_firstPlaces f_plan_gates f_plan_inputs f_plan_registers f_plan_slowRegisters f_plan_kinds f_plan_firsts f_plan_seconds f_plan_clocks f_plan_sourceSets f_spare_chips f_spare_firstPins f_spare_firstPlaces f_spare_gates f_spare_inputs f_spare_registers f_spare_slowRegisters f_spare_kinds f_spare_firsts f_spare_seconds f_spare_clocks f_spare_sourceSets f_now_ones f_now_unknowns f_now_places f_now_pins f_now_count f_copy_ones f_copy_unknowns f_copy_places f_copy_pins f_copy_count f_logic_ones f_logic_unknowns f_logic_settled w0 w6 w1 w5 w4 w3 w2 f_hist_next f_hist_held f_ring_cells f_kept_cells f_sight_steps f_sight_gates f_sight_values f_sight_truths f_sight_held X) ∧ Q r w0 w1 w2 w3 w4 w5 w6) := by
  refine CtI.of (by decide) rfl (Nat.le_of_ble_eq_true rfl) ?_
  intro p e s m args below meth c A Z E hret ls hl hw
  have E : gE p m c cX9_slots 2 s args RX9 D [(cI, .int), (cZ, .boolean)] A := E
  have hx := E.1.1
  have hb := E.1.2.1
  have hl : lv_has ls 2 [(0, .ref (ad 33)), (1, .int p1)] := hl
  unfold wp_X9_slots at h
  refine lv_iload_n hx hb dX9_slots_0 rfl (lv_at hl 1 rfl) ?_
  refine lv_if_lt (tgt := 9) hx hb dX9_slots_1 (by decide) (fun c1 => ?_) (fun c1 => ?_)
  · have h := h.1 c1
    refine lv_bipush (v := -2) hx hb dX9_slots_9 (by decide) ?_
    exact hret _ _ _ _ _ _ ⟨_, _, _, _, _, _, _, rfl, h⟩ hw dX9_slots_11
  · have h := h.2 c1
    refine lv_iload_n hx hb dX9_slots_4 rfl (lv_at hl 1 rfl) ?_
    refine lv_iconst (v := 3) hx hb dX9_slots_5 (by decide) ?_
    refine lv_icmp_le (tgt := 12) hx hb dX9_slots_6 (by decide) (fun c2 => ?_) (fun c2 => ?_)
    · have h := h.1 c2
      refine lv_iload_n hx hb dX9_slots_12 rfl (lv_at hl 1 rfl) ?_
      refine lv_iconst (v := 3) hx hb dX9_slots_13 (by decide) ?_
      refine lv_icmp_ne (tgt := 22) hx hb dX9_slots_14 (by decide) (fun c3 => ?_) (fun c3 => ?_)
      · have h := h.1 c3
        refine lv_aload_n hx hb dX9_slots_22 rfl (lv_at hl 0 rfl) ?_
        refine gC_X9_53_main E hw dX9_slots_23 ?_
        refine lv_aload_n hx hb dX9_slots_26 rfl (lv_at hl 0 rfl) ?_
        refine gC_X9_26_main E hw dX9_slots_27 ?_
        refine lv_aload_n hx hb dX9_slots_30 rfl (lv_at hl 0 rfl) ?_
        refine gC_X9_36_main E hw dX9_slots_31 ?_
        refine gC_X9_120_now E hw dX9_slots_34 ?_
        refine lv_aload_n hx hb dX9_slots_37 rfl (lv_at hl 0 rfl) ?_
        refine gC_X9_36_main E hw dX9_slots_38 ?_
        refine gC_X9_180_now E hw dX9_slots_41 ?_
        refine g_aV E hw (g_rV E hw (c_X4_run_plan h _) ym_X4_run k_457 ⟨rfl, rfl⟩ ⟨Nat.le_of_ble_eq_true rfl, Nat.le_of_ble_eq_true rfl⟩ 14 rfl rfl rfl rfl hl.1 rfl (Nat.le_of_ble_eq_true rfl) ⟨Nat.zero_le _, Nat.zero_le _⟩ dX9_slots_44) (fun u H locs hq hw => ?_)
        obtain ⟨y5, y6, y7, y8, y9, y10, y11, hu, h⟩ := hq
        rw [hu] at hw
        refine lv_iload_n hx hb dX9_slots_47 rfl (lv_at hl 1 rfl) ?_
        refine lv_if_ne (tgt := 59) hx hb dX9_slots_48 (by decide) (fun c12 => ?_) (fun c12 => ?_)
        · have h := h.1 c12
          refine lv_iload_n hx hb dX9_slots_59 rfl (lv_at hl 1 rfl) ?_
          refine lv_iconst (v := 1) hx hb dX9_slots_60 (by decide) ?_
          refine lv_icmp_ne (tgt := 74) hx hb dX9_slots_61 (by decide) (fun c13 => ?_) (fun c13 => ?_)
          · have h := h.1 c13
            refine lv_aload_n hx hb dX9_slots_74 rfl (lv_at hl 0 rfl) ?_
            refine gC_X9_53_main E hw dX9_slots_75 ?_
            refine gC_X9_216_sched E hw dX9_slots_78 ?_
            refine g_aI E hw (g_rS E hw (c_X9_greatestOf h _) ym_X9_greatestOf k_465 ⟨rfl, rfl⟩ ⟨Nat.le_of_ble_eq_true rfl, Nat.le_of_ble_eq_true rfl⟩ rfl hl.1 rfl (Nat.le_of_ble_eq_true rfl) ⟨Nat.zero_le _, Nat.zero_le _⟩ dX9_slots_81) (fun r14 u H locs hq hw => ?_)
            obtain ⟨hu, h⟩ := hq
            rw [hu] at hw
            exact hret _ _ _ _ _ _ ⟨_, _, _, _, _, _, _, rfl, h⟩ hw dX9_slots_84
          · have h := h.2 c13
            refine lv_aload_n hx hb dX9_slots_64 rfl (lv_at hl 0 rfl) ?_
            refine gC_X9_53_main E hw dX9_slots_65 ?_
            refine gC_X9_213_sched E hw dX9_slots_68 ?_
            refine lv_goto (tgt := 84) hx hb dX9_slots_71 (by decide) ?_
            exact hret _ _ _ _ _ _ ⟨_, _, _, _, _, _, _, rfl, h⟩ hw dX9_slots_84
        · have h := h.2 c12
          refine lv_aload_n hx hb dX9_slots_51 rfl (lv_at hl 0 rfl) ?_
          refine gC_X9_53_main E hw dX9_slots_52 ?_
          refine gC_X9_210_sched E hw dX9_slots_55 ?_
          exact hret _ _ _ _ _ _ ⟨_, _, _, _, _, _, _, rfl, h⟩ hw dX9_slots_58
      · have h := h.2 c3
        refine lv_aload_n hx hb dX9_slots_17 rfl (lv_at hl 0 rfl) ?_
        refine g_aI E hw (g_rV E hw (c_X9_bestMove h _) ym_X9_bestMove k_454 ⟨rfl, rfl⟩ ⟨Nat.le_of_ble_eq_true rfl, Nat.le_of_ble_eq_true rfl⟩ 33 rfl rfl rfl rfl hl.1 rfl (Nat.le_of_ble_eq_true rfl) ⟨Nat.zero_le _, Nat.zero_le _⟩ dX9_slots_18) (fun r15 u H locs hq hw => ?_)
        obtain ⟨y16, y17, y18, y19, y20, y21, y22, hu, h⟩ := hq
        rw [hu] at hw
        exact hret _ _ _ _ _ _ ⟨_, _, _, _, _, _, _, rfl, h⟩ hw dX9_slots_21
    · have h := h.2 c2
      refine lv_bipush (v := -2) hx hb dX9_slots_9 (by decide) ?_
      exact hret _ _ _ _ _ _ ⟨_, _, _, _, _, _, _, rfl, h⟩ hw dX9_slots_11
set_option maxRecDepth 100000 in
set_option maxHeartbeats 4000000 in
theorem c_X9_fewest {l : Launch} {D : va_G} {cI cZ : ClassId} {ad : Nat → Nat} {f_keptSlots : Int32} {f_trace : Nat → Int32} {f_lastSeed : Int64} {f_text_letters : Nat → Int32} {f_text_length : Int32} {f_reader_place : Int32} {f_reader_greatestSource : Int32} {f_plan_chips : Int32} {f_plan_firstPins : Int32} {f_plan_firstPlaces : Int32} {f_plan_gates : Int32} {f_plan_inputs : Int32} {f_plan_registers : Int32} {f_plan_slowRegisters : Int32} {f_plan_kinds : Nat → Int32} {f_plan_firsts : Nat → Int32} {f_plan_seconds : Nat → Int32} {f_plan_clocks : Nat → Int32} {f_plan_sourceSets : Nat → Int32} {f_spare_chips : Int32} {f_spare_firstPins : Int32} {f_spare_firstPlaces : Int32} {f_spare_gates : Int32} {f_spare_inputs : Int32} {f_spare_registers : Int32} {f_spare_slowRegisters : Int32} {f_spare_kinds : Nat → Int32} {f_spare_firsts : Nat → Int32} {f_spare_seconds : Nat → Int32} {f_spare_clocks : Nat → Int32} {f_spare_sourceSets : Nat → Int32} {f_now_ones : Int32} {f_now_unknowns : Int32} {f_now_places : Int32} {f_now_pins : Int32} {f_now_count : Int32} {f_copy_ones : Int32} {f_copy_unknowns : Int32} {f_copy_places : Int32} {f_copy_pins : Int32} {f_copy_count : Int32} {f_logic_ones : Int32} {f_logic_unknowns : Int32} {f_logic_settled : Int32} {f_sched_available : Nat → Int32} {f_sched_wanted : Nat → Int32} {f_sched_coming : Nat → Int32} {f_sched_waiting : Int32} {f_sched_taken : Int32} {f_sched_sent : Int32} {f_sched_lastSent : Int32} {f_hist_next : Int32} {f_hist_held : Int32} {f_ring_cells : Nat → Int32} {f_kept_cells : Nat → Int32} {f_sight_steps : Nat → Int32} {f_sight_gates : Nat → Int32} {f_sight_values : Nat → Int32} {f_sight_truths : Nat → Int32} {f_sight_held : Int32} {X : va_W} {p1 : Int32} {Q : Int32 → (Nat → Int32) → (Nat → Int32) → Int32 → Int32 → Int32 → Int32 → (Nat → Int32) → Prop} (h : wp_X9_fewest f_now_places f_plan_chips f_plan_firsts f_plan_gates f_plan_inputs f_plan_registers f_plan_seconds f_plan_sourceSets f_sched_available f_sched_coming f_sched_lastSent f_sched_sent f_sched_taken f_sched_waiting f_sched_wanted p1 Q) : CtI l yX9_fewest cX9_fewest 3 (some .int) ({ frames := 5, cells := 0, slots := 0, locals := 118 } : Room) D [(cI, .int), (cZ, .boolean)] [.ref (ad 33), .int p1] (wC ad cI cZ f_keptSlots f_trace f_lastSeed f_text_letters f_text_length f_reader_place f_reader_greatestSource f_plan_chips f_plan_firstPins f_plan_firstPlaces f_plan_gates f_plan_inputs f_plan_registers f_plan_slowRegisters f_plan_kinds f_plan_firsts f_plan_seconds f_plan_clocks f_plan_sourceSets f_spare_chips f_spare_firstPins f_spare_firstPlaces f_spare_gates f_spare_inputs f_spare_registers f_spare_slowRegisters f_spare_kinds f_spare_firsts f_spare_seconds f_spare_clocks f_spare_sourceSets f_now_ones f_now_unknowns f_now_places f_now_pins f_now_count f_copy_ones f_copy_unknowns f_copy_places f_copy_pins f_copy_count f_logic_ones f_logic_unknowns f_logic_settled f_sched_available f_sched_wanted f_sched_coming f_sched_waiting f_sched_taken f_sched_sent f_sched_lastSent f_hist_next f_hist_held f_ring_cells f_kept_cells f_sight_steps f_sight_gates f_sight_values f_sight_truths f_sight_held X) (fun r u => ∃ w0 w1 w2 w3 w4 w5 w6, u = (wC ad cI cZ f_keptSlots f_trace f_lastSeed f_text_letters f_text_length f_reader_place f_reader_greatestSource f_plan_chips f_plan_firstPins f_plan_firstPlaces f_plan_gates f_plan_inputs f_plan_registers f_plan_slowRegisters f_plan_kinds f_plan_firsts f_plan_seconds f_plan_clocks f_plan_sourceSets f_spare_chips f_spare_firstPins f_spare_firstPlaces f_spare_gates f_spare_inputs f_spare_registers f_spare_slowRegisters f_spare_kinds f_spare_firsts f_spare_seconds f_spare_clocks f_spare_sourceSets f_now_ones f_now_unknowns f_now_places f_now_pins f_now_count f_copy_ones f_copy_unknowns f_copy_places f_copy_pins f_copy_count f_logic_ones f_logic_unknowns f_logic_settled w0 w6 w1 w5 w4 w3 w2 f_hist_next f_hist_held f_ring_cells f_kept_cells f_sight_steps f_sight_gates f_sight_values f_sight_truths f_sight_held X) ∧ Q r w0 w1 w2 w3 w4 w5 w6) := by
  refine CtI.of (by decide) rfl (Nat.le_of_ble_eq_true rfl) ?_
  intro p e s m args below meth c A Z E hret ls hl hw
  have E : gE p m c cX9_fewest 3 s args RX9 D [(cI, .int), (cZ, .boolean)] A := E
  have hx := E.1.1
  have hb := E.1.2.1
  have hl : lv_has ls 3 [(0, .ref (ad 33)), (1, .int p1)] := hl
  have L16 : ∀ (n : Nat) (x2 : Int32) (f_sched_available : Nat → Int32) (f_sched_coming : Nat → Int32) (f_sched_lastSent : Int32) (f_sched_sent : Int32) (f_sched_taken : Int32) (f_sched_waiting : Int32) (f_sched_wanted : Nat → Int32) (H : Heap) (locs : List Loc) (ls : Array Slot), wp_X9_fewest_h16 f_now_places f_plan_chips f_plan_firsts f_plan_gates f_plan_inputs f_plan_registers f_plan_seconds f_plan_sourceSets p1 Q  n x2 f_sched_available f_sched_coming f_sched_lastSent f_sched_sent f_sched_taken f_sched_waiting f_sched_wanted → gW D s A (wC ad cI cZ f_keptSlots f_trace f_lastSeed f_text_letters f_text_length f_reader_place f_reader_greatestSource f_plan_chips f_plan_firstPins f_plan_firstPlaces f_plan_gates f_plan_inputs f_plan_registers f_plan_slowRegisters f_plan_kinds f_plan_firsts f_plan_seconds f_plan_clocks f_plan_sourceSets f_spare_chips f_spare_firstPins f_spare_firstPlaces f_spare_gates f_spare_inputs f_spare_registers f_spare_slowRegisters f_spare_kinds f_spare_firsts f_spare_seconds f_spare_clocks f_spare_sourceSets f_now_ones f_now_unknowns f_now_places f_now_pins f_now_count f_copy_ones f_copy_unknowns f_copy_places f_copy_pins f_copy_count f_logic_ones f_logic_unknowns f_logic_settled f_sched_available f_sched_wanted f_sched_coming f_sched_waiting f_sched_taken f_sched_sent f_sched_lastSent f_hist_next f_hist_held f_ring_cells f_kept_cells f_sight_steps f_sight_gates f_sight_values f_sight_truths f_sight_held X) H locs → lv_has ls 3 [(0, .ref (ad 33)), (1, .int p1), (2, .int x2)] → W p l e ({ frames := 5, cells := 0, slots := 0, locals := 118 } : Room) s m args below meth c H locs 0 0 Z (F0 m 16 ls []) := by
    intro n
    induction n with
    | zero => intro x2 f_sched_available f_sched_coming f_sched_lastSent f_sched_sent f_sched_taken f_sched_waiting f_sched_wanted H locs ls h; exact False.elim h
    | succ n16 ih16 =>
      intro x2 f_sched_available f_sched_coming f_sched_lastSent f_sched_sent f_sched_taken f_sched_waiting f_sched_wanted H locs ls h hw hl
      have h : wp_X9_fewest_b16 f_now_places f_plan_chips f_plan_firsts f_plan_gates f_plan_inputs f_plan_registers f_plan_seconds f_plan_sourceSets p1 Q (wp_X9_fewest_h16 f_now_places f_plan_chips f_plan_firsts f_plan_gates f_plan_inputs f_plan_registers f_plan_seconds f_plan_sourceSets p1 Q  n16) x2 f_sched_available f_sched_coming f_sched_lastSent f_sched_sent f_sched_taken f_sched_waiting f_sched_wanted := h
      unfold wp_X9_fewest_b16 at h
      refine lv_iload_n hx hb dX9_fewest_16 rfl (lv_at hl 2 rfl) ?_
      refine lv_bipush (v := 9) hx hb dX9_fewest_17 (by decide) ?_
      refine lv_icmp_gt (tgt := 60) hx hb dX9_fewest_19 (by decide) (fun c1 => ?_) (fun c1 => ?_)
      · have h := h.1 c1
        refine lv_bipush (v := -9) hx hb dX9_fewest_60 (by decide) ?_
        exact hret _ _ _ _ _ _ ⟨_, _, _, _, _, _, _, rfl, h⟩ hw dX9_fewest_62
      · have h := h.2 c1
        refine lv_aload_n hx hb dX9_fewest_22 rfl (lv_at hl 0 rfl) ?_
        refine gC_X9_53_main E hw dX9_fewest_23 ?_
        refine lv_aload_n hx hb dX9_fewest_26 rfl (lv_at hl 0 rfl) ?_
        refine gC_X9_26_main E hw dX9_fewest_27 ?_
        refine lv_aload_n hx hb dX9_fewest_30 rfl (lv_at hl 0 rfl) ?_
        refine gC_X9_36_main E hw dX9_fewest_31 ?_
        refine gC_X9_120_now E hw dX9_fewest_34 ?_
        refine lv_iload_n hx hb dX9_fewest_37 rfl (lv_at hl 2 rfl) ?_
        refine g_aV E hw (g_rV E hw (c_X4_run_plan h _) ym_X4_run k_457 ⟨rfl, rfl⟩ ⟨Nat.le_of_ble_eq_true rfl, Nat.le_of_ble_eq_true rfl⟩ 14 rfl rfl rfl rfl hl.1 rfl (Nat.le_of_ble_eq_true rfl) ⟨Nat.zero_le _, Nat.zero_le _⟩ dX9_fewest_38) (fun u H locs hq hw => ?_)
        obtain ⟨y3, y4, y5, y6, y7, y8, y9, hu, h⟩ := hq
        rw [hu] at hw
        refine lv_aload_n hx hb dX9_fewest_41 rfl (lv_at hl 0 rfl) ?_
        refine gC_X9_53_main E hw dX9_fewest_42 ?_
        refine gC_X9_210_sched E hw dX9_fewest_45 ?_
        refine lv_iload_n hx hb dX9_fewest_48 rfl (lv_at hl 1 rfl) ?_
        refine lv_icmp_gt (tgt := 54) hx hb dX9_fewest_49 (by decide) (fun c10 => ?_) (fun c10 => ?_)
        · have h := h.1 c10
          obtain ⟨v11, ev11⟩ : ∃ y : Int32, y = x2 + 1 := ⟨_, rfl⟩
          have h := h v11 ev11
          refine lv_iinc (v := v11) (lv' := [(2, .int v11), (0, .ref (ad 33)), (1, .int p1)]) hx hb dX9_fewest_54 hl (k := 2) rfl (by rw [ev11]; rfl) (by decide) rfl (fun ls hl => ?_)
          refine lv_goto (tgt := 16) hx hb dX9_fewest_57 (by decide) ?_
          exact ih16 v11 y3 y4 y5 y6 y7 y8 y9 _ _ _ h hw (lv_sub hl [1, 2, 0] rfl)
        · have h := h.2 c10
          refine lv_iload_n hx hb dX9_fewest_52 rfl (lv_at hl 2 rfl) ?_
          exact hret _ _ _ _ _ _ ⟨_, _, _, _, _, _, _, rfl, h⟩ hw dX9_fewest_53
  unfold wp_X9_fewest at h
  refine lv_iload_n hx hb dX9_fewest_0 rfl (lv_at hl 1 rfl) ?_
  refine lv_iconst (v := 1) hx hb dX9_fewest_1 (by decide) ?_
  refine lv_icmp_lt (tgt := 11) hx hb dX9_fewest_2 (by decide) (fun c12 => ?_) (fun c12 => ?_)
  · have h := h.1 c12
    refine lv_bipush (v := -2) hx hb dX9_fewest_11 (by decide) ?_
    exact hret _ _ _ _ _ _ ⟨_, _, _, _, _, _, _, rfl, h⟩ hw dX9_fewest_13
  · have h := h.2 c12
    refine lv_iload_n hx hb dX9_fewest_5 rfl (lv_at hl 1 rfl) ?_
    refine lv_bipush (v := 99) hx hb dX9_fewest_6 (by decide) ?_
    refine lv_icmp_le (tgt := 14) hx hb dX9_fewest_8 (by decide) (fun c13 => ?_) (fun c13 => ?_)
    · have h := h.1 c13
      refine lv_iconst (v := 1) hx hb dX9_fewest_14 (by decide) ?_
      refine lv_istore_n (lv' := [(2, .int (1 : Int32)), (0, .ref (ad 33)), (1, .int p1)]) hx hb dX9_fewest_15 rfl hl (by decide) rfl (fun ls hl => ?_)
      obtain ⟨n, h⟩ := h
      exact L16 n (1 : Int32) f_sched_available f_sched_coming f_sched_lastSent f_sched_sent f_sched_taken f_sched_waiting f_sched_wanted _ _ _ h hw (lv_sub hl [1, 2, 0] rfl)
    · have h := h.2 c13
      refine lv_bipush (v := -2) hx hb dX9_fewest_11 (by decide) ?_
      exact hret _ _ _ _ _ _ ⟨_, _, _, _, _, _, _, rfl, h⟩ hw dX9_fewest_13
set_option maxRecDepth 100000 in
set_option maxHeartbeats 4000000 in
theorem c_X9_setsInput {l : Launch} {D : va_G} {cI cZ : ClassId} {ad : Nat → Nat} {f_keptSlots : Int32} {f_trace : Nat → Int32} {f_lastSeed : Int64} {f_text_letters : Nat → Int32} {f_text_length : Int32} {f_reader_place : Int32} {f_reader_greatestSource : Int32} {f_plan_chips : Int32} {f_plan_firstPins : Int32} {f_plan_firstPlaces : Int32} {f_plan_gates : Int32} {f_plan_inputs : Int32} {f_plan_registers : Int32} {f_plan_slowRegisters : Int32} {f_plan_kinds : Nat → Int32} {f_plan_firsts : Nat → Int32} {f_plan_seconds : Nat → Int32} {f_plan_clocks : Nat → Int32} {f_plan_sourceSets : Nat → Int32} {f_spare_chips : Int32} {f_spare_firstPins : Int32} {f_spare_firstPlaces : Int32} {f_spare_gates : Int32} {f_spare_inputs : Int32} {f_spare_registers : Int32} {f_spare_slowRegisters : Int32} {f_spare_kinds : Nat → Int32} {f_spare_firsts : Nat → Int32} {f_spare_seconds : Nat → Int32} {f_spare_clocks : Nat → Int32} {f_spare_sourceSets : Nat → Int32} {f_now_ones : Int32} {f_now_unknowns : Int32} {f_now_places : Int32} {f_now_pins : Int32} {f_now_count : Int32} {f_copy_ones : Int32} {f_copy_unknowns : Int32} {f_copy_places : Int32} {f_copy_pins : Int32} {f_copy_count : Int32} {f_logic_ones : Int32} {f_logic_unknowns : Int32} {f_logic_settled : Int32} {f_sched_available : Nat → Int32} {f_sched_wanted : Nat → Int32} {f_sched_coming : Nat → Int32} {f_sched_waiting : Int32} {f_sched_taken : Int32} {f_sched_sent : Int32} {f_sched_lastSent : Int32} {f_hist_next : Int32} {f_hist_held : Int32} {f_ring_cells : Nat → Int32} {f_kept_cells : Nat → Int32} {f_sight_steps : Nat → Int32} {f_sight_gates : Nat → Int32} {f_sight_values : Nat → Int32} {f_sight_truths : Nat → Int32} {f_sight_held : Int32} {X : va_W} {p1 : Int32} {p2 : Int32} {Q : Int32 → Int32 → Int32 → Prop} (h : wp_X9_setsInput f_copy_ones f_copy_unknowns f_plan_gates f_plan_kinds p1 p2 Q) : CtI l yX9_setsInput cX9_setsInput 3 (some .boolean) ({ frames := 2, cells := 0, slots := 0, locals := 42 } : Room) D [(cI, .int), (cZ, .boolean)] [.ref (ad 33), .int p1, .int p2] (wC ad cI cZ f_keptSlots f_trace f_lastSeed f_text_letters f_text_length f_reader_place f_reader_greatestSource f_plan_chips f_plan_firstPins f_plan_firstPlaces f_plan_gates f_plan_inputs f_plan_registers f_plan_slowRegisters f_plan_kinds f_plan_firsts f_plan_seconds f_plan_clocks f_plan_sourceSets f_spare_chips f_spare_firstPins f_spare_firstPlaces f_spare_gates f_spare_inputs f_spare_registers f_spare_slowRegisters f_spare_kinds f_spare_firsts f_spare_seconds f_spare_clocks f_spare_sourceSets f_now_ones f_now_unknowns f_now_places f_now_pins f_now_count f_copy_ones f_copy_unknowns f_copy_places f_copy_pins f_copy_count f_logic_ones f_logic_unknowns f_logic_settled f_sched_available f_sched_wanted f_sched_coming f_sched_waiting f_sched_taken f_sched_sent f_sched_lastSent f_hist_next f_hist_held f_ring_cells f_kept_cells f_sight_steps f_sight_gates f_sight_values f_sight_truths f_sight_held X) (fun r u => ∃ w0 w1, u = (wC ad cI cZ f_keptSlots f_trace f_lastSeed f_text_letters f_text_length f_reader_place f_reader_greatestSource f_plan_chips f_plan_firstPins f_plan_firstPlaces f_plan_gates f_plan_inputs f_plan_registers f_plan_slowRegisters f_plan_kinds f_plan_firsts f_plan_seconds f_plan_clocks f_plan_sourceSets f_spare_chips f_spare_firstPins f_spare_firstPlaces f_spare_gates f_spare_inputs f_spare_registers f_spare_slowRegisters f_spare_kinds f_spare_firsts f_spare_seconds f_spare_clocks f_spare_sourceSets f_now_ones f_now_unknowns f_now_places f_now_pins f_now_count w0 w1 f_copy_places f_copy_pins f_copy_count f_logic_ones f_logic_unknowns f_logic_settled f_sched_available f_sched_wanted f_sched_coming f_sched_waiting f_sched_taken f_sched_sent f_sched_lastSent f_hist_next f_hist_held f_ring_cells f_kept_cells f_sight_steps f_sight_gates f_sight_values f_sight_truths f_sight_held X) ∧ Q r w0 w1) := by
  refine CtI.ofZ (by decide) rfl (Nat.le_of_ble_eq_true rfl) ?_
  intro p e s m args below meth c A Z E hret ls hl hw
  have E : gE p m c cX9_setsInput 3 s args RX9 D [(cI, .int), (cZ, .boolean)] A := E
  have hx := E.1.1
  have hb := E.1.2.1
  have hl : lv_has ls 3 [(0, .ref (ad 33)), (1, .int p1), (2, .int p2)] := hl
  unfold wp_X9_setsInput at h
  refine lv_aload_n hx hb dX9_setsInput_0 rfl (lv_at hl 0 rfl) ?_
  refine lv_iload_n hx hb dX9_setsInput_1 rfl (lv_at hl 1 rfl) ?_
  refine g_aI E hw (g_rV E hw (c_X9_isGate h _) ym_X9_isGate k_276 ⟨rfl, rfl⟩ ⟨Nat.le_of_ble_eq_true rfl, Nat.le_of_ble_eq_true rfl⟩ 33 rfl rfl rfl rfl hl.1 rfl (Nat.le_of_ble_eq_true rfl) ⟨Nat.zero_le _, Nat.zero_le _⟩ dX9_setsInput_2) (fun r1 u H locs hq hw => ?_)
  obtain ⟨hu, h⟩ := hq
  rw [hu] at hw
  refine lv_if_eq (tgt := 26) hx hb dX9_setsInput_5 (by decide) (fun c2 => ?_) (fun c2 => ?_)
  · have h := h.1 c2
    refine lv_iconst (v := 0) hx hb dX9_setsInput_26 (by decide) ?_
    exact hret _ _ _ _ _ _ (Or.inl rfl) ⟨_, _, rfl, h⟩ hw dX9_setsInput_27
  · have h := h.2 c2
    refine lv_aload_n hx hb dX9_setsInput_8 rfl (lv_at hl 0 rfl) ?_
    refine gC_X9_26_main E hw dX9_setsInput_9 ?_
    refine lv_iload_n hx hb dX9_setsInput_12 rfl (lv_at hl 1 rfl) ?_
    refine g_aI E hw (g_rV E hw (c_X2_kindOf_plan h _) ym_X2_kindOf k_279 ⟨rfl, rfl⟩ ⟨Nat.le_of_ble_eq_true rfl, Nat.le_of_ble_eq_true rfl⟩ 29 rfl rfl rfl rfl hl.1 rfl (Nat.le_of_ble_eq_true rfl) ⟨Nat.zero_le _, Nat.zero_le _⟩ dX9_setsInput_13) (fun r3 u H locs hq hw => ?_)
    obtain ⟨hu, h⟩ := hq
    rw [hu] at hw
    refine lv_if_ne (tgt := 26) hx hb dX9_setsInput_16 (by decide) (fun c4 => ?_) (fun c4 => ?_)
    · have h := h.1 c4
      refine lv_iconst (v := 0) hx hb dX9_setsInput_26 (by decide) ?_
      exact hret _ _ _ _ _ _ (Or.inl rfl) ⟨_, _, rfl, h⟩ hw dX9_setsInput_27
    · have h := h.2 c4
      refine lv_iload_n hx hb dX9_setsInput_19 rfl (lv_at hl 2 rfl) ?_
      refine g_aI E hw (g_rS E hw (c_X9_isValue h _) ym_X9_isValue k_361 ⟨rfl, rfl⟩ ⟨Nat.le_of_ble_eq_true rfl, Nat.le_of_ble_eq_true rfl⟩ rfl hl.1 rfl (Nat.le_of_ble_eq_true rfl) ⟨Nat.zero_le _, Nat.zero_le _⟩ dX9_setsInput_20) (fun r5 u H locs hq hw => ?_)
      obtain ⟨hu, h⟩ := hq
      rw [hu] at hw
      refine lv_if_ne (tgt := 28) hx hb dX9_setsInput_23 (by decide) (fun c6 => ?_) (fun c6 => ?_)
      · have h := h.1 c6
        refine lv_aload_n hx hb dX9_setsInput_28 rfl (lv_at hl 0 rfl) ?_
        refine gC_X9_40_main E hw dX9_setsInput_29 ?_
        refine lv_iload_n hx hb dX9_setsInput_32 rfl (lv_at hl 1 rfl) ?_
        refine lv_iload_n hx hb dX9_setsInput_33 rfl (lv_at hl 2 rfl) ?_
        refine g_aV E hw (g_rV E hw (c_X7_store_copy h _) ym_X7_store k_364 ⟨rfl, rfl⟩ ⟨Nat.le_of_ble_eq_true rfl, Nat.le_of_ble_eq_true rfl⟩ 16 rfl rfl rfl rfl hl.1 rfl (Nat.le_of_ble_eq_true rfl) ⟨Nat.zero_le _, Nat.zero_le _⟩ dX9_setsInput_34) (fun u H locs hq hw => ?_)
        obtain ⟨y8, y9, hu, h⟩ := hq
        rw [hu] at hw
        refine lv_iconst (v := 1) hx hb dX9_setsInput_37 (by decide) ?_
        exact hret _ _ _ _ _ _ (Or.inr rfl) ⟨_, _, rfl, h⟩ hw dX9_setsInput_38
      · have h := h.2 c6
        refine lv_iconst (v := 0) hx hb dX9_setsInput_26 (by decide) ?_
        exact hret _ _ _ _ _ _ (Or.inl rfl) ⟨_, _, rfl, h⟩ hw dX9_setsInput_27
set_option maxRecDepth 100000 in
set_option maxHeartbeats 4000000 in
theorem c_X9_movesGate {l : Launch} {D : va_G} {cI cZ : ClassId} {ad : Nat → Nat} {f_keptSlots : Int32} {f_trace : Nat → Int32} {f_lastSeed : Int64} {f_text_letters : Nat → Int32} {f_text_length : Int32} {f_reader_place : Int32} {f_reader_greatestSource : Int32} {f_plan_chips : Int32} {f_plan_firstPins : Int32} {f_plan_firstPlaces : Int32} {f_plan_gates : Int32} {f_plan_inputs : Int32} {f_plan_registers : Int32} {f_plan_slowRegisters : Int32} {f_plan_kinds : Nat → Int32} {f_plan_firsts : Nat → Int32} {f_plan_seconds : Nat → Int32} {f_plan_clocks : Nat → Int32} {f_plan_sourceSets : Nat → Int32} {f_spare_chips : Int32} {f_spare_firstPins : Int32} {f_spare_firstPlaces : Int32} {f_spare_gates : Int32} {f_spare_inputs : Int32} {f_spare_registers : Int32} {f_spare_slowRegisters : Int32} {f_spare_kinds : Nat → Int32} {f_spare_firsts : Nat → Int32} {f_spare_seconds : Nat → Int32} {f_spare_clocks : Nat → Int32} {f_spare_sourceSets : Nat → Int32} {f_now_ones : Int32} {f_now_unknowns : Int32} {f_now_places : Int32} {f_now_pins : Int32} {f_now_count : Int32} {f_copy_ones : Int32} {f_copy_unknowns : Int32} {f_copy_places : Int32} {f_copy_pins : Int32} {f_copy_count : Int32} {f_logic_ones : Int32} {f_logic_unknowns : Int32} {f_logic_settled : Int32} {f_sched_available : Nat → Int32} {f_sched_wanted : Nat → Int32} {f_sched_coming : Nat → Int32} {f_sched_waiting : Int32} {f_sched_taken : Int32} {f_sched_sent : Int32} {f_sched_lastSent : Int32} {f_hist_next : Int32} {f_hist_held : Int32} {f_ring_cells : Nat → Int32} {f_kept_cells : Nat → Int32} {f_sight_steps : Nat → Int32} {f_sight_gates : Nat → Int32} {f_sight_values : Nat → Int32} {f_sight_truths : Nat → Int32} {f_sight_held : Int32} {X : va_W} {p1 : Int32} {p2 : Int32} {Q : Int32 → Int32 → Prop} (h : wp_X9_movesGate f_copy_places f_plan_chips f_plan_gates p1 p2 Q) : CtI l yX9_movesGate cX9_movesGate 3 (some .boolean) ({ frames := 1, cells := 0, slots := 0, locals := 22 } : Room) D [(cI, .int), (cZ, .boolean)] [.ref (ad 33), .int p1, .int p2] (wC ad cI cZ f_keptSlots f_trace f_lastSeed f_text_letters f_text_length f_reader_place f_reader_greatestSource f_plan_chips f_plan_firstPins f_plan_firstPlaces f_plan_gates f_plan_inputs f_plan_registers f_plan_slowRegisters f_plan_kinds f_plan_firsts f_plan_seconds f_plan_clocks f_plan_sourceSets f_spare_chips f_spare_firstPins f_spare_firstPlaces f_spare_gates f_spare_inputs f_spare_registers f_spare_slowRegisters f_spare_kinds f_spare_firsts f_spare_seconds f_spare_clocks f_spare_sourceSets f_now_ones f_now_unknowns f_now_places f_now_pins f_now_count f_copy_ones f_copy_unknowns f_copy_places f_copy_pins f_copy_count f_logic_ones f_logic_unknowns f_logic_settled f_sched_available f_sched_wanted f_sched_coming f_sched_waiting f_sched_taken f_sched_sent f_sched_lastSent f_hist_next f_hist_held f_ring_cells f_kept_cells f_sight_steps f_sight_gates f_sight_values f_sight_truths f_sight_held X) (fun r u => ∃ w0, u = (wC ad cI cZ f_keptSlots f_trace f_lastSeed f_text_letters f_text_length f_reader_place f_reader_greatestSource f_plan_chips f_plan_firstPins f_plan_firstPlaces f_plan_gates f_plan_inputs f_plan_registers f_plan_slowRegisters f_plan_kinds f_plan_firsts f_plan_seconds f_plan_clocks f_plan_sourceSets f_spare_chips f_spare_firstPins f_spare_firstPlaces f_spare_gates f_spare_inputs f_spare_registers f_spare_slowRegisters f_spare_kinds f_spare_firsts f_spare_seconds f_spare_clocks f_spare_sourceSets f_now_ones f_now_unknowns f_now_places f_now_pins f_now_count f_copy_ones f_copy_unknowns w0 f_copy_pins f_copy_count f_logic_ones f_logic_unknowns f_logic_settled f_sched_available f_sched_wanted f_sched_coming f_sched_waiting f_sched_taken f_sched_sent f_sched_lastSent f_hist_next f_hist_held f_ring_cells f_kept_cells f_sight_steps f_sight_gates f_sight_values f_sight_truths f_sight_held X) ∧ Q r w0) := by
  refine CtI.ofZ (by decide) rfl (Nat.le_of_ble_eq_true rfl) ?_
  intro p e s m args below meth c A Z E hret ls hl hw
  have E : gE p m c cX9_movesGate 3 s args RX9 D [(cI, .int), (cZ, .boolean)] A := E
  have hx := E.1.1
  have hb := E.1.2.1
  have hl : lv_has ls 3 [(0, .ref (ad 33)), (1, .int p1), (2, .int p2)] := hl
  unfold wp_X9_movesGate at h
  refine lv_aload_n hx hb dX9_movesGate_0 rfl (lv_at hl 0 rfl) ?_
  refine lv_iload_n hx hb dX9_movesGate_1 rfl (lv_at hl 1 rfl) ?_
  refine g_aI E hw (g_rV E hw (c_X9_isGate h _) ym_X9_isGate k_276 ⟨rfl, rfl⟩ ⟨Nat.le_of_ble_eq_true rfl, Nat.le_of_ble_eq_true rfl⟩ 33 rfl rfl rfl rfl hl.1 rfl (Nat.le_of_ble_eq_true rfl) ⟨Nat.zero_le _, Nat.zero_le _⟩ dX9_movesGate_2) (fun r1 u H locs hq hw => ?_)
  obtain ⟨hu, h⟩ := hq
  rw [hu] at hw
  refine lv_if_eq (tgt := 31) hx hb dX9_movesGate_5 (by decide) (fun c2 => ?_) (fun c2 => ?_)
  · have h := h.1 c2
    refine lv_iconst (v := 0) hx hb dX9_movesGate_31 (by decide) ?_
    exact hret _ _ _ _ _ _ (Or.inl rfl) ⟨_, rfl, h⟩ hw dX9_movesGate_32
  · have h := h.2 c2
    refine lv_aload_n hx hb dX9_movesGate_8 rfl (lv_at hl 0 rfl) ?_
    refine lv_iload_n hx hb dX9_movesGate_9 rfl (lv_at hl 2 rfl) ?_
    refine g_aI E hw (g_rV E hw (c_X9_isChip h _) ym_X9_isChip k_369 ⟨rfl, rfl⟩ ⟨Nat.le_of_ble_eq_true rfl, Nat.le_of_ble_eq_true rfl⟩ 33 rfl rfl rfl rfl hl.1 rfl (Nat.le_of_ble_eq_true rfl) ⟨Nat.zero_le _, Nat.zero_le _⟩ dX9_movesGate_10) (fun r3 u H locs hq hw => ?_)
    obtain ⟨hu, h⟩ := hq
    rw [hu] at hw
    refine lv_if_eq (tgt := 31) hx hb dX9_movesGate_13 (by decide) (fun c4 => ?_) (fun c4 => ?_)
    · have h := h.1 c4
      refine lv_iconst (v := 0) hx hb dX9_movesGate_31 (by decide) ?_
      exact hret _ _ _ _ _ _ (Or.inl rfl) ⟨_, rfl, h⟩ hw dX9_movesGate_32
    · have h := h.2 c4
      refine lv_aload_n hx hb dX9_movesGate_16 rfl (lv_at hl 0 rfl) ?_
      refine gC_X9_40_main E hw dX9_movesGate_17 ?_
      refine gC_X9_120_copy E hw dX9_movesGate_20 ?_
      refine lv_iload_n hx hb dX9_movesGate_23 rfl (lv_at hl 1 rfl) ?_
      refine g_aI E hw (g_rS E hw (c_X9_chipIn h _) ym_X9_chipIn k_280 ⟨rfl, rfl⟩ ⟨Nat.le_of_ble_eq_true rfl, Nat.le_of_ble_eq_true rfl⟩ rfl hl.1 rfl (Nat.le_of_ble_eq_true rfl) ⟨Nat.zero_le _, Nat.zero_le _⟩ dX9_movesGate_24) (fun r5 u H locs hq hw => ?_)
      obtain ⟨hu, h⟩ := hq
      rw [hu] at hw
      refine lv_iload_n hx hb dX9_movesGate_27 rfl (lv_at hl 2 rfl) ?_
      refine lv_icmp_ne (tgt := 33) hx hb dX9_movesGate_28 (by decide) (fun c6 => ?_) (fun c6 => ?_)
      · have h := h.1 c6
        refine lv_aload_n hx hb dX9_movesGate_33 rfl (lv_at hl 0 rfl) ?_
        refine gC_X9_40_main E hw dX9_movesGate_34 ?_
        refine lv_aload_n hx hb dX9_movesGate_37 rfl (lv_at hl 0 rfl) ?_
        refine gC_X9_40_main E hw dX9_movesGate_38 ?_
        refine gC_X9_120_copy E hw dX9_movesGate_41 ?_
        refine lv_iload_n hx hb dX9_movesGate_44 rfl (lv_at hl 1 rfl) ?_
        refine lv_iload_n hx hb dX9_movesGate_45 rfl (lv_at hl 2 rfl) ?_
        refine g_aI E hw (g_rS E hw (c_X9_placed h _) ym_X9_placed k_372 ⟨rfl, rfl⟩ ⟨Nat.le_of_ble_eq_true rfl, Nat.le_of_ble_eq_true rfl⟩ rfl hl.1 rfl (Nat.le_of_ble_eq_true rfl) ⟨Nat.zero_le _, Nat.zero_le _⟩ dX9_movesGate_46) (fun r7 u H locs hq hw => ?_)
        obtain ⟨hu, h⟩ := hq
        rw [hu] at hw
        refine pC_X9_120_copy E hw dX9_movesGate_49 (fun H locs hw => ?_)
        refine lv_iconst (v := 1) hx hb dX9_movesGate_52 (by decide) ?_
        exact hret _ _ _ _ _ _ (Or.inr rfl) ⟨_, rfl, h⟩ hw dX9_movesGate_53
      · have h := h.2 c6
        refine lv_iconst (v := 0) hx hb dX9_movesGate_31 (by decide) ?_
        exact hret _ _ _ _ _ _ (Or.inl rfl) ⟨_, rfl, h⟩ hw dX9_movesGate_32
set_option maxRecDepth 100000 in
set_option maxHeartbeats 4000000 in
theorem c_X9_setsPins {l : Launch} {D : va_G} {cI cZ : ClassId} {ad : Nat → Nat} {f_keptSlots : Int32} {f_trace : Nat → Int32} {f_lastSeed : Int64} {f_text_letters : Nat → Int32} {f_text_length : Int32} {f_reader_place : Int32} {f_reader_greatestSource : Int32} {f_plan_chips : Int32} {f_plan_firstPins : Int32} {f_plan_firstPlaces : Int32} {f_plan_gates : Int32} {f_plan_inputs : Int32} {f_plan_registers : Int32} {f_plan_slowRegisters : Int32} {f_plan_kinds : Nat → Int32} {f_plan_firsts : Nat → Int32} {f_plan_seconds : Nat → Int32} {f_plan_clocks : Nat → Int32} {f_plan_sourceSets : Nat → Int32} {f_spare_chips : Int32} {f_spare_firstPins : Int32} {f_spare_firstPlaces : Int32} {f_spare_gates : Int32} {f_spare_inputs : Int32} {f_spare_registers : Int32} {f_spare_slowRegisters : Int32} {f_spare_kinds : Nat → Int32} {f_spare_firsts : Nat → Int32} {f_spare_seconds : Nat → Int32} {f_spare_clocks : Nat → Int32} {f_spare_sourceSets : Nat → Int32} {f_now_ones : Int32} {f_now_unknowns : Int32} {f_now_places : Int32} {f_now_pins : Int32} {f_now_count : Int32} {f_copy_ones : Int32} {f_copy_unknowns : Int32} {f_copy_places : Int32} {f_copy_pins : Int32} {f_copy_count : Int32} {f_logic_ones : Int32} {f_logic_unknowns : Int32} {f_logic_settled : Int32} {f_sched_available : Nat → Int32} {f_sched_wanted : Nat → Int32} {f_sched_coming : Nat → Int32} {f_sched_waiting : Int32} {f_sched_taken : Int32} {f_sched_sent : Int32} {f_sched_lastSent : Int32} {f_hist_next : Int32} {f_hist_held : Int32} {f_ring_cells : Nat → Int32} {f_kept_cells : Nat → Int32} {f_sight_steps : Nat → Int32} {f_sight_gates : Nat → Int32} {f_sight_values : Nat → Int32} {f_sight_truths : Nat → Int32} {f_sight_held : Int32} {X : va_W} {p1 : Int32} {Q : Int32 → Int32 → Prop} (h : wp_X9_setsPins f_copy_pins p1 Q) : CtI l yX9_setsPins cX9_setsPins 2 (some .boolean) ({ frames := 1, cells := 0, slots := 0, locals := 20 } : Room) D [(cI, .int), (cZ, .boolean)] [.ref (ad 33), .int p1] (wC ad cI cZ f_keptSlots f_trace f_lastSeed f_text_letters f_text_length f_reader_place f_reader_greatestSource f_plan_chips f_plan_firstPins f_plan_firstPlaces f_plan_gates f_plan_inputs f_plan_registers f_plan_slowRegisters f_plan_kinds f_plan_firsts f_plan_seconds f_plan_clocks f_plan_sourceSets f_spare_chips f_spare_firstPins f_spare_firstPlaces f_spare_gates f_spare_inputs f_spare_registers f_spare_slowRegisters f_spare_kinds f_spare_firsts f_spare_seconds f_spare_clocks f_spare_sourceSets f_now_ones f_now_unknowns f_now_places f_now_pins f_now_count f_copy_ones f_copy_unknowns f_copy_places f_copy_pins f_copy_count f_logic_ones f_logic_unknowns f_logic_settled f_sched_available f_sched_wanted f_sched_coming f_sched_waiting f_sched_taken f_sched_sent f_sched_lastSent f_hist_next f_hist_held f_ring_cells f_kept_cells f_sight_steps f_sight_gates f_sight_values f_sight_truths f_sight_held X) (fun r u => ∃ w0, u = (wC ad cI cZ f_keptSlots f_trace f_lastSeed f_text_letters f_text_length f_reader_place f_reader_greatestSource f_plan_chips f_plan_firstPins f_plan_firstPlaces f_plan_gates f_plan_inputs f_plan_registers f_plan_slowRegisters f_plan_kinds f_plan_firsts f_plan_seconds f_plan_clocks f_plan_sourceSets f_spare_chips f_spare_firstPins f_spare_firstPlaces f_spare_gates f_spare_inputs f_spare_registers f_spare_slowRegisters f_spare_kinds f_spare_firsts f_spare_seconds f_spare_clocks f_spare_sourceSets f_now_ones f_now_unknowns f_now_places f_now_pins f_now_count f_copy_ones f_copy_unknowns f_copy_places w0 f_copy_count f_logic_ones f_logic_unknowns f_logic_settled f_sched_available f_sched_wanted f_sched_coming f_sched_waiting f_sched_taken f_sched_sent f_sched_lastSent f_hist_next f_hist_held f_ring_cells f_kept_cells f_sight_steps f_sight_gates f_sight_values f_sight_truths f_sight_held X) ∧ Q r w0) := by
  refine CtI.ofZ (by decide) rfl (Nat.le_of_ble_eq_true rfl) ?_
  intro p e s m args below meth c A Z E hret ls hl hw
  have E : gE p m c cX9_setsPins 2 s args RX9 D [(cI, .int), (cZ, .boolean)] A := E
  have hx := E.1.1
  have hb := E.1.2.1
  have hl : lv_has ls 2 [(0, .ref (ad 33)), (1, .int p1)] := hl
  unfold wp_X9_setsPins at h
  refine lv_iload_n hx hb dX9_setsPins_0 rfl (lv_at hl 1 rfl) ?_
  refine g_aI E hw (g_rS E hw (c_X9_isPins h _) ym_X9_isPins k_377 ⟨rfl, rfl⟩ ⟨Nat.le_of_ble_eq_true rfl, Nat.le_of_ble_eq_true rfl⟩ rfl hl.1 rfl (Nat.le_of_ble_eq_true rfl) ⟨Nat.zero_le _, Nat.zero_le _⟩ dX9_setsPins_1) (fun r1 u H locs hq hw => ?_)
  obtain ⟨hu, h⟩ := hq
  rw [hu] at hw
  refine lv_if_ne (tgt := 9) hx hb dX9_setsPins_4 (by decide) (fun c2 => ?_) (fun c2 => ?_)
  · have h := h.1 c2
    refine lv_aload_n hx hb dX9_setsPins_9 rfl (lv_at hl 0 rfl) ?_
    refine gC_X9_40_main E hw dX9_setsPins_10 ?_
    refine lv_iload_n hx hb dX9_setsPins_13 rfl (lv_at hl 1 rfl) ?_
    refine pC_X9_180_copy E hw dX9_setsPins_14 (fun H locs hw => ?_)
    refine lv_iconst (v := 1) hx hb dX9_setsPins_17 (by decide) ?_
    exact hret _ _ _ _ _ _ (Or.inr rfl) ⟨_, rfl, h⟩ hw dX9_setsPins_18
  · have h := h.2 c2
    refine lv_iconst (v := 0) hx hb dX9_setsPins_7 (by decide) ?_
    exact hret _ _ _ _ _ _ (Or.inl rfl) ⟨_, rfl, h⟩ hw dX9_setsPins_8
set_option maxRecDepth 100000 in
set_option maxHeartbeats 4000000 in
theorem c_X9_holds {l : Launch} {D : va_G} {cI cZ : ClassId} {ad : Nat → Nat} {f_keptSlots : Int32} {f_trace : Nat → Int32} {f_lastSeed : Int64} {f_text_letters : Nat → Int32} {f_text_length : Int32} {f_reader_place : Int32} {f_reader_greatestSource : Int32} {f_plan_chips : Int32} {f_plan_firstPins : Int32} {f_plan_firstPlaces : Int32} {f_plan_gates : Int32} {f_plan_inputs : Int32} {f_plan_registers : Int32} {f_plan_slowRegisters : Int32} {f_plan_kinds : Nat → Int32} {f_plan_firsts : Nat → Int32} {f_plan_seconds : Nat → Int32} {f_plan_clocks : Nat → Int32} {f_plan_sourceSets : Nat → Int32} {f_spare_chips : Int32} {f_spare_firstPins : Int32} {f_spare_firstPlaces : Int32} {f_spare_gates : Int32} {f_spare_inputs : Int32} {f_spare_registers : Int32} {f_spare_slowRegisters : Int32} {f_spare_kinds : Nat → Int32} {f_spare_firsts : Nat → Int32} {f_spare_seconds : Nat → Int32} {f_spare_clocks : Nat → Int32} {f_spare_sourceSets : Nat → Int32} {f_now_ones : Int32} {f_now_unknowns : Int32} {f_now_places : Int32} {f_now_pins : Int32} {f_now_count : Int32} {f_copy_ones : Int32} {f_copy_unknowns : Int32} {f_copy_places : Int32} {f_copy_pins : Int32} {f_copy_count : Int32} {f_logic_ones : Int32} {f_logic_unknowns : Int32} {f_logic_settled : Int32} {f_sched_available : Nat → Int32} {f_sched_wanted : Nat → Int32} {f_sched_coming : Nat → Int32} {f_sched_waiting : Int32} {f_sched_taken : Int32} {f_sched_sent : Int32} {f_sched_lastSent : Int32} {f_hist_next : Int32} {f_hist_held : Int32} {f_ring_cells : Nat → Int32} {f_kept_cells : Nat → Int32} {f_sight_steps : Nat → Int32} {f_sight_gates : Nat → Int32} {f_sight_values : Nat → Int32} {f_sight_truths : Nat → Int32} {f_sight_held : Int32} {X : va_W} {p1 : Int32} {Q : Int32 → Int32 → Int32 → Int32 → Int32 → Int32 → Int32 → Int32 → Int32 → (Nat → Int32) → (Nat → Int32) → Int32 → Int32 → Int32 → Int32 → (Nat → Int32) → Prop} (h : wp_X9_holds f_copy_count f_copy_ones f_copy_pins f_copy_places f_copy_unknowns f_logic_ones f_logic_settled f_logic_unknowns f_plan_chips f_plan_firsts f_plan_gates f_plan_inputs f_plan_kinds f_plan_registers f_plan_seconds f_plan_slowRegisters f_plan_sourceSets f_sched_available f_sched_coming f_sched_lastSent f_sched_sent f_sched_taken f_sched_waiting f_sched_wanted p1 Q) : CtI l yX9_holds cX9_holds 5 (some .boolean) ({ frames := 5, cells := 0, slots := 0, locals := 118 } : Room) D [(cI, .int), (cZ, .boolean)] [.ref (ad 33), .int p1] (wC ad cI cZ f_keptSlots f_trace f_lastSeed f_text_letters f_text_length f_reader_place f_reader_greatestSource f_plan_chips f_plan_firstPins f_plan_firstPlaces f_plan_gates f_plan_inputs f_plan_registers f_plan_slowRegisters f_plan_kinds f_plan_firsts f_plan_seconds f_plan_clocks f_plan_sourceSets f_spare_chips f_spare_firstPins f_spare_firstPlaces f_spare_gates f_spare_inputs f_spare_registers f_spare_slowRegisters f_spare_kinds f_spare_firsts f_spare_seconds f_spare_clocks f_spare_sourceSets f_now_ones f_now_unknowns f_now_places f_now_pins f_now_count f_copy_ones f_copy_unknowns f_copy_places f_copy_pins f_copy_count f_logic_ones f_logic_unknowns f_logic_settled f_sched_available f_sched_wanted f_sched_coming f_sched_waiting f_sched_taken f_sched_sent f_sched_lastSent f_hist_next f_hist_held f_ring_cells f_kept_cells f_sight_steps f_sight_gates f_sight_values f_sight_truths f_sight_held X) (fun r u => ∃ w0 w1 w2 w3 w4 w5 w6 w7 w8 w9 w10 w11 w12 w13 w14, u = (wC ad cI cZ f_keptSlots f_trace f_lastSeed f_text_letters f_text_length f_reader_place f_reader_greatestSource f_plan_chips f_plan_firstPins f_plan_firstPlaces f_plan_gates f_plan_inputs f_plan_registers f_plan_slowRegisters f_plan_kinds f_plan_firsts f_plan_seconds f_plan_clocks f_plan_sourceSets f_spare_chips f_spare_firstPins f_spare_firstPlaces f_spare_gates f_spare_inputs f_spare_registers f_spare_slowRegisters f_spare_kinds f_spare_firsts f_spare_seconds f_spare_clocks f_spare_sourceSets f_now_ones f_now_unknowns f_now_places f_now_pins f_now_count w1 w4 w3 w2 w0 w5 w7 w6 w8 w14 w9 w13 w12 w11 w10 f_hist_next f_hist_held f_ring_cells f_kept_cells f_sight_steps f_sight_gates f_sight_values f_sight_truths f_sight_held X) ∧ Q r w0 w1 w2 w3 w4 w5 w6 w7 w8 w9 w10 w11 w12 w13 w14) := by
  refine CtI.ofZ (by decide) rfl (Nat.le_of_ble_eq_true rfl) ?_
  intro p e s m args below meth c A Z E hret ls hl hw
  have E : gE p m c cX9_holds 5 s args RX9 D [(cI, .int), (cZ, .boolean)] A := E
  have hx := E.1.1
  have hb := E.1.2.1
  have hl : lv_has ls 5 [(0, .ref (ad 33)), (1, .int p1)] := hl
  have J121 : ∀ (f_copy_count : Int32) (f_copy_ones : Int32) (f_copy_pins : Int32) (f_copy_places : Int32) (f_copy_unknowns : Int32) (f_logic_ones : Int32) (f_logic_settled : Int32) (f_logic_unknowns : Int32) (f_sched_available : Nat → Int32) (f_sched_coming : Nat → Int32) (f_sched_lastSent : Int32) (f_sched_sent : Int32) (f_sched_taken : Int32) (f_sched_waiting : Int32) (f_sched_wanted : Nat → Int32) (H : Heap) (locs : List Loc) (ls : Array Slot), wp_X9_holds_b121 f_plan_chips f_plan_firsts f_plan_gates f_plan_inputs f_plan_kinds f_plan_registers f_plan_seconds f_plan_slowRegisters f_plan_sourceSets p1 Q  f_copy_count f_copy_ones f_copy_pins f_copy_places f_copy_unknowns f_logic_ones f_logic_settled f_logic_unknowns f_sched_available f_sched_coming f_sched_lastSent f_sched_sent f_sched_taken f_sched_waiting f_sched_wanted → gW D s A (wC ad cI cZ f_keptSlots f_trace f_lastSeed f_text_letters f_text_length f_reader_place f_reader_greatestSource f_plan_chips f_plan_firstPins f_plan_firstPlaces f_plan_gates f_plan_inputs f_plan_registers f_plan_slowRegisters f_plan_kinds f_plan_firsts f_plan_seconds f_plan_clocks f_plan_sourceSets f_spare_chips f_spare_firstPins f_spare_firstPlaces f_spare_gates f_spare_inputs f_spare_registers f_spare_slowRegisters f_spare_kinds f_spare_firsts f_spare_seconds f_spare_clocks f_spare_sourceSets f_now_ones f_now_unknowns f_now_places f_now_pins f_now_count f_copy_ones f_copy_unknowns f_copy_places f_copy_pins f_copy_count f_logic_ones f_logic_unknowns f_logic_settled f_sched_available f_sched_wanted f_sched_coming f_sched_waiting f_sched_taken f_sched_sent f_sched_lastSent f_hist_next f_hist_held f_ring_cells f_kept_cells f_sight_steps f_sight_gates f_sight_values f_sight_truths f_sight_held X) H locs → lv_has ls 5 [] → W p l e ({ frames := 5, cells := 0, slots := 0, locals := 118 } : Room) s m args below meth c H locs 0 0 Z (F0 m 121 ls []) := by
    intro f_copy_count f_copy_ones f_copy_pins f_copy_places f_copy_unknowns f_logic_ones f_logic_settled f_logic_unknowns f_sched_available f_sched_coming f_sched_lastSent f_sched_sent f_sched_taken f_sched_waiting f_sched_wanted H locs ls h hw hl
    unfold wp_X9_holds_b121 at h
    refine lv_iconst (v := 0) hx hb dX9_holds_121 (by decide) ?_
    exact hret _ _ _ _ _ _ (Or.inl rfl) ⟨_, _, _, _, _, _, _, _, _, _, _, _, _, _, _, rfl, h⟩ hw dX9_holds_122
  have J182 : ∀ (f_copy_count : Int32) (f_copy_ones : Int32) (f_copy_pins : Int32) (f_copy_places : Int32) (f_copy_unknowns : Int32) (f_logic_ones : Int32) (f_logic_settled : Int32) (f_logic_unknowns : Int32) (f_sched_available : Nat → Int32) (f_sched_coming : Nat → Int32) (f_sched_lastSent : Int32) (f_sched_sent : Int32) (f_sched_taken : Int32) (f_sched_waiting : Int32) (f_sched_wanted : Nat → Int32) (H : Heap) (locs : List Loc) (ls : Array Slot), wp_X9_holds_b182 f_plan_chips f_plan_firsts f_plan_gates f_plan_inputs f_plan_kinds f_plan_registers f_plan_seconds f_plan_slowRegisters f_plan_sourceSets p1 Q  f_copy_count f_copy_ones f_copy_pins f_copy_places f_copy_unknowns f_logic_ones f_logic_settled f_logic_unknowns f_sched_available f_sched_coming f_sched_lastSent f_sched_sent f_sched_taken f_sched_waiting f_sched_wanted → gW D s A (wC ad cI cZ f_keptSlots f_trace f_lastSeed f_text_letters f_text_length f_reader_place f_reader_greatestSource f_plan_chips f_plan_firstPins f_plan_firstPlaces f_plan_gates f_plan_inputs f_plan_registers f_plan_slowRegisters f_plan_kinds f_plan_firsts f_plan_seconds f_plan_clocks f_plan_sourceSets f_spare_chips f_spare_firstPins f_spare_firstPlaces f_spare_gates f_spare_inputs f_spare_registers f_spare_slowRegisters f_spare_kinds f_spare_firsts f_spare_seconds f_spare_clocks f_spare_sourceSets f_now_ones f_now_unknowns f_now_places f_now_pins f_now_count f_copy_ones f_copy_unknowns f_copy_places f_copy_pins f_copy_count f_logic_ones f_logic_unknowns f_logic_settled f_sched_available f_sched_wanted f_sched_coming f_sched_waiting f_sched_taken f_sched_sent f_sched_lastSent f_hist_next f_hist_held f_ring_cells f_kept_cells f_sight_steps f_sight_gates f_sight_values f_sight_truths f_sight_held X) H locs → lv_has ls 5 [] → W p l e ({ frames := 5, cells := 0, slots := 0, locals := 118 } : Room) s m args below meth c H locs 0 0 Z (F0 m 182 ls []) := by
    intro f_copy_count f_copy_ones f_copy_pins f_copy_places f_copy_unknowns f_logic_ones f_logic_settled f_logic_unknowns f_sched_available f_sched_coming f_sched_lastSent f_sched_sent f_sched_taken f_sched_waiting f_sched_wanted H locs ls h hw hl
    unfold wp_X9_holds_b182 at h
    refine lv_iconst (v := 0) hx hb dX9_holds_182 (by decide) ?_
    exact hret _ _ _ _ _ _ (Or.inl rfl) ⟨_, _, _, _, _, _, _, _, _, _, _, _, _, _, _, rfl, h⟩ hw dX9_holds_183
  unfold wp_X9_holds at h
  refine lv_iload_n hx hb dX9_holds_0 rfl (lv_at hl 1 rfl) ?_
  refine lv_bipush (v := 100) hx hb dX9_holds_1 (by decide) ?_
  refine lv_irem hx hb dX9_holds_3 (by decide) ?_
  refine lv_topi (fun v1 ev1 => ?_)
  have h := h v1 ev1
  refine lv_istore_n (lv' := [(2, .int v1), (0, .ref (ad 33)), (1, .int p1)]) hx hb dX9_holds_4 rfl hl (by decide) rfl (fun ls hl => ?_)
  refine lv_iload_n hx hb dX9_holds_5 rfl (lv_at hl 0 rfl) ?_
  refine lv_bipush (v := 10) hx hb dX9_holds_6 (by decide) ?_
  refine lv_idiv hx hb dX9_holds_8 (by decide) ?_
  refine lv_topi (fun v2 ev2 => ?_)
  have h := h v2 ev2
  refine lv_istore_n (lv' := [(3, .int v2), (2, .int v1), (0, .ref (ad 33)), (1, .int p1)]) hx hb dX9_holds_9 rfl hl (by decide) rfl (fun ls hl => ?_)
  refine lv_iload_n hx hb dX9_holds_10 rfl (lv_at hl 1 rfl) ?_
  refine lv_bipush (v := 10) hx hb dX9_holds_11 (by decide) ?_
  refine lv_irem hx hb dX9_holds_13 (by decide) ?_
  refine lv_topi (fun v3 ev3 => ?_)
  have h := h v3 ev3
  refine lv_istore (lv' := [(4, .int v3), (3, .int v2), (2, .int v1), (0, .ref (ad 33)), (1, .int p1)]) hx hb dX9_holds_14 hl (by decide) rfl (fun ls hl => ?_)
  refine lv_iload_n hx hb dX9_holds_16 rfl (lv_at hl 4 rfl) ?_
  refine lv_bipush (v := 100) hx hb dX9_holds_17 (by decide) ?_
  refine lv_idiv hx hb dX9_holds_19 (by decide) ?_
  refine lv_topi (fun v4 ev4 => ?_)
  have h := h v4 ev4
  by_cases c5 : v4 = 1
  · have h := h.1 c5
    refine lv_tableIn (tgt := 60) (off := 40) hx hb dX9_holds_20 (by rw [c5]; decide) (by rw [c5]; decide) (by rw [c5]; rfl) (by decide) ?_
    refine lv_aload_n hx hb dX9_holds_60 rfl (lv_at hl 3 rfl) ?_
    refine lv_aload_n hx hb dX9_holds_61 rfl (lv_at hl 3 rfl) ?_
    refine gC_X9_40_main E hw dX9_holds_62 ?_
    refine lv_iload_n hx hb dX9_holds_65 rfl (lv_at hl 2 rfl) ?_
    refine g_aV E hw (g_rV E hw (c_X9_makeSteps_copy h _) ym_X9_makeSteps k_346 ⟨rfl, rfl⟩ ⟨Nat.le_of_ble_eq_true rfl, Nat.le_of_ble_eq_true rfl⟩ 33 rfl rfl rfl rfl hl.1 rfl (Nat.le_of_ble_eq_true rfl) ⟨Nat.zero_le _, Nat.zero_le _⟩ dX9_holds_66) (fun u H locs hq hw => ?_)
    obtain ⟨y7, y8, y9, y10, y11, y12, hu, h⟩ := hq
    rw [hu] at hw
    refine lv_iload_n hx hb dX9_holds_69 rfl (lv_at hl 2 rfl) ?_
    refine lv_if_eq (tgt := 77) hx hb dX9_holds_70 (by decide) (fun c13 => ?_) (fun c13 => ?_)
    · have h := h.1 c13
      refine lv_iconst (v := 0) hx hb dX9_holds_77 (by decide) ?_
      exact hret _ _ _ _ _ _ (Or.inl rfl) ⟨_, _, _, _, _, _, _, _, _, _, _, _, _, _, _, rfl, h⟩ hw dX9_holds_78
    · have h := h.2 c13
      refine lv_iconst (v := 1) hx hb dX9_holds_73 (by decide) ?_
      refine lv_goto (tgt := 78) hx hb dX9_holds_74 (by decide) ?_
      exact hret _ _ _ _ _ _ (Or.inr rfl) ⟨_, _, _, _, _, _, _, _, _, _, _, _, _, _, _, rfl, h⟩ hw dX9_holds_78
  · have h := h.2 c5
    by_cases c14 : v4 = 2
    · have h := h.1 c14
      refine lv_tableIn (tgt := 79) (off := 59) hx hb dX9_holds_20 (by rw [c14]; decide) (by rw [c14]; decide) (by rw [c14]; rfl) (by decide) ?_
      refine lv_aload_n hx hb dX9_holds_79 rfl (lv_at hl 3 rfl) ?_
      refine lv_iload_n hx hb dX9_holds_80 rfl (lv_at hl 1 rfl) ?_
      refine lv_iload hx hb dX9_holds_81 (lv_at hl 0 rfl) ?_
      refine g_aI E hw (g_rV E hw (c_X9_setsInput h _) ym_X9_setsInput k_486 ⟨rfl, rfl⟩ ⟨Nat.le_of_ble_eq_true rfl, Nat.le_of_ble_eq_true rfl⟩ 33 rfl rfl rfl rfl hl.1 rfl (Nat.le_of_ble_eq_true rfl) ⟨Nat.zero_le _, Nat.zero_le _⟩ dX9_holds_83) (fun r15 u H locs hq hw => ?_)
      obtain ⟨y16, y17, hu, h⟩ := hq
      rw [hu] at hw
      exact hret _ _ _ _ _ _ h.1 ⟨_, _, _, _, _, _, _, _, _, _, _, _, _, _, _, rfl, h.2⟩ hw dX9_holds_86
    · have h := h.2 c14
      by_cases c18 : v4 = 3
      · have h := h.1 c18
        refine lv_tableIn (tgt := 87) (off := 67) hx hb dX9_holds_20 (by rw [c18]; decide) (by rw [c18]; decide) (by rw [c18]; rfl) (by decide) ?_
        refine lv_aload_n hx hb dX9_holds_87 rfl (lv_at hl 3 rfl) ?_
        refine lv_iload_n hx hb dX9_holds_88 rfl (lv_at hl 1 rfl) ?_
        refine lv_iload hx hb dX9_holds_89 (lv_at hl 0 rfl) ?_
        refine g_aI E hw (g_rV E hw (c_X9_movesGate h _) ym_X9_movesGate k_489 ⟨rfl, rfl⟩ ⟨Nat.le_of_ble_eq_true rfl, Nat.le_of_ble_eq_true rfl⟩ 33 rfl rfl rfl rfl hl.1 rfl (Nat.le_of_ble_eq_true rfl) ⟨Nat.zero_le _, Nat.zero_le _⟩ dX9_holds_91) (fun r19 u H locs hq hw => ?_)
        obtain ⟨y20, hu, h⟩ := hq
        rw [hu] at hw
        exact hret _ _ _ _ _ _ h.1 ⟨_, _, _, _, _, _, _, _, _, _, _, _, _, _, _, rfl, h.2⟩ hw dX9_holds_94
      · have h := h.2 c18
        by_cases c21 : v4 = 4
        · have h := h.1 c21
          refine lv_tableIn (tgt := 95) (off := 75) hx hb dX9_holds_20 (by rw [c21]; decide) (by rw [c21]; decide) (by rw [c21]; rfl) (by decide) ?_
          refine lv_aload_n hx hb dX9_holds_95 rfl (lv_at hl 3 rfl) ?_
          refine lv_iload_n hx hb dX9_holds_96 rfl (lv_at hl 1 rfl) ?_
          refine g_aI E hw (g_rV E hw (c_X9_isGate h _) ym_X9_isGate k_276 ⟨rfl, rfl⟩ ⟨Nat.le_of_ble_eq_true rfl, Nat.le_of_ble_eq_true rfl⟩ 33 rfl rfl rfl rfl hl.1 rfl (Nat.le_of_ble_eq_true rfl) ⟨Nat.zero_le _, Nat.zero_le _⟩ dX9_holds_97) (fun r22 u H locs hq hw => ?_)
          obtain ⟨hu, h⟩ := hq
          rw [hu] at hw
          refine lv_if_eq (tgt := 121) hx hb dX9_holds_100 (by decide) (fun c23 => ?_) (fun c23 => ?_)
          · have h := h.1 c23
            exact J121 f_copy_count f_copy_ones f_copy_pins f_copy_places f_copy_unknowns f_logic_ones f_logic_settled f_logic_unknowns f_sched_available f_sched_coming f_sched_lastSent f_sched_sent f_sched_taken f_sched_waiting f_sched_wanted _ _ _ h hw (lv_sub hl [] rfl)
          · have h := h.2 c23
            refine lv_aload_n hx hb dX9_holds_103 rfl (lv_at hl 3 rfl) ?_
            refine lv_aload_n hx hb dX9_holds_104 rfl (lv_at hl 3 rfl) ?_
            refine gC_X9_40_main E hw dX9_holds_105 ?_
            refine lv_iload_n hx hb dX9_holds_108 rfl (lv_at hl 1 rfl) ?_
            refine g_aI E hw (g_rV E hw (c_X9_valueNow_copy h _) ym_X9_valueNow k_295 ⟨rfl, rfl⟩ ⟨Nat.le_of_ble_eq_true rfl, Nat.le_of_ble_eq_true rfl⟩ 33 rfl rfl rfl rfl hl.1 rfl (Nat.le_of_ble_eq_true rfl) ⟨Nat.zero_le _, Nat.zero_le _⟩ dX9_holds_109) (fun r24 u H locs hq hw => ?_)
            obtain ⟨y25, y26, y27, hu, h⟩ := hq
            rw [hu] at hw
            refine lv_iload hx hb dX9_holds_112 (lv_at hl 0 rfl) ?_
            refine lv_icmp_ne (tgt := 121) hx hb dX9_holds_114 (by decide) (fun c28 => ?_) (fun c28 => ?_)
            · have h := h.1 c28
              exact J121 f_copy_count f_copy_ones f_copy_pins f_copy_places f_copy_unknowns y25 y26 y27 f_sched_available f_sched_coming f_sched_lastSent f_sched_sent f_sched_taken f_sched_waiting f_sched_wanted _ _ _ h hw (lv_sub hl [] rfl)
            · have h := h.2 c28
              refine lv_iconst (v := 1) hx hb dX9_holds_117 (by decide) ?_
              refine lv_goto (tgt := 122) hx hb dX9_holds_118 (by decide) ?_
              exact hret _ _ _ _ _ _ (Or.inr rfl) ⟨_, _, _, _, _, _, _, _, _, _, _, _, _, _, _, rfl, h⟩ hw dX9_holds_122
        · have h := h.2 c21
          by_cases c29 : v4 = 5
          · have h := h.1 c29
            refine lv_tableIn (tgt := 123) (off := 103) hx hb dX9_holds_20 (by rw [c29]; decide) (by rw [c29]; decide) (by rw [c29]; rfl) (by decide) ?_
            refine lv_aload_n hx hb dX9_holds_123 rfl (lv_at hl 3 rfl) ?_
            refine gC_X9_53_main E hw dX9_holds_124 ?_
            refine lv_aload_n hx hb dX9_holds_127 rfl (lv_at hl 3 rfl) ?_
            refine gC_X9_26_main E hw dX9_holds_128 ?_
            refine lv_aload_n hx hb dX9_holds_131 rfl (lv_at hl 3 rfl) ?_
            refine gC_X9_40_main E hw dX9_holds_132 ?_
            refine gC_X9_120_copy E hw dX9_holds_135 ?_
            refine lv_aload_n hx hb dX9_holds_138 rfl (lv_at hl 3 rfl) ?_
            refine gC_X9_40_main E hw dX9_holds_139 ?_
            refine gC_X9_180_copy E hw dX9_holds_142 ?_
            refine g_aV E hw (g_rV E hw (c_X4_run_plan h _) ym_X4_run k_457 ⟨rfl, rfl⟩ ⟨Nat.le_of_ble_eq_true rfl, Nat.le_of_ble_eq_true rfl⟩ 14 rfl rfl rfl rfl hl.1 rfl (Nat.le_of_ble_eq_true rfl) ⟨Nat.zero_le _, Nat.zero_le _⟩ dX9_holds_145) (fun u H locs hq hw => ?_)
            obtain ⟨y31, y32, y33, y34, y35, y36, y37, hu, h⟩ := hq
            rw [hu] at hw
            refine lv_aload_n hx hb dX9_holds_148 rfl (lv_at hl 3 rfl) ?_
            refine gC_X9_53_main E hw dX9_holds_149 ?_
            refine gC_X9_210_sched E hw dX9_holds_152 ?_
            refine lv_iload_n hx hb dX9_holds_155 rfl (lv_at hl 2 rfl) ?_
            refine lv_icmp_ne (tgt := 163) hx hb dX9_holds_156 (by decide) (fun c38 => ?_) (fun c38 => ?_)
            · have h := h.1 c38
              refine lv_iconst (v := 0) hx hb dX9_holds_163 (by decide) ?_
              exact hret _ _ _ _ _ _ (Or.inl rfl) ⟨_, _, _, _, _, _, _, _, _, _, _, _, _, _, _, rfl, h⟩ hw dX9_holds_164
            · have h := h.2 c38
              refine lv_iconst (v := 1) hx hb dX9_holds_159 (by decide) ?_
              refine lv_goto (tgt := 164) hx hb dX9_holds_160 (by decide) ?_
              exact hret _ _ _ _ _ _ (Or.inr rfl) ⟨_, _, _, _, _, _, _, _, _, _, _, _, _, _, _, rfl, h⟩ hw dX9_holds_164
          · have h := h.2 c29
            by_cases c39 : v4 = 6
            · have h := h.1 c39
              refine lv_tableIn (tgt := 165) (off := 145) hx hb dX9_holds_20 (by rw [c39]; decide) (by rw [c39]; decide) (by rw [c39]; rfl) (by decide) ?_
              refine lv_iload_n hx hb dX9_holds_165 rfl (lv_at hl 1 rfl) ?_
              refine lv_if_ne (tgt := 182) hx hb dX9_holds_166 (by decide) (fun c40 => ?_) (fun c40 => ?_)
              · have h := h.1 c40
                exact J182 f_copy_count f_copy_ones f_copy_pins f_copy_places f_copy_unknowns f_logic_ones f_logic_settled f_logic_unknowns f_sched_available f_sched_coming f_sched_lastSent f_sched_sent f_sched_taken f_sched_waiting f_sched_wanted _ _ _ h hw (lv_sub hl [] rfl)
              · have h := h.2 c40
                refine lv_aload_n hx hb dX9_holds_169 rfl (lv_at hl 3 rfl) ?_
                refine lv_iload hx hb dX9_holds_170 (lv_at hl 0 rfl) ?_
                refine g_aI E hw (g_rV E hw (c_X9_setsPins h _) ym_X9_setsPins k_492 ⟨rfl, rfl⟩ ⟨Nat.le_of_ble_eq_true rfl, Nat.le_of_ble_eq_true rfl⟩ 33 rfl rfl rfl rfl hl.1 rfl (Nat.le_of_ble_eq_true rfl) ⟨Nat.zero_le _, Nat.zero_le _⟩ dX9_holds_172) (fun r41 u H locs hq hw => ?_)
                obtain ⟨y42, hu, h⟩ := hq
                rw [hu] at hw
                refine lv_if_eq (tgt := 182) hx hb dX9_holds_175 (by decide) (fun c43 => ?_) (fun c43 => ?_)
                · have h := h.1 c43
                  exact J182 f_copy_count f_copy_ones y42 f_copy_places f_copy_unknowns f_logic_ones f_logic_settled f_logic_unknowns f_sched_available f_sched_coming f_sched_lastSent f_sched_sent f_sched_taken f_sched_waiting f_sched_wanted _ _ _ h hw (lv_sub hl [] rfl)
                · have h := h.2 c43
                  refine lv_iconst (v := 1) hx hb dX9_holds_178 (by decide) ?_
                  refine lv_goto (tgt := 183) hx hb dX9_holds_179 (by decide) ?_
                  exact hret _ _ _ _ _ _ (Or.inr rfl) ⟨_, _, _, _, _, _, _, _, _, _, _, _, _, _, _, rfl, h⟩ hw dX9_holds_183
            · have h := h.2 c39
              have nc5 := lv_neT c5 (a := 1) rfl
              have nc14 := lv_neT c14 (a := 2) rfl
              have nc18 := lv_neT c18 (a := 3) rfl
              have nc21 := lv_neT c21 (a := 4) rfl
              have nc29 := lv_neT c29 (a := 5) rfl
              have nc39 := lv_neT c39 (a := 6) rfl
              refine lv_tableOut (tgt := 184) hx hb dX9_holds_20 (by omega) (by decide) ?_
              refine lv_iconst (v := 0) hx hb dX9_holds_184 (by decide) ?_
              exact hret _ _ _ _ _ _ (Or.inl rfl) ⟨_, _, _, _, _, _, _, _, _, _, _, _, _, _, _, rfl, h⟩ hw dX9_holds_185
set_option maxRecDepth 100000 in
set_option maxHeartbeats 4000000 in
theorem c_X9_judge {l : Launch} {D : va_G} {cI cZ : ClassId} {ad : Nat → Nat} {f_keptSlots : Int32} {f_trace : Nat → Int32} {f_lastSeed : Int64} {f_text_letters : Nat → Int32} {f_text_length : Int32} {f_reader_place : Int32} {f_reader_greatestSource : Int32} {f_plan_chips : Int32} {f_plan_firstPins : Int32} {f_plan_firstPlaces : Int32} {f_plan_gates : Int32} {f_plan_inputs : Int32} {f_plan_registers : Int32} {f_plan_slowRegisters : Int32} {f_plan_kinds : Nat → Int32} {f_plan_firsts : Nat → Int32} {f_plan_seconds : Nat → Int32} {f_plan_clocks : Nat → Int32} {f_plan_sourceSets : Nat → Int32} {f_spare_chips : Int32} {f_spare_firstPins : Int32} {f_spare_firstPlaces : Int32} {f_spare_gates : Int32} {f_spare_inputs : Int32} {f_spare_registers : Int32} {f_spare_slowRegisters : Int32} {f_spare_kinds : Nat → Int32} {f_spare_firsts : Nat → Int32} {f_spare_seconds : Nat → Int32} {f_spare_clocks : Nat → Int32} {f_spare_sourceSets : Nat → Int32} {f_now_ones : Int32} {f_now_unknowns : Int32} {f_now_places : Int32} {f_now_pins : Int32} {f_now_count : Int32} {f_copy_ones : Int32} {f_copy_unknowns : Int32} {f_copy_places : Int32} {f_copy_pins : Int32} {f_copy_count : Int32} {f_logic_ones : Int32} {f_logic_unknowns : Int32} {f_logic_settled : Int32} {f_sched_available : Nat → Int32} {f_sched_wanted : Nat → Int32} {f_sched_coming : Nat → Int32} {f_sched_waiting : Int32} {f_sched_taken : Int32} {f_sched_sent : Int32} {f_sched_lastSent : Int32} {f_hist_next : Int32} {f_hist_held : Int32} {f_ring_cells : Nat → Int32} {f_kept_cells : Nat → Int32} {f_sight_steps : Nat → Int32} {f_sight_gates : Nat → Int32} {f_sight_values : Nat → Int32} {f_sight_truths : Nat → Int32} {f_sight_held : Int32} {X : va_W} {p1 : Int32} {p2 : Int64} {Q : Int32 → Int32 → Int32 → Int32 → Int32 → Int32 → Int32 → Int32 → Int32 → (Nat → Int32) → (Nat → Int32) → Int32 → Int32 → Int32 → Int32 → (Nat → Int32) → Prop} (h : wp_X9_judge f_copy_count f_copy_ones f_copy_pins f_copy_places f_copy_unknowns f_logic_ones f_logic_settled f_logic_unknowns f_now_count f_now_ones f_now_pins f_now_places f_now_unknowns f_plan_chips f_plan_firsts f_plan_gates f_plan_inputs f_plan_kinds f_plan_registers f_plan_seconds f_plan_slowRegisters f_plan_sourceSets f_sched_available f_sched_coming f_sched_lastSent f_sched_sent f_sched_taken f_sched_waiting f_sched_wanted p1 p2 Q) : CtI l yX9_judge cX9_judge 5 (some .int) ({ frames := 6, cells := 0, slots := 0, locals := 142 } : Room) D [(cI, .int), (cZ, .boolean)] [.ref (ad 33), .int p1, .long p2] (wC ad cI cZ f_keptSlots f_trace f_lastSeed f_text_letters f_text_length f_reader_place f_reader_greatestSource f_plan_chips f_plan_firstPins f_plan_firstPlaces f_plan_gates f_plan_inputs f_plan_registers f_plan_slowRegisters f_plan_kinds f_plan_firsts f_plan_seconds f_plan_clocks f_plan_sourceSets f_spare_chips f_spare_firstPins f_spare_firstPlaces f_spare_gates f_spare_inputs f_spare_registers f_spare_slowRegisters f_spare_kinds f_spare_firsts f_spare_seconds f_spare_clocks f_spare_sourceSets f_now_ones f_now_unknowns f_now_places f_now_pins f_now_count f_copy_ones f_copy_unknowns f_copy_places f_copy_pins f_copy_count f_logic_ones f_logic_unknowns f_logic_settled f_sched_available f_sched_wanted f_sched_coming f_sched_waiting f_sched_taken f_sched_sent f_sched_lastSent f_hist_next f_hist_held f_ring_cells f_kept_cells f_sight_steps f_sight_gates f_sight_values f_sight_truths f_sight_held X) (fun r u => ∃ w0 w1 w2 w3 w4 w5 w6 w7 w8 w9 w10 w11 w12 w13 w14, u = (wC ad cI cZ f_keptSlots f_trace f_lastSeed f_text_letters f_text_length f_reader_place f_reader_greatestSource f_plan_chips f_plan_firstPins f_plan_firstPlaces f_plan_gates f_plan_inputs f_plan_registers f_plan_slowRegisters f_plan_kinds f_plan_firsts f_plan_seconds f_plan_clocks f_plan_sourceSets f_spare_chips f_spare_firstPins f_spare_firstPlaces f_spare_gates f_spare_inputs f_spare_registers f_spare_slowRegisters f_spare_kinds f_spare_firsts f_spare_seconds f_spare_clocks f_spare_sourceSets f_now_ones f_now_unknowns f_now_places f_now_pins f_now_count w1 w4 w3 w2 w0 w5 w7 w6 w8 w14 w9 w13 w12 w11 w10 f_hist_next f_hist_held f_ring_cells f_kept_cells f_sight_steps f_sight_gates f_sight_values f_sight_truths f_sight_held X) ∧ Q r w0 w1 w2 w3 w4 w5 w6 w7 w8 w9 w10 w11 w12 w13 w14) := by
  refine CtI.of (by decide) rfl (Nat.le_of_ble_eq_true rfl) ?_
  intro p e s m args below meth c A Z E hret ls hl hw
  have E : gE p m c cX9_judge 5 s args RX9 D [(cI, .int), (cZ, .boolean)] A := E
  have hx := E.1.1
  have hb := E.1.2.1
  have hl : lv_has ls 5 [(0, .ref (ad 33)), (1, .int p1), (2, .long p2)] := hl
  have L45 : ∀ (n : Nat) (x4 : Int32) (f_copy_count : Int32) (f_copy_ones : Int32) (f_copy_pins : Int32) (f_copy_places : Int32) (f_copy_unknowns : Int32) (f_logic_ones : Int32) (f_logic_settled : Int32) (f_logic_unknowns : Int32) (f_sched_available : Nat → Int32) (f_sched_coming : Nat → Int32) (f_sched_lastSent : Int32) (f_sched_sent : Int32) (f_sched_taken : Int32) (f_sched_waiting : Int32) (f_sched_wanted : Nat → Int32) (H : Heap) (locs : List Loc) (ls : Array Slot), wp_X9_judge_h45 f_now_count f_now_ones f_now_pins f_now_places f_now_unknowns f_plan_chips f_plan_firsts f_plan_gates f_plan_inputs f_plan_kinds f_plan_registers f_plan_seconds f_plan_slowRegisters f_plan_sourceSets p1 p2 Q  n x4 f_copy_count f_copy_ones f_copy_pins f_copy_places f_copy_unknowns f_logic_ones f_logic_settled f_logic_unknowns f_sched_available f_sched_coming f_sched_lastSent f_sched_sent f_sched_taken f_sched_waiting f_sched_wanted → gW D s A (wC ad cI cZ f_keptSlots f_trace f_lastSeed f_text_letters f_text_length f_reader_place f_reader_greatestSource f_plan_chips f_plan_firstPins f_plan_firstPlaces f_plan_gates f_plan_inputs f_plan_registers f_plan_slowRegisters f_plan_kinds f_plan_firsts f_plan_seconds f_plan_clocks f_plan_sourceSets f_spare_chips f_spare_firstPins f_spare_firstPlaces f_spare_gates f_spare_inputs f_spare_registers f_spare_slowRegisters f_spare_kinds f_spare_firsts f_spare_seconds f_spare_clocks f_spare_sourceSets f_now_ones f_now_unknowns f_now_places f_now_pins f_now_count f_copy_ones f_copy_unknowns f_copy_places f_copy_pins f_copy_count f_logic_ones f_logic_unknowns f_logic_settled f_sched_available f_sched_wanted f_sched_coming f_sched_waiting f_sched_taken f_sched_sent f_sched_lastSent f_hist_next f_hist_held f_ring_cells f_kept_cells f_sight_steps f_sight_gates f_sight_values f_sight_truths f_sight_held X) H locs → lv_has ls 5 [(0, .ref (ad 33)), (1, .int p1), (2, .long p2), (4, .int x4)] → W p l e ({ frames := 6, cells := 0, slots := 0, locals := 142 } : Room) s m args below meth c H locs 0 0 Z (F0 m 45 ls []) := by
    intro n
    induction n with
    | zero => intro x4 f_copy_count f_copy_ones f_copy_pins f_copy_places f_copy_unknowns f_logic_ones f_logic_settled f_logic_unknowns f_sched_available f_sched_coming f_sched_lastSent f_sched_sent f_sched_taken f_sched_waiting f_sched_wanted H locs ls h; exact False.elim h
    | succ n45 ih45 =>
      intro x4 f_copy_count f_copy_ones f_copy_pins f_copy_places f_copy_unknowns f_logic_ones f_logic_settled f_logic_unknowns f_sched_available f_sched_coming f_sched_lastSent f_sched_sent f_sched_taken f_sched_waiting f_sched_wanted H locs ls h hw hl
      have h : wp_X9_judge_b45 f_now_count f_now_ones f_now_pins f_now_places f_now_unknowns f_plan_chips f_plan_firsts f_plan_gates f_plan_inputs f_plan_kinds f_plan_registers f_plan_seconds f_plan_slowRegisters f_plan_sourceSets p1 p2 Q (wp_X9_judge_h45 f_now_count f_now_ones f_now_pins f_now_places f_now_unknowns f_plan_chips f_plan_firsts f_plan_gates f_plan_inputs f_plan_kinds f_plan_registers f_plan_seconds f_plan_slowRegisters f_plan_sourceSets p1 p2 Q  n45) x4 f_copy_count f_copy_ones f_copy_pins f_copy_places f_copy_unknowns f_logic_ones f_logic_settled f_logic_unknowns f_sched_available f_sched_coming f_sched_lastSent f_sched_sent f_sched_taken f_sched_waiting f_sched_wanted := h
      unfold wp_X9_judge_b45 at h
      refine lv_iload hx hb dX9_judge_45 (lv_at hl 3 rfl) ?_
      refine lv_iload_n hx hb dX9_judge_47 rfl (lv_at hl 1 rfl) ?_
      refine lv_icmp_ge (tgt := 77) hx hb dX9_judge_48 (by decide) (fun c1 => ?_) (fun c1 => ?_)
      · have h := h.1 c1
        refine lv_bipush (v := -9) hx hb dX9_judge_77 (by decide) ?_
        exact hret _ _ _ _ _ _ ⟨_, _, _, _, _, _, _, _, _, _, _, _, _, _, _, rfl, h⟩ hw dX9_judge_79
      · have h := h.2 c1
        refine lv_aload_n hx hb dX9_judge_51 rfl (lv_at hl 0 rfl) ?_
        refine lv_lload_n hx hb dX9_judge_52 rfl (lv_at hl 2 rfl) ?_
        refine lv_iload_n hx hb dX9_judge_53 rfl (lv_at hl 1 rfl) ?_
        refine lv_iconst (v := 1) hx hb dX9_judge_54 (by decide) ?_
        refine lv_isub hx hb dX9_judge_55 ?_
        refine lv_iload hx hb dX9_judge_56 (lv_at hl 3 rfl) ?_
        refine lv_isub hx hb dX9_judge_58 ?_
        refine g_aI E hw (g_rS E hw (c_X9_statementOf h _) ym_X9_statementOf k_479 ⟨rfl, rfl⟩ ⟨Nat.le_of_ble_eq_true rfl, Nat.le_of_ble_eq_true rfl⟩ rfl hl.1 rfl (Nat.le_of_ble_eq_true rfl) ⟨Nat.zero_le _, Nat.zero_le _⟩ dX9_judge_59) (fun r2 u H locs hq hw => ?_)
        obtain ⟨hu, h⟩ := hq
        rw [hu] at hw
        refine g_aI E hw (g_rV E hw (c_X9_holds h _) ym_X9_holds k_483 ⟨rfl, rfl⟩ ⟨Nat.le_of_ble_eq_true rfl, Nat.le_of_ble_eq_true rfl⟩ 33 rfl rfl rfl rfl hl.1 rfl (Nat.le_of_ble_eq_true rfl) ⟨Nat.zero_le _, Nat.zero_le _⟩ dX9_judge_62) (fun r3 u H locs hq hw => ?_)
        obtain ⟨y4, y5, y6, y7, y8, y9, y10, y11, y12, y13, y14, y15, y16, y17, y18, hu, h⟩ := hq
        rw [hu] at hw
        refine lv_if_ne (tgt := 71) hx hb dX9_judge_65 (by decide) (fun c19 => ?_) (fun c19 => ?_)
        · have h := h.1 c19
          obtain ⟨v20, ev20⟩ : ∃ y : Int32, y = x4 + 1 := ⟨_, rfl⟩
          have h := h v20 ev20
          refine lv_iinc (v := v20) (lv' := [(4, .int v20), (0, .ref (ad 33)), (1, .int p1), (2, .long p2)]) hx hb dX9_judge_71 hl (k := 3) rfl (by rw [ev20]; rfl) (by decide) rfl (fun ls hl => ?_)
          refine lv_goto (tgt := 45) hx hb dX9_judge_74 (by decide) ?_
          exact ih45 v20 y4 y5 y6 y7 y8 y9 y10 y11 y12 y13 y14 y15 y16 y17 y18 _ _ _ h hw (lv_sub hl [1, 2, 3, 0] rfl)
        · have h := h.2 c19
          refine lv_iload hx hb dX9_judge_68 (lv_at hl 3 rfl) ?_
          exact hret _ _ _ _ _ _ ⟨_, _, _, _, _, _, _, _, _, _, _, _, _, _, _, rfl, h⟩ hw dX9_judge_70
  unfold wp_X9_judge at h
  refine lv_iload_n hx hb dX9_judge_0 rfl (lv_at hl 1 rfl) ?_
  refine lv_iconst (v := 1) hx hb dX9_judge_1 (by decide) ?_
  refine lv_icmp_lt (tgt := 28) hx hb dX9_judge_2 (by decide) (fun c21 => ?_) (fun c21 => ?_)
  · have h := h.1 c21
    refine lv_bipush (v := -2) hx hb dX9_judge_28 (by decide) ?_
    exact hret _ _ _ _ _ _ ⟨_, _, _, _, _, _, _, _, _, _, _, _, _, _, _, rfl, h⟩ hw dX9_judge_30
  · have h := h.2 c21
    refine lv_iload_n hx hb dX9_judge_5 rfl (lv_at hl 1 rfl) ?_
    refine lv_iconst (v := 4) hx hb dX9_judge_6 (by decide) ?_
    refine lv_icmp_gt (tgt := 28) hx hb dX9_judge_7 (by decide) (fun c22 => ?_) (fun c22 => ?_)
    · have h := h.1 c22
      refine lv_bipush (v := -2) hx hb dX9_judge_28 (by decide) ?_
      exact hret _ _ _ _ _ _ ⟨_, _, _, _, _, _, _, _, _, _, _, _, _, _, _, rfl, h⟩ hw dX9_judge_30
    · have h := h.2 c22
      refine lv_lload_n hx hb dX9_judge_10 rfl (lv_at hl 2 rfl) ?_
      refine lv_lconst (v := 0) hx hb dX9_judge_11 (by decide) ?_
      refine W.lcmp hx hb dX9_judge_12 ?_
      refine lv_if_lt (tgt := 28) hx hb dX9_judge_13 (by decide) (fun c23 => ?_) (fun c23 => ?_)
      · have h := h.1 c23
        refine lv_bipush (v := -2) hx hb dX9_judge_28 (by decide) ?_
        exact hret _ _ _ _ _ _ ⟨_, _, _, _, _, _, _, _, _, _, _, _, _, _, _, rfl, h⟩ hw dX9_judge_30
      · have h := h.2 c23
        refine lv_lload_n hx hb dX9_judge_16 rfl (lv_at hl 2 rfl) ?_
        refine lv_sipush (v := 1000) hx hb dX9_judge_17 (by decide) ?_
        refine lv_iload_n hx hb dX9_judge_20 rfl (lv_at hl 1 rfl) ?_
        refine g_aL E hw (g_rS E hw (c_X9_power h _) ym_X9_power k_476 ⟨rfl, rfl⟩ ⟨Nat.le_of_ble_eq_true rfl, Nat.le_of_ble_eq_true rfl⟩ rfl hl.1 rfl (Nat.le_of_ble_eq_true rfl) ⟨Nat.zero_le _, Nat.zero_le _⟩ dX9_judge_21) (fun r24 u H locs hq hw => ?_)
        obtain ⟨hu, h⟩ := hq
        rw [hu] at hw
        refine W.lcmp hx hb dX9_judge_24 ?_
        refine lv_if_lt (tgt := 31) hx hb dX9_judge_25 (by decide) (fun c25 => ?_) (fun c25 => ?_)
        · have h := h.1 c25
          refine lv_aload_n hx hb dX9_judge_31 rfl (lv_at hl 0 rfl) ?_
          refine gC_X9_40_main E hw dX9_judge_32 ?_
          refine lv_aload_n hx hb dX9_judge_35 rfl (lv_at hl 0 rfl) ?_
          refine gC_X9_36_main E hw dX9_judge_36 ?_
          refine g_aV E hw (g_rV E hw (c_X7_takeFrom_now_copy h _) ym_X7_takeFrom k_394 ⟨rfl, rfl⟩ ⟨Nat.le_of_ble_eq_true rfl, Nat.le_of_ble_eq_true rfl⟩ 16 rfl rfl rfl rfl hl.1 rfl (Nat.le_of_ble_eq_true rfl) ⟨Nat.zero_le _, Nat.zero_le _⟩ dX9_judge_39) (fun u H locs hq hw => ?_)
          obtain ⟨y27, y28, y29, y30, y31, hu, h⟩ := hq
          rw [hu] at hw
          refine lv_iconst (v := 0) hx hb dX9_judge_42 (by decide) ?_
          refine lv_istore (lv' := [(4, .int (0 : Int32)), (0, .ref (ad 33)), (1, .int p1), (2, .long p2)]) hx hb dX9_judge_43 hl (by decide) rfl (fun ls hl => ?_)
          obtain ⟨n, h⟩ := h
          exact L45 n (0 : Int32) y27 y28 y29 y30 y31 f_logic_ones f_logic_settled f_logic_unknowns f_sched_available f_sched_coming f_sched_lastSent f_sched_sent f_sched_taken f_sched_waiting f_sched_wanted _ _ _ h hw (lv_sub hl [1, 2, 3, 0] rfl)
        · have h := h.2 c25
          refine lv_bipush (v := -2) hx hb dX9_judge_28 (by decide) ?_
          exact hret _ _ _ _ _ _ ⟨_, _, _, _, _, _, _, _, _, _, _, _, _, _, _, rfl, h⟩ hw dX9_judge_30
set_option maxRecDepth 100000 in
set_option maxHeartbeats 4000000 in
theorem c_X9_see {l : Launch} {D : va_G} {cI cZ : ClassId} {ad : Nat → Nat} {f_keptSlots : Int32} {f_trace : Nat → Int32} {f_lastSeed : Int64} {f_text_letters : Nat → Int32} {f_text_length : Int32} {f_reader_place : Int32} {f_reader_greatestSource : Int32} {f_plan_chips : Int32} {f_plan_firstPins : Int32} {f_plan_firstPlaces : Int32} {f_plan_gates : Int32} {f_plan_inputs : Int32} {f_plan_registers : Int32} {f_plan_slowRegisters : Int32} {f_plan_kinds : Nat → Int32} {f_plan_firsts : Nat → Int32} {f_plan_seconds : Nat → Int32} {f_plan_clocks : Nat → Int32} {f_plan_sourceSets : Nat → Int32} {f_spare_chips : Int32} {f_spare_firstPins : Int32} {f_spare_firstPlaces : Int32} {f_spare_gates : Int32} {f_spare_inputs : Int32} {f_spare_registers : Int32} {f_spare_slowRegisters : Int32} {f_spare_kinds : Nat → Int32} {f_spare_firsts : Nat → Int32} {f_spare_seconds : Nat → Int32} {f_spare_clocks : Nat → Int32} {f_spare_sourceSets : Nat → Int32} {f_now_ones : Int32} {f_now_unknowns : Int32} {f_now_places : Int32} {f_now_pins : Int32} {f_now_count : Int32} {f_copy_ones : Int32} {f_copy_unknowns : Int32} {f_copy_places : Int32} {f_copy_pins : Int32} {f_copy_count : Int32} {f_logic_ones : Int32} {f_logic_unknowns : Int32} {f_logic_settled : Int32} {f_sched_available : Nat → Int32} {f_sched_wanted : Nat → Int32} {f_sched_coming : Nat → Int32} {f_sched_waiting : Int32} {f_sched_taken : Int32} {f_sched_sent : Int32} {f_sched_lastSent : Int32} {f_hist_next : Int32} {f_hist_held : Int32} {f_ring_cells : Nat → Int32} {f_kept_cells : Nat → Int32} {f_sight_steps : Nat → Int32} {f_sight_gates : Nat → Int32} {f_sight_values : Nat → Int32} {f_sight_truths : Nat → Int32} {f_sight_held : Int32} {X : va_W} {p1 : Int32} {p2 : Int32} {p3 : Int32} {p4 : Int32} {Q : Int32 → (Nat → Int32) → Int32 → (Nat → Int32) → (Nat → Int32) → (Nat → Int32) → Prop} (h : wp_X9_see f_plan_gates f_sight_gates f_sight_held f_sight_steps f_sight_truths f_sight_values p1 p2 p3 p4 Q) : CtI l yX9_see cX9_see 5 (some .int) ({ frames := 2, cells := 0, slots := 0, locals := 46 } : Room) D [(cI, .int), (cZ, .boolean)] [.ref (ad 33), .int p1, .int p2, .int p3, .int p4] (wC ad cI cZ f_keptSlots f_trace f_lastSeed f_text_letters f_text_length f_reader_place f_reader_greatestSource f_plan_chips f_plan_firstPins f_plan_firstPlaces f_plan_gates f_plan_inputs f_plan_registers f_plan_slowRegisters f_plan_kinds f_plan_firsts f_plan_seconds f_plan_clocks f_plan_sourceSets f_spare_chips f_spare_firstPins f_spare_firstPlaces f_spare_gates f_spare_inputs f_spare_registers f_spare_slowRegisters f_spare_kinds f_spare_firsts f_spare_seconds f_spare_clocks f_spare_sourceSets f_now_ones f_now_unknowns f_now_places f_now_pins f_now_count f_copy_ones f_copy_unknowns f_copy_places f_copy_pins f_copy_count f_logic_ones f_logic_unknowns f_logic_settled f_sched_available f_sched_wanted f_sched_coming f_sched_waiting f_sched_taken f_sched_sent f_sched_lastSent f_hist_next f_hist_held f_ring_cells f_kept_cells f_sight_steps f_sight_gates f_sight_values f_sight_truths f_sight_held X) (fun r u => ∃ w0 w1 w2 w3 w4, u = (wC ad cI cZ f_keptSlots f_trace f_lastSeed f_text_letters f_text_length f_reader_place f_reader_greatestSource f_plan_chips f_plan_firstPins f_plan_firstPlaces f_plan_gates f_plan_inputs f_plan_registers f_plan_slowRegisters f_plan_kinds f_plan_firsts f_plan_seconds f_plan_clocks f_plan_sourceSets f_spare_chips f_spare_firstPins f_spare_firstPlaces f_spare_gates f_spare_inputs f_spare_registers f_spare_slowRegisters f_spare_kinds f_spare_firsts f_spare_seconds f_spare_clocks f_spare_sourceSets f_now_ones f_now_unknowns f_now_places f_now_pins f_now_count f_copy_ones f_copy_unknowns f_copy_places f_copy_pins f_copy_count f_logic_ones f_logic_unknowns f_logic_settled f_sched_available f_sched_wanted f_sched_coming f_sched_waiting f_sched_taken f_sched_sent f_sched_lastSent f_hist_next f_hist_held f_ring_cells f_kept_cells w2 w0 w4 w3 w1 X) ∧ Q r w0 w1 w2 w3 w4) := by
  refine CtI.of (by decide) rfl (Nat.le_of_ble_eq_true rfl) ?_
  intro p e s m args below meth c A Z E hret ls hl hw
  have E : gE p m c cX9_see 5 s args RX9 D [(cI, .int), (cZ, .boolean)] A := E
  have hx := E.1.1
  have hb := E.1.2.1
  have hl : lv_has ls 5 [(0, .ref (ad 33)), (1, .int p1), (2, .int p2), (3, .int p3), (4, .int p4)] := hl
  unfold wp_X9_see at h
  refine lv_aload_n hx hb dX9_see_0 rfl (lv_at hl 0 rfl) ?_
  refine lv_iload_n hx hb dX9_see_1 rfl (lv_at hl 2 rfl) ?_
  refine g_aI E hw (g_rV E hw (c_X9_isGate h _) ym_X9_isGate k_276 ⟨rfl, rfl⟩ ⟨Nat.le_of_ble_eq_true rfl, Nat.le_of_ble_eq_true rfl⟩ 33 rfl rfl rfl rfl hl.1 rfl (Nat.le_of_ble_eq_true rfl) ⟨Nat.zero_le _, Nat.zero_le _⟩ dX9_see_2) (fun r1 u H locs hq hw => ?_)
  obtain ⟨hu, h⟩ := hq
  rw [hu] at hw
  refine lv_if_ne (tgt := 10) hx hb dX9_see_5 (by decide) (fun c2 => ?_) (fun c2 => ?_)
  · have h := h.1 c2
    refine lv_iload_n hx hb dX9_see_10 rfl (lv_at hl 1 rfl) ?_
    refine lv_if_lt (tgt := 38) hx hb dX9_see_11 (by decide) (fun c3 => ?_) (fun c3 => ?_)
    · have h := h.1 c3
      refine lv_bipush (v := -2) hx hb dX9_see_38 (by decide) ?_
      exact hret _ _ _ _ _ _ ⟨_, _, _, _, _, rfl, h⟩ hw dX9_see_40
    · have h := h.2 c3
      refine lv_iload_n hx hb dX9_see_14 rfl (lv_at hl 1 rfl) ?_
      refine lv_bipush (v := 9) hx hb dX9_see_15 (by decide) ?_
      refine lv_icmp_gt (tgt := 38) hx hb dX9_see_17 (by decide) (fun c4 => ?_) (fun c4 => ?_)
      · have h := h.1 c4
        refine lv_bipush (v := -2) hx hb dX9_see_38 (by decide) ?_
        exact hret _ _ _ _ _ _ ⟨_, _, _, _, _, rfl, h⟩ hw dX9_see_40
      · have h := h.2 c4
        refine lv_iload_n hx hb dX9_see_20 rfl (lv_at hl 3 rfl) ?_
        refine g_aI E hw (g_rS E hw (c_X9_isValue h _) ym_X9_isValue k_361 ⟨rfl, rfl⟩ ⟨Nat.le_of_ble_eq_true rfl, Nat.le_of_ble_eq_true rfl⟩ rfl hl.1 rfl (Nat.le_of_ble_eq_true rfl) ⟨Nat.zero_le _, Nat.zero_le _⟩ dX9_see_21) (fun r5 u H locs hq hw => ?_)
        obtain ⟨hu, h⟩ := hq
        rw [hu] at hw
        refine lv_if_eq (tgt := 38) hx hb dX9_see_24 (by decide) (fun c6 => ?_) (fun c6 => ?_)
        · have h := h.1 c6
          refine lv_bipush (v := -2) hx hb dX9_see_38 (by decide) ?_
          exact hret _ _ _ _ _ _ ⟨_, _, _, _, _, rfl, h⟩ hw dX9_see_40
        · have h := h.2 c6
          refine lv_iload hx hb dX9_see_27 (lv_at hl 4 rfl) ?_
          refine lv_if_lt (tgt := 38) hx hb dX9_see_29 (by decide) (fun c7 => ?_) (fun c7 => ?_)
          · have h := h.1 c7
            refine lv_bipush (v := -2) hx hb dX9_see_38 (by decide) ?_
            exact hret _ _ _ _ _ _ ⟨_, _, _, _, _, rfl, h⟩ hw dX9_see_40
          · have h := h.2 c7
            refine lv_iload hx hb dX9_see_32 (lv_at hl 4 rfl) ?_
            refine lv_iconst (v := 1) hx hb dX9_see_34 (by decide) ?_
            refine lv_icmp_le (tgt := 41) hx hb dX9_see_35 (by decide) (fun c8 => ?_) (fun c8 => ?_)
            · have h := h.1 c8
              refine lv_aload_n hx hb dX9_see_41 rfl (lv_at hl 0 rfl) ?_
              refine gC_X9_80_main E hw dX9_see_42 ?_
              refine lv_iload_n hx hb dX9_see_45 rfl (lv_at hl 1 rfl) ?_
              refine lv_iload_n hx hb dX9_see_46 rfl (lv_at hl 2 rfl) ?_
              refine lv_iload_n hx hb dX9_see_47 rfl (lv_at hl 3 rfl) ?_
              refine lv_iload hx hb dX9_see_48 (lv_at hl 4 rfl) ?_
              refine g_aI E hw (g_rV E hw (c_X6_add h _) ym_X6_add k_499 ⟨rfl, rfl⟩ ⟨Nat.le_of_ble_eq_true rfl, Nat.le_of_ble_eq_true rfl⟩ 5 rfl rfl rfl rfl hl.1 rfl (Nat.le_of_ble_eq_true rfl) ⟨Nat.zero_le _, Nat.zero_le _⟩ dX9_see_50) (fun r9 u H locs hq hw => ?_)
              obtain ⟨y10, y11, y12, y13, y14, hu, h⟩ := hq
              rw [hu] at hw
              refine lv_if_eq (tgt := 66) hx hb dX9_see_53 (by decide) (fun c15 => ?_) (fun c15 => ?_)
              · have h := h.1 c15
                refine lv_bipush (v := -4) hx hb dX9_see_66 (by decide) ?_
                exact hret _ _ _ _ _ _ ⟨_, _, _, _, _, rfl, h⟩ hw dX9_see_68
              · have h := h.2 c15
                refine lv_aload_n hx hb dX9_see_56 rfl (lv_at hl 0 rfl) ?_
                refine gC_X9_80_main E hw dX9_see_57 ?_
                refine gC_X9_237_sight E hw dX9_see_60 ?_
                refine lv_goto (tgt := 68) hx hb dX9_see_63 (by decide) ?_
                exact hret _ _ _ _ _ _ ⟨_, _, _, _, _, rfl, h⟩ hw dX9_see_68
            · have h := h.2 c8
              refine lv_bipush (v := -2) hx hb dX9_see_38 (by decide) ?_
              exact hret _ _ _ _ _ _ ⟨_, _, _, _, _, rfl, h⟩ hw dX9_see_40
  · have h := h.2 c2
    refine lv_iconst (v := -1) hx hb dX9_see_8 (by decide) ?_
    exact hret _ _ _ _ _ _ ⟨_, _, _, _, _, rfl, h⟩ hw dX9_see_9
set_option maxRecDepth 100000 in
set_option maxHeartbeats 4000000 in
theorem c_X9_unsee {l : Launch} {D : va_G} {cI cZ : ClassId} {ad : Nat → Nat} {f_keptSlots : Int32} {f_trace : Nat → Int32} {f_lastSeed : Int64} {f_text_letters : Nat → Int32} {f_text_length : Int32} {f_reader_place : Int32} {f_reader_greatestSource : Int32} {f_plan_chips : Int32} {f_plan_firstPins : Int32} {f_plan_firstPlaces : Int32} {f_plan_gates : Int32} {f_plan_inputs : Int32} {f_plan_registers : Int32} {f_plan_slowRegisters : Int32} {f_plan_kinds : Nat → Int32} {f_plan_firsts : Nat → Int32} {f_plan_seconds : Nat → Int32} {f_plan_clocks : Nat → Int32} {f_plan_sourceSets : Nat → Int32} {f_spare_chips : Int32} {f_spare_firstPins : Int32} {f_spare_firstPlaces : Int32} {f_spare_gates : Int32} {f_spare_inputs : Int32} {f_spare_registers : Int32} {f_spare_slowRegisters : Int32} {f_spare_kinds : Nat → Int32} {f_spare_firsts : Nat → Int32} {f_spare_seconds : Nat → Int32} {f_spare_clocks : Nat → Int32} {f_spare_sourceSets : Nat → Int32} {f_now_ones : Int32} {f_now_unknowns : Int32} {f_now_places : Int32} {f_now_pins : Int32} {f_now_count : Int32} {f_copy_ones : Int32} {f_copy_unknowns : Int32} {f_copy_places : Int32} {f_copy_pins : Int32} {f_copy_count : Int32} {f_logic_ones : Int32} {f_logic_unknowns : Int32} {f_logic_settled : Int32} {f_sched_available : Nat → Int32} {f_sched_wanted : Nat → Int32} {f_sched_coming : Nat → Int32} {f_sched_waiting : Int32} {f_sched_taken : Int32} {f_sched_sent : Int32} {f_sched_lastSent : Int32} {f_hist_next : Int32} {f_hist_held : Int32} {f_ring_cells : Nat → Int32} {f_kept_cells : Nat → Int32} {f_sight_steps : Nat → Int32} {f_sight_gates : Nat → Int32} {f_sight_values : Nat → Int32} {f_sight_truths : Nat → Int32} {f_sight_held : Int32} {X : va_W} {Q : Int32 → Int32 → Prop} (h : wp_X9_unsee f_sight_held Q) : CtI l yX9_unsee cX9_unsee 2 (some .int) ({ frames := 0, cells := 0, slots := 0, locals := 0 } : Room) D [(cI, .int), (cZ, .boolean)] [.ref (ad 33)] (wC ad cI cZ f_keptSlots f_trace f_lastSeed f_text_letters f_text_length f_reader_place f_reader_greatestSource f_plan_chips f_plan_firstPins f_plan_firstPlaces f_plan_gates f_plan_inputs f_plan_registers f_plan_slowRegisters f_plan_kinds f_plan_firsts f_plan_seconds f_plan_clocks f_plan_sourceSets f_spare_chips f_spare_firstPins f_spare_firstPlaces f_spare_gates f_spare_inputs f_spare_registers f_spare_slowRegisters f_spare_kinds f_spare_firsts f_spare_seconds f_spare_clocks f_spare_sourceSets f_now_ones f_now_unknowns f_now_places f_now_pins f_now_count f_copy_ones f_copy_unknowns f_copy_places f_copy_pins f_copy_count f_logic_ones f_logic_unknowns f_logic_settled f_sched_available f_sched_wanted f_sched_coming f_sched_waiting f_sched_taken f_sched_sent f_sched_lastSent f_hist_next f_hist_held f_ring_cells f_kept_cells f_sight_steps f_sight_gates f_sight_values f_sight_truths f_sight_held X) (fun r u => ∃ w0, u = (wC ad cI cZ f_keptSlots f_trace f_lastSeed f_text_letters f_text_length f_reader_place f_reader_greatestSource f_plan_chips f_plan_firstPins f_plan_firstPlaces f_plan_gates f_plan_inputs f_plan_registers f_plan_slowRegisters f_plan_kinds f_plan_firsts f_plan_seconds f_plan_clocks f_plan_sourceSets f_spare_chips f_spare_firstPins f_spare_firstPlaces f_spare_gates f_spare_inputs f_spare_registers f_spare_slowRegisters f_spare_kinds f_spare_firsts f_spare_seconds f_spare_clocks f_spare_sourceSets f_now_ones f_now_unknowns f_now_places f_now_pins f_now_count f_copy_ones f_copy_unknowns f_copy_places f_copy_pins f_copy_count f_logic_ones f_logic_unknowns f_logic_settled f_sched_available f_sched_wanted f_sched_coming f_sched_waiting f_sched_taken f_sched_sent f_sched_lastSent f_hist_next f_hist_held f_ring_cells f_kept_cells f_sight_steps f_sight_gates f_sight_values f_sight_truths w0 X) ∧ Q r w0) := by
  refine CtI.of (by decide) rfl (Nat.le_of_ble_eq_true rfl) ?_
  intro p e s m args below meth c A Z E hret ls hl hw
  have E : gE p m c cX9_unsee 2 s args RX9 D [(cI, .int), (cZ, .boolean)] A := E
  have hx := E.1.1
  have hb := E.1.2.1
  have hl : lv_has ls 2 [(0, .ref (ad 33))] := hl
  unfold wp_X9_unsee at h
  refine lv_aload_n hx hb dX9_unsee_0 rfl (lv_at hl 0 rfl) ?_
  refine gC_X9_80_main E hw dX9_unsee_1 ?_
  refine gC_X9_237_sight E hw dX9_unsee_4 ?_
  refine lv_istore_n (lv' := [(1, .int f_sight_held), (0, .ref (ad 33))]) hx hb dX9_unsee_7 rfl hl (by decide) rfl (fun ls hl => ?_)
  refine lv_aload_n hx hb dX9_unsee_8 rfl (lv_at hl 1 rfl) ?_
  refine gC_X9_80_main E hw dX9_unsee_9 ?_
  refine lv_iconst (v := 0) hx hb dX9_unsee_12 (by decide) ?_
  refine pC_X9_237_sight E hw dX9_unsee_13 (fun H locs hw => ?_)
  refine lv_iload_n hx hb dX9_unsee_16 rfl (lv_at hl 0 rfl) ?_
  exact hret _ _ _ _ _ _ ⟨_, rfl, h⟩ hw dX9_unsee_17
set_option maxRecDepth 100000 in
set_option maxHeartbeats 4000000 in
theorem c_X9_canBeStuck {l : Launch} {D : va_G} {cI cZ : ClassId} {ad : Nat → Nat} {f_keptSlots : Int32} {f_trace : Nat → Int32} {f_lastSeed : Int64} {f_text_letters : Nat → Int32} {f_text_length : Int32} {f_reader_place : Int32} {f_reader_greatestSource : Int32} {f_plan_chips : Int32} {f_plan_firstPins : Int32} {f_plan_firstPlaces : Int32} {f_plan_gates : Int32} {f_plan_inputs : Int32} {f_plan_registers : Int32} {f_plan_slowRegisters : Int32} {f_plan_kinds : Nat → Int32} {f_plan_firsts : Nat → Int32} {f_plan_seconds : Nat → Int32} {f_plan_clocks : Nat → Int32} {f_plan_sourceSets : Nat → Int32} {f_spare_chips : Int32} {f_spare_firstPins : Int32} {f_spare_firstPlaces : Int32} {f_spare_gates : Int32} {f_spare_inputs : Int32} {f_spare_registers : Int32} {f_spare_slowRegisters : Int32} {f_spare_kinds : Nat → Int32} {f_spare_firsts : Nat → Int32} {f_spare_seconds : Nat → Int32} {f_spare_clocks : Nat → Int32} {f_spare_sourceSets : Nat → Int32} {f_now_ones : Int32} {f_now_unknowns : Int32} {f_now_places : Int32} {f_now_pins : Int32} {f_now_count : Int32} {f_copy_ones : Int32} {f_copy_unknowns : Int32} {f_copy_places : Int32} {f_copy_pins : Int32} {f_copy_count : Int32} {f_logic_ones : Int32} {f_logic_unknowns : Int32} {f_logic_settled : Int32} {f_sched_available : Nat → Int32} {f_sched_wanted : Nat → Int32} {f_sched_coming : Nat → Int32} {f_sched_waiting : Int32} {f_sched_taken : Int32} {f_sched_sent : Int32} {f_sched_lastSent : Int32} {f_hist_next : Int32} {f_hist_held : Int32} {f_ring_cells : Nat → Int32} {f_kept_cells : Nat → Int32} {f_sight_steps : Nat → Int32} {f_sight_gates : Nat → Int32} {f_sight_values : Nat → Int32} {f_sight_truths : Nat → Int32} {f_sight_held : Int32} {X : va_W} {p1 : Int32} {Q : Int32 → Int32 → Int32 → Int32 → Int32 → Int32 → Int32 → Int32 → Int32 → Prop} (h : wp_X9_canBeStuck f_copy_count f_copy_ones f_copy_pins f_copy_places f_copy_unknowns f_logic_ones f_logic_settled f_logic_unknowns f_now_count f_now_ones f_now_pins f_now_places f_now_unknowns f_plan_firsts f_plan_gates f_plan_inputs f_plan_kinds f_plan_registers f_plan_seconds f_plan_slowRegisters f_plan_sourceSets f_sight_gates f_sight_held f_sight_steps f_sight_truths f_sight_values p1 Q) : CtI l yX9_canBeStuck cX9_canBeStuck 4 (some .boolean) ({ frames := 4, cells := 0, slots := 0, locals := 91 } : Room) D [(cI, .int), (cZ, .boolean)] [.ref (ad 33), .int p1] (wC ad cI cZ f_keptSlots f_trace f_lastSeed f_text_letters f_text_length f_reader_place f_reader_greatestSource f_plan_chips f_plan_firstPins f_plan_firstPlaces f_plan_gates f_plan_inputs f_plan_registers f_plan_slowRegisters f_plan_kinds f_plan_firsts f_plan_seconds f_plan_clocks f_plan_sourceSets f_spare_chips f_spare_firstPins f_spare_firstPlaces f_spare_gates f_spare_inputs f_spare_registers f_spare_slowRegisters f_spare_kinds f_spare_firsts f_spare_seconds f_spare_clocks f_spare_sourceSets f_now_ones f_now_unknowns f_now_places f_now_pins f_now_count f_copy_ones f_copy_unknowns f_copy_places f_copy_pins f_copy_count f_logic_ones f_logic_unknowns f_logic_settled f_sched_available f_sched_wanted f_sched_coming f_sched_waiting f_sched_taken f_sched_sent f_sched_lastSent f_hist_next f_hist_held f_ring_cells f_kept_cells f_sight_steps f_sight_gates f_sight_values f_sight_truths f_sight_held X) (fun r u => ∃ w0 w1 w2 w3 w4 w5 w6 w7, u = (wC ad cI cZ f_keptSlots f_trace f_lastSeed f_text_letters f_text_length f_reader_place f_reader_greatestSource f_plan_chips f_plan_firstPins f_plan_firstPlaces f_plan_gates f_plan_inputs f_plan_registers f_plan_slowRegisters f_plan_kinds f_plan_firsts f_plan_seconds f_plan_clocks f_plan_sourceSets f_spare_chips f_spare_firstPins f_spare_firstPlaces f_spare_gates f_spare_inputs f_spare_registers f_spare_slowRegisters f_spare_kinds f_spare_firsts f_spare_seconds f_spare_clocks f_spare_sourceSets f_now_ones f_now_unknowns f_now_places f_now_pins f_now_count w1 w4 w3 w2 w0 w5 w7 w6 f_sched_available f_sched_wanted f_sched_coming f_sched_waiting f_sched_taken f_sched_sent f_sched_lastSent f_hist_next f_hist_held f_ring_cells f_kept_cells f_sight_steps f_sight_gates f_sight_values f_sight_truths f_sight_held X) ∧ Q r w0 w1 w2 w3 w4 w5 w6 w7) := by
  refine CtI.ofZ (by decide) rfl (Nat.le_of_ble_eq_true rfl) ?_
  intro p e s m args below meth c A Z E hret ls hl hw
  have E : gE p m c cX9_canBeStuck 4 s args RX9 D [(cI, .int), (cZ, .boolean)] A := E
  have hx := E.1.1
  have hb := E.1.2.1
  have hl : lv_has ls 4 [(0, .ref (ad 33)), (1, .int p1)] := hl
  have L21 : ∀ (n : Nat) (x2 : Int32) (x3 : Int32) (f_copy_count : Int32) (f_copy_ones : Int32) (f_copy_pins : Int32) (f_copy_places : Int32) (f_copy_unknowns : Int32) (f_logic_ones : Int32) (f_logic_settled : Int32) (f_logic_unknowns : Int32) (H : Heap) (locs : List Loc) (ls : Array Slot), wp_X9_canBeStuck_h21 f_now_count f_now_ones f_now_pins f_now_places f_now_unknowns f_plan_firsts f_plan_gates f_plan_inputs f_plan_kinds f_plan_registers f_plan_seconds f_plan_slowRegisters f_plan_sourceSets f_sight_gates f_sight_held f_sight_steps f_sight_truths f_sight_values p1 Q  n x2 x3 f_copy_count f_copy_ones f_copy_pins f_copy_places f_copy_unknowns f_logic_ones f_logic_settled f_logic_unknowns → gW D s A (wC ad cI cZ f_keptSlots f_trace f_lastSeed f_text_letters f_text_length f_reader_place f_reader_greatestSource f_plan_chips f_plan_firstPins f_plan_firstPlaces f_plan_gates f_plan_inputs f_plan_registers f_plan_slowRegisters f_plan_kinds f_plan_firsts f_plan_seconds f_plan_clocks f_plan_sourceSets f_spare_chips f_spare_firstPins f_spare_firstPlaces f_spare_gates f_spare_inputs f_spare_registers f_spare_slowRegisters f_spare_kinds f_spare_firsts f_spare_seconds f_spare_clocks f_spare_sourceSets f_now_ones f_now_unknowns f_now_places f_now_pins f_now_count f_copy_ones f_copy_unknowns f_copy_places f_copy_pins f_copy_count f_logic_ones f_logic_unknowns f_logic_settled f_sched_available f_sched_wanted f_sched_coming f_sched_waiting f_sched_taken f_sched_sent f_sched_lastSent f_hist_next f_hist_held f_ring_cells f_kept_cells f_sight_steps f_sight_gates f_sight_values f_sight_truths f_sight_held X) H locs → lv_has ls 4 [(0, .ref (ad 33)), (1, .int p1), (2, .int x2), (3, .int x3)] → W p l e ({ frames := 4, cells := 0, slots := 0, locals := 91 } : Room) s m args below meth c H locs 0 0 Z (F0 m 21 ls []) := by
    intro n
    induction n with
    | zero => intro x2 x3 f_copy_count f_copy_ones f_copy_pins f_copy_places f_copy_unknowns f_logic_ones f_logic_settled f_logic_unknowns H locs ls h; exact False.elim h
    | succ n21 ih21 =>
      intro x2 x3 f_copy_count f_copy_ones f_copy_pins f_copy_places f_copy_unknowns f_logic_ones f_logic_settled f_logic_unknowns H locs ls h hw hl
      have h : wp_X9_canBeStuck_b21 f_now_count f_now_ones f_now_pins f_now_places f_now_unknowns f_plan_firsts f_plan_gates f_plan_inputs f_plan_kinds f_plan_registers f_plan_seconds f_plan_slowRegisters f_plan_sourceSets f_sight_gates f_sight_held f_sight_steps f_sight_truths f_sight_values p1 Q (wp_X9_canBeStuck_h21 f_now_count f_now_ones f_now_pins f_now_places f_now_unknowns f_plan_firsts f_plan_gates f_plan_inputs f_plan_kinds f_plan_registers f_plan_seconds f_plan_slowRegisters f_plan_sourceSets f_sight_gates f_sight_held f_sight_steps f_sight_truths f_sight_values p1 Q  n21) x2 x3 f_copy_count f_copy_ones f_copy_pins f_copy_places f_copy_unknowns f_logic_ones f_logic_settled f_logic_unknowns := h
      unfold wp_X9_canBeStuck_b21 at h
      refine lv_iload_n hx hb dX9_canBeStuck_21 rfl (lv_at hl 3 rfl) ?_
      refine lv_iload_n hx hb dX9_canBeStuck_22 rfl (lv_at hl 2 rfl) ?_
      refine lv_icmp_gt (tgt := 84) hx hb dX9_canBeStuck_23 (by decide) (fun c1 => ?_) (fun c1 => ?_)
      · have h := h.1 c1
        refine lv_iconst (v := 1) hx hb dX9_canBeStuck_84 (by decide) ?_
        exact hret _ _ _ _ _ _ (Or.inr rfl) ⟨_, _, _, _, _, _, _, _, rfl, h⟩ hw dX9_canBeStuck_85
      · have h := h.2 c1
        refine lv_aload_n hx hb dX9_canBeStuck_26 rfl (lv_at hl 0 rfl) ?_
        refine gC_X9_46_main E hw dX9_canBeStuck_27 ?_
        refine lv_aload_n hx hb dX9_canBeStuck_30 rfl (lv_at hl 0 rfl) ?_
        refine gC_X9_26_main E hw dX9_canBeStuck_31 ?_
        refine lv_aload_n hx hb dX9_canBeStuck_34 rfl (lv_at hl 0 rfl) ?_
        refine gC_X9_40_main E hw dX9_canBeStuck_35 ?_
        refine lv_iload_n hx hb dX9_canBeStuck_38 rfl (lv_at hl 1 rfl) ?_
        refine g_aV E hw (g_rV E hw (c_X1_compute_plan_copy h _) ym_X1_compute k_298 ⟨rfl, rfl⟩ ⟨Nat.le_of_ble_eq_true rfl, Nat.le_of_ble_eq_true rfl⟩ 15 rfl rfl rfl rfl hl.1 rfl (Nat.le_of_ble_eq_true rfl) ⟨Nat.zero_le _, Nat.zero_le _⟩ dX9_canBeStuck_39) (fun u H locs hq hw => ?_)
        obtain ⟨y3, y4, y5, hu, h⟩ := hq
        rw [hu] at hw
        refine lv_aload_n hx hb dX9_canBeStuck_42 rfl (lv_at hl 0 rfl) ?_
        refine gC_X9_80_main E hw dX9_canBeStuck_43 ?_
        refine lv_iload_n hx hb dX9_canBeStuck_46 rfl (lv_at hl 3 rfl) ?_
        refine lv_aload_n hx hb dX9_canBeStuck_47 rfl (lv_at hl 0 rfl) ?_
        refine gC_X9_26_main E hw dX9_canBeStuck_48 ?_
        refine lv_aload_n hx hb dX9_canBeStuck_51 rfl (lv_at hl 0 rfl) ?_
        refine gC_X9_46_main E hw dX9_canBeStuck_52 ?_
        refine g_aI E hw (g_rV E hw (c_X6_agree_plan_logic h _) ym_X6_agree k_519 ⟨rfl, rfl⟩ ⟨Nat.le_of_ble_eq_true rfl, Nat.le_of_ble_eq_true rfl⟩ 5 rfl rfl rfl rfl hl.1 rfl (Nat.le_of_ble_eq_true rfl) ⟨Nat.zero_le _, Nat.zero_le _⟩ dX9_canBeStuck_55) (fun r6 u H locs hq hw => ?_)
        obtain ⟨hu, h⟩ := hq
        rw [hu] at hw
        refine lv_if_ne (tgt := 63) hx hb dX9_canBeStuck_58 (by decide) (fun c7 => ?_) (fun c7 => ?_)
        · have h := h.1 c7
          refine lv_aload_n hx hb dX9_canBeStuck_63 rfl (lv_at hl 0 rfl) ?_
          refine gC_X9_46_main E hw dX9_canBeStuck_64 ?_
          refine lv_aload_n hx hb dX9_canBeStuck_67 rfl (lv_at hl 0 rfl) ?_
          refine gC_X9_26_main E hw dX9_canBeStuck_68 ?_
          refine lv_aload_n hx hb dX9_canBeStuck_71 rfl (lv_at hl 0 rfl) ?_
          refine gC_X9_40_main E hw dX9_canBeStuck_72 ?_
          refine g_aV E hw (g_rV E hw (c_X1_tick_plan_copy h _) ym_X1_tick k_349 ⟨rfl, rfl⟩ ⟨Nat.le_of_ble_eq_true rfl, Nat.le_of_ble_eq_true rfl⟩ 15 rfl rfl rfl rfl hl.1 rfl (Nat.le_of_ble_eq_true rfl) ⟨Nat.zero_le _, Nat.zero_le _⟩ dX9_canBeStuck_75) (fun u H locs hq hw => ?_)
          obtain ⟨y9, y10, y11, hu, h⟩ := hq
          rw [hu] at hw
          obtain ⟨v12, ev12⟩ : ∃ y : Int32, y = x3 + 1 := ⟨_, rfl⟩
          have h := h v12 ev12
          refine lv_iinc (v := v12) (lv' := [(3, .int v12), (0, .ref (ad 33)), (1, .int p1), (2, .int x2)]) hx hb dX9_canBeStuck_78 hl (k := 3) rfl (by rw [ev12]; rfl) (by decide) rfl (fun ls hl => ?_)
          refine lv_goto (tgt := 21) hx hb dX9_canBeStuck_81 (by decide) ?_
          exact ih21 x2 v12 y9 y10 f_copy_pins f_copy_places y11 y3 y4 y5 _ _ _ h hw (lv_sub hl [1, 2, 3, 0] rfl)
        · have h := h.2 c7
          refine lv_iconst (v := 0) hx hb dX9_canBeStuck_61 (by decide) ?_
          exact hret _ _ _ _ _ _ (Or.inl rfl) ⟨_, _, _, _, _, _, _, _, rfl, h⟩ hw dX9_canBeStuck_62
  unfold wp_X9_canBeStuck at h
  refine lv_aload_n hx hb dX9_canBeStuck_0 rfl (lv_at hl 0 rfl) ?_
  refine gC_X9_40_main E hw dX9_canBeStuck_1 ?_
  refine lv_aload_n hx hb dX9_canBeStuck_4 rfl (lv_at hl 0 rfl) ?_
  refine gC_X9_36_main E hw dX9_canBeStuck_5 ?_
  refine g_aV E hw (g_rV E hw (c_X7_takeFrom_now_copy h _) ym_X7_takeFrom k_394 ⟨rfl, rfl⟩ ⟨Nat.le_of_ble_eq_true rfl, Nat.le_of_ble_eq_true rfl⟩ 16 rfl rfl rfl rfl hl.1 rfl (Nat.le_of_ble_eq_true rfl) ⟨Nat.zero_le _, Nat.zero_le _⟩ dX9_canBeStuck_8) (fun u H locs hq hw => ?_)
  obtain ⟨y14, y15, y16, y17, y18, hu, h⟩ := hq
  rw [hu] at hw
  refine lv_aload_n hx hb dX9_canBeStuck_11 rfl (lv_at hl 0 rfl) ?_
  refine gC_X9_80_main E hw dX9_canBeStuck_12 ?_
  refine g_aI E hw (g_rV E hw (c_X6_lastStep h _) ym_X6_lastStep k_514 ⟨rfl, rfl⟩ ⟨Nat.le_of_ble_eq_true rfl, Nat.le_of_ble_eq_true rfl⟩ 5 rfl rfl rfl rfl hl.1 rfl (Nat.le_of_ble_eq_true rfl) ⟨Nat.zero_le _, Nat.zero_le _⟩ dX9_canBeStuck_15) (fun r19 u H locs hq hw => ?_)
  obtain ⟨hu, h⟩ := hq
  rw [hu] at hw
  refine lv_istore_n (lv' := [(2, .int r19), (0, .ref (ad 33)), (1, .int p1)]) hx hb dX9_canBeStuck_18 rfl hl (by decide) rfl (fun ls hl => ?_)
  refine lv_iconst (v := 0) hx hb dX9_canBeStuck_19 (by decide) ?_
  refine lv_istore_n (lv' := [(3, .int (0 : Int32)), (2, .int r19), (0, .ref (ad 33)), (1, .int p1)]) hx hb dX9_canBeStuck_20 rfl hl (by decide) rfl (fun ls hl => ?_)
  obtain ⟨n, h⟩ := h
  exact L21 n r19 (0 : Int32) y14 y15 y16 y17 y18 f_logic_ones f_logic_settled f_logic_unknowns _ _ _ h hw (lv_sub hl [2, 3, 1, 0] rfl)
set_option maxRecDepth 100000 in
set_option maxHeartbeats 4000000 in
theorem c_X9_which {l : Launch} {D : va_G} {cI cZ : ClassId} {ad : Nat → Nat} {f_keptSlots : Int32} {f_trace : Nat → Int32} {f_lastSeed : Int64} {f_text_letters : Nat → Int32} {f_text_length : Int32} {f_reader_place : Int32} {f_reader_greatestSource : Int32} {f_plan_chips : Int32} {f_plan_firstPins : Int32} {f_plan_firstPlaces : Int32} {f_plan_gates : Int32} {f_plan_inputs : Int32} {f_plan_registers : Int32} {f_plan_slowRegisters : Int32} {f_plan_kinds : Nat → Int32} {f_plan_firsts : Nat → Int32} {f_plan_seconds : Nat → Int32} {f_plan_clocks : Nat → Int32} {f_plan_sourceSets : Nat → Int32} {f_spare_chips : Int32} {f_spare_firstPins : Int32} {f_spare_firstPlaces : Int32} {f_spare_gates : Int32} {f_spare_inputs : Int32} {f_spare_registers : Int32} {f_spare_slowRegisters : Int32} {f_spare_kinds : Nat → Int32} {f_spare_firsts : Nat → Int32} {f_spare_seconds : Nat → Int32} {f_spare_clocks : Nat → Int32} {f_spare_sourceSets : Nat → Int32} {f_now_ones : Int32} {f_now_unknowns : Int32} {f_now_places : Int32} {f_now_pins : Int32} {f_now_count : Int32} {f_copy_ones : Int32} {f_copy_unknowns : Int32} {f_copy_places : Int32} {f_copy_pins : Int32} {f_copy_count : Int32} {f_logic_ones : Int32} {f_logic_unknowns : Int32} {f_logic_settled : Int32} {f_sched_available : Nat → Int32} {f_sched_wanted : Nat → Int32} {f_sched_coming : Nat → Int32} {f_sched_waiting : Int32} {f_sched_taken : Int32} {f_sched_sent : Int32} {f_sched_lastSent : Int32} {f_hist_next : Int32} {f_hist_held : Int32} {f_ring_cells : Nat → Int32} {f_kept_cells : Nat → Int32} {f_sight_steps : Nat → Int32} {f_sight_gates : Nat → Int32} {f_sight_values : Nat → Int32} {f_sight_truths : Nat → Int32} {f_sight_held : Int32} {X : va_W} {Q : Int32 → Int32 → Int32 → Int32 → Int32 → Int32 → Int32 → Int32 → Int32 → Prop} (h : wp_X9_which f_copy_count f_copy_ones f_copy_pins f_copy_places f_copy_unknowns f_logic_ones f_logic_settled f_logic_unknowns f_now_count f_now_ones f_now_pins f_now_places f_now_unknowns f_plan_firsts f_plan_gates f_plan_inputs f_plan_kinds f_plan_registers f_plan_seconds f_plan_slowRegisters f_plan_sourceSets f_sight_gates f_sight_held f_sight_steps f_sight_truths f_sight_values Q) : CtI l yX9_which cX9_which 3 (some .int) ({ frames := 5, cells := 0, slots := 0, locals := 114 } : Room) D [(cI, .int), (cZ, .boolean)] [.ref (ad 33)] (wC ad cI cZ f_keptSlots f_trace f_lastSeed f_text_letters f_text_length f_reader_place f_reader_greatestSource f_plan_chips f_plan_firstPins f_plan_firstPlaces f_plan_gates f_plan_inputs f_plan_registers f_plan_slowRegisters f_plan_kinds f_plan_firsts f_plan_seconds f_plan_clocks f_plan_sourceSets f_spare_chips f_spare_firstPins f_spare_firstPlaces f_spare_gates f_spare_inputs f_spare_registers f_spare_slowRegisters f_spare_kinds f_spare_firsts f_spare_seconds f_spare_clocks f_spare_sourceSets f_now_ones f_now_unknowns f_now_places f_now_pins f_now_count f_copy_ones f_copy_unknowns f_copy_places f_copy_pins f_copy_count f_logic_ones f_logic_unknowns f_logic_settled f_sched_available f_sched_wanted f_sched_coming f_sched_waiting f_sched_taken f_sched_sent f_sched_lastSent f_hist_next f_hist_held f_ring_cells f_kept_cells f_sight_steps f_sight_gates f_sight_values f_sight_truths f_sight_held X) (fun r u => ∃ w0 w1 w2 w3 w4 w5 w6 w7, u = (wC ad cI cZ f_keptSlots f_trace f_lastSeed f_text_letters f_text_length f_reader_place f_reader_greatestSource f_plan_chips f_plan_firstPins f_plan_firstPlaces f_plan_gates f_plan_inputs f_plan_registers f_plan_slowRegisters f_plan_kinds f_plan_firsts f_plan_seconds f_plan_clocks f_plan_sourceSets f_spare_chips f_spare_firstPins f_spare_firstPlaces f_spare_gates f_spare_inputs f_spare_registers f_spare_slowRegisters f_spare_kinds f_spare_firsts f_spare_seconds f_spare_clocks f_spare_sourceSets f_now_ones f_now_unknowns f_now_places f_now_pins f_now_count w1 w4 w3 w2 w0 w5 w7 w6 f_sched_available f_sched_wanted f_sched_coming f_sched_waiting f_sched_taken f_sched_sent f_sched_lastSent f_hist_next f_hist_held f_ring_cells f_kept_cells f_sight_steps f_sight_gates f_sight_values f_sight_truths f_sight_held X) ∧ Q r w0 w1 w2 w3 w4 w5 w6 w7) := by
  refine CtI.of (by decide) rfl (Nat.le_of_ble_eq_true rfl) ?_
  intro p e s m args below meth c A Z E hret ls hl hw
  have E : gE p m c cX9_which 3 s args RX9 D [(cI, .int), (cZ, .boolean)] A := E
  have hx := E.1.1
  have hb := E.1.2.1
  have hl : lv_has ls 3 [(0, .ref (ad 33))] := hl
  have L4 : ∀ (n : Nat) (x1 : Int32) (x2 : Int32) (f_copy_count : Int32) (f_copy_ones : Int32) (f_copy_pins : Int32) (f_copy_places : Int32) (f_copy_unknowns : Int32) (f_logic_ones : Int32) (f_logic_settled : Int32) (f_logic_unknowns : Int32) (H : Heap) (locs : List Loc) (ls : Array Slot), wp_X9_which_h4 f_now_count f_now_ones f_now_pins f_now_places f_now_unknowns f_plan_firsts f_plan_gates f_plan_inputs f_plan_kinds f_plan_registers f_plan_seconds f_plan_slowRegisters f_plan_sourceSets f_sight_gates f_sight_held f_sight_steps f_sight_truths f_sight_values Q  n x1 x2 f_copy_count f_copy_ones f_copy_pins f_copy_places f_copy_unknowns f_logic_ones f_logic_settled f_logic_unknowns → gW D s A (wC ad cI cZ f_keptSlots f_trace f_lastSeed f_text_letters f_text_length f_reader_place f_reader_greatestSource f_plan_chips f_plan_firstPins f_plan_firstPlaces f_plan_gates f_plan_inputs f_plan_registers f_plan_slowRegisters f_plan_kinds f_plan_firsts f_plan_seconds f_plan_clocks f_plan_sourceSets f_spare_chips f_spare_firstPins f_spare_firstPlaces f_spare_gates f_spare_inputs f_spare_registers f_spare_slowRegisters f_spare_kinds f_spare_firsts f_spare_seconds f_spare_clocks f_spare_sourceSets f_now_ones f_now_unknowns f_now_places f_now_pins f_now_count f_copy_ones f_copy_unknowns f_copy_places f_copy_pins f_copy_count f_logic_ones f_logic_unknowns f_logic_settled f_sched_available f_sched_wanted f_sched_coming f_sched_waiting f_sched_taken f_sched_sent f_sched_lastSent f_hist_next f_hist_held f_ring_cells f_kept_cells f_sight_steps f_sight_gates f_sight_values f_sight_truths f_sight_held X) H locs → lv_has ls 3 [(0, .ref (ad 33)), (1, .int x1), (2, .int x2)] → W p l e ({ frames := 5, cells := 0, slots := 0, locals := 114 } : Room) s m args below meth c H locs 0 0 Z (F0 m 4 ls []) := by
    intro n
    induction n with
    | zero => intro x1 x2 f_copy_count f_copy_ones f_copy_pins f_copy_places f_copy_unknowns f_logic_ones f_logic_settled f_logic_unknowns H locs ls h; exact False.elim h
    | succ n4 ih4 =>
      intro x1 x2 f_copy_count f_copy_ones f_copy_pins f_copy_places f_copy_unknowns f_logic_ones f_logic_settled f_logic_unknowns H locs ls h hw hl
      have h : wp_X9_which_b4 f_now_count f_now_ones f_now_pins f_now_places f_now_unknowns f_plan_firsts f_plan_gates f_plan_inputs f_plan_kinds f_plan_registers f_plan_seconds f_plan_slowRegisters f_plan_sourceSets f_sight_gates f_sight_held f_sight_steps f_sight_truths f_sight_values Q (wp_X9_which_h4 f_now_count f_now_ones f_now_pins f_now_places f_now_unknowns f_plan_firsts f_plan_gates f_plan_inputs f_plan_kinds f_plan_registers f_plan_seconds f_plan_slowRegisters f_plan_sourceSets f_sight_gates f_sight_held f_sight_steps f_sight_truths f_sight_values Q  n4) x1 x2 f_copy_count f_copy_ones f_copy_pins f_copy_places f_copy_unknowns f_logic_ones f_logic_settled f_logic_unknowns := h
      have J30 : ∀ (x1 : Int32) (x2 : Int32) (f_copy_count : Int32) (f_copy_ones : Int32) (f_copy_pins : Int32) (f_copy_places : Int32) (f_copy_unknowns : Int32) (f_logic_ones : Int32) (f_logic_settled : Int32) (f_logic_unknowns : Int32) (H : Heap) (locs : List Loc) (ls : Array Slot), wp_X9_which_b30 f_now_count f_now_ones f_now_pins f_now_places f_now_unknowns f_plan_firsts f_plan_gates f_plan_inputs f_plan_kinds f_plan_registers f_plan_seconds f_plan_slowRegisters f_plan_sourceSets f_sight_gates f_sight_held f_sight_steps f_sight_truths f_sight_values Q (wp_X9_which_h4 f_now_count f_now_ones f_now_pins f_now_places f_now_unknowns f_plan_firsts f_plan_gates f_plan_inputs f_plan_kinds f_plan_registers f_plan_seconds f_plan_slowRegisters f_plan_sourceSets f_sight_gates f_sight_held f_sight_steps f_sight_truths f_sight_values Q  n4) x1 x2 f_copy_count f_copy_ones f_copy_pins f_copy_places f_copy_unknowns f_logic_ones f_logic_settled f_logic_unknowns → gW D s A (wC ad cI cZ f_keptSlots f_trace f_lastSeed f_text_letters f_text_length f_reader_place f_reader_greatestSource f_plan_chips f_plan_firstPins f_plan_firstPlaces f_plan_gates f_plan_inputs f_plan_registers f_plan_slowRegisters f_plan_kinds f_plan_firsts f_plan_seconds f_plan_clocks f_plan_sourceSets f_spare_chips f_spare_firstPins f_spare_firstPlaces f_spare_gates f_spare_inputs f_spare_registers f_spare_slowRegisters f_spare_kinds f_spare_firsts f_spare_seconds f_spare_clocks f_spare_sourceSets f_now_ones f_now_unknowns f_now_places f_now_pins f_now_count f_copy_ones f_copy_unknowns f_copy_places f_copy_pins f_copy_count f_logic_ones f_logic_unknowns f_logic_settled f_sched_available f_sched_wanted f_sched_coming f_sched_waiting f_sched_taken f_sched_sent f_sched_lastSent f_hist_next f_hist_held f_ring_cells f_kept_cells f_sight_steps f_sight_gates f_sight_values f_sight_truths f_sight_held X) H locs → lv_has ls 3 [(0, .ref (ad 33)), (1, .int x1), (2, .int x2)] → W p l e ({ frames := 5, cells := 0, slots := 0, locals := 114 } : Room) s m args below meth c H locs 0 0 Z (F0 m 30 ls []) := by
        intro x1 x2 f_copy_count f_copy_ones f_copy_pins f_copy_places f_copy_unknowns f_logic_ones f_logic_settled f_logic_unknowns H locs ls h hw hl
        unfold wp_X9_which_b30 at h
        obtain ⟨v1, ev1⟩ : ∃ y : Int32, y = x2 + 1 := ⟨_, rfl⟩
        have h := h v1 ev1
        refine lv_iinc (v := v1) (lv' := [(2, .int v1), (0, .ref (ad 33)), (1, .int x1)]) hx hb dX9_which_30 hl (k := 2) rfl (by rw [ev1]; rfl) (by decide) rfl (fun ls hl => ?_)
        refine lv_goto (tgt := 4) hx hb dX9_which_33 (by decide) ?_
        exact ih4 x1 v1 f_copy_count f_copy_ones f_copy_pins f_copy_places f_copy_unknowns f_logic_ones f_logic_settled f_logic_unknowns _ _ _ h hw (lv_sub hl [1, 2, 0] rfl)
      unfold wp_X9_which_b4 at h
      refine lv_iload_n hx hb dX9_which_4 rfl (lv_at hl 2 rfl) ?_
      refine lv_aload_n hx hb dX9_which_5 rfl (lv_at hl 0 rfl) ?_
      refine gC_X9_26_main E hw dX9_which_6 ?_
      refine gC_X9_110_plan E hw dX9_which_9 ?_
      refine lv_icmp_ge (tgt := 36) hx hb dX9_which_12 (by decide) (fun c2 => ?_) (fun c2 => ?_)
      · have h := h.1 c2
        refine lv_iload_n hx hb dX9_which_36 rfl (lv_at hl 1 rfl) ?_
        exact hret _ _ _ _ _ _ ⟨_, _, _, _, _, _, _, _, rfl, h⟩ hw dX9_which_37
      · have h := h.2 c2
        refine lv_aload_n hx hb dX9_which_15 rfl (lv_at hl 0 rfl) ?_
        refine lv_iload_n hx hb dX9_which_16 rfl (lv_at hl 2 rfl) ?_
        refine g_aI E hw (g_rV E hw (c_X9_canBeStuck h _) ym_X9_canBeStuck k_511 ⟨rfl, rfl⟩ ⟨Nat.le_of_ble_eq_true rfl, Nat.le_of_ble_eq_true rfl⟩ 33 rfl rfl rfl rfl hl.1 rfl (Nat.le_of_ble_eq_true rfl) ⟨Nat.zero_le _, Nat.zero_le _⟩ dX9_which_17) (fun r3 u H locs hq hw => ?_)
        obtain ⟨y4, y5, y6, y7, y8, y9, y10, y11, hu, h⟩ := hq
        rw [hu] at hw
        refine lv_if_eq (tgt := 30) hx hb dX9_which_20 (by decide) (fun c12 => ?_) (fun c12 => ?_)
        · have h := h.1 c12
          exact J30 x1 x2 y4 y5 y6 y7 y8 y9 y10 y11 _ _ _ h hw (lv_sub hl [0, 1, 2] rfl)
        · have h := h.2 c12
          refine lv_iload_n hx hb dX9_which_23 rfl (lv_at hl 1 rfl) ?_
          refine lv_iload_n hx hb dX9_which_24 rfl (lv_at hl 2 rfl) ?_
          refine g_aI E hw (g_rS E hw (c_X9_bit h _) ym_X9_bit k_313 ⟨rfl, rfl⟩ ⟨Nat.le_of_ble_eq_true rfl, Nat.le_of_ble_eq_true rfl⟩ rfl hl.1 rfl (Nat.le_of_ble_eq_true rfl) ⟨Nat.zero_le _, Nat.zero_le _⟩ dX9_which_25) (fun r13 u H locs hq hw => ?_)
          obtain ⟨hu, h⟩ := hq
          rw [hu] at hw
          refine lv_ior hx hb dX9_which_28 ?_
          refine lv_topi (fun v14 ev14 => ?_)
          have h := h v14 ev14
          refine lv_istore_n (lv' := [(1, .int v14), (0, .ref (ad 33)), (2, .int x2)]) hx hb dX9_which_29 rfl hl (by decide) rfl (fun ls hl => ?_)
          exact J30 v14 x2 y4 y5 y6 y7 y8 y9 y10 y11 _ _ _ h hw (lv_sub hl [1, 0, 2] rfl)
  unfold wp_X9_which at h
  refine lv_iconst (v := 0) hx hb dX9_which_0 (by decide) ?_
  refine lv_istore_n (lv' := [(1, .int (0 : Int32)), (0, .ref (ad 33))]) hx hb dX9_which_1 rfl hl (by decide) rfl (fun ls hl => ?_)
  refine lv_iconst (v := 0) hx hb dX9_which_2 (by decide) ?_
  refine lv_istore_n (lv' := [(2, .int (0 : Int32)), (1, .int (0 : Int32)), (0, .ref (ad 33))]) hx hb dX9_which_3 rfl hl (by decide) rfl (fun ls hl => ?_)
  obtain ⟨n, h⟩ := h
  exact L4 n (0 : Int32) (0 : Int32) f_copy_count f_copy_ones f_copy_pins f_copy_places f_copy_unknowns f_logic_ones f_logic_settled f_logic_unknowns _ _ _ h hw (lv_sub hl [2, 1, 0] rfl)
set_option maxRecDepth 100000 in
set_option maxHeartbeats 4000000 in
theorem c_X9_chipsNeeded {l : Launch} {D : va_G} {cI cZ : ClassId} {ad : Nat → Nat} {f_keptSlots : Int32} {f_trace : Nat → Int32} {f_lastSeed : Int64} {f_text_letters : Nat → Int32} {f_text_length : Int32} {f_reader_place : Int32} {f_reader_greatestSource : Int32} {f_plan_chips : Int32} {f_plan_firstPins : Int32} {f_plan_firstPlaces : Int32} {f_plan_gates : Int32} {f_plan_inputs : Int32} {f_plan_registers : Int32} {f_plan_slowRegisters : Int32} {f_plan_kinds : Nat → Int32} {f_plan_firsts : Nat → Int32} {f_plan_seconds : Nat → Int32} {f_plan_clocks : Nat → Int32} {f_plan_sourceSets : Nat → Int32} {f_spare_chips : Int32} {f_spare_firstPins : Int32} {f_spare_firstPlaces : Int32} {f_spare_gates : Int32} {f_spare_inputs : Int32} {f_spare_registers : Int32} {f_spare_slowRegisters : Int32} {f_spare_kinds : Nat → Int32} {f_spare_firsts : Nat → Int32} {f_spare_seconds : Nat → Int32} {f_spare_clocks : Nat → Int32} {f_spare_sourceSets : Nat → Int32} {f_now_ones : Int32} {f_now_unknowns : Int32} {f_now_places : Int32} {f_now_pins : Int32} {f_now_count : Int32} {f_copy_ones : Int32} {f_copy_unknowns : Int32} {f_copy_places : Int32} {f_copy_pins : Int32} {f_copy_count : Int32} {f_logic_ones : Int32} {f_logic_unknowns : Int32} {f_logic_settled : Int32} {f_sched_available : Nat → Int32} {f_sched_wanted : Nat → Int32} {f_sched_coming : Nat → Int32} {f_sched_waiting : Int32} {f_sched_taken : Int32} {f_sched_sent : Int32} {f_sched_lastSent : Int32} {f_hist_next : Int32} {f_hist_held : Int32} {f_ring_cells : Nat → Int32} {f_kept_cells : Nat → Int32} {f_sight_steps : Nat → Int32} {f_sight_gates : Nat → Int32} {f_sight_values : Nat → Int32} {f_sight_truths : Nat → Int32} {f_sight_held : Int32} {X : va_W} {p1 : Int32} {Q : Int32 → Prop} (h : wp_X9_chipsNeeded f_now_places f_plan_gates f_plan_sourceSets p1 Q) : CtI l yX9_chipsNeeded cX9_chipsNeeded 5 (some .int) ({ frames := 3, cells := 0, slots := 0, locals := 67 } : Room) D [(cI, .int), (cZ, .boolean)] [.ref (ad 33), .int p1] (wC ad cI cZ f_keptSlots f_trace f_lastSeed f_text_letters f_text_length f_reader_place f_reader_greatestSource f_plan_chips f_plan_firstPins f_plan_firstPlaces f_plan_gates f_plan_inputs f_plan_registers f_plan_slowRegisters f_plan_kinds f_plan_firsts f_plan_seconds f_plan_clocks f_plan_sourceSets f_spare_chips f_spare_firstPins f_spare_firstPlaces f_spare_gates f_spare_inputs f_spare_registers f_spare_slowRegisters f_spare_kinds f_spare_firsts f_spare_seconds f_spare_clocks f_spare_sourceSets f_now_ones f_now_unknowns f_now_places f_now_pins f_now_count f_copy_ones f_copy_unknowns f_copy_places f_copy_pins f_copy_count f_logic_ones f_logic_unknowns f_logic_settled f_sched_available f_sched_wanted f_sched_coming f_sched_waiting f_sched_taken f_sched_sent f_sched_lastSent f_hist_next f_hist_held f_ring_cells f_kept_cells f_sight_steps f_sight_gates f_sight_values f_sight_truths f_sight_held X) (fun r u => u = (wC ad cI cZ f_keptSlots f_trace f_lastSeed f_text_letters f_text_length f_reader_place f_reader_greatestSource f_plan_chips f_plan_firstPins f_plan_firstPlaces f_plan_gates f_plan_inputs f_plan_registers f_plan_slowRegisters f_plan_kinds f_plan_firsts f_plan_seconds f_plan_clocks f_plan_sourceSets f_spare_chips f_spare_firstPins f_spare_firstPlaces f_spare_gates f_spare_inputs f_spare_registers f_spare_slowRegisters f_spare_kinds f_spare_firsts f_spare_seconds f_spare_clocks f_spare_sourceSets f_now_ones f_now_unknowns f_now_places f_now_pins f_now_count f_copy_ones f_copy_unknowns f_copy_places f_copy_pins f_copy_count f_logic_ones f_logic_unknowns f_logic_settled f_sched_available f_sched_wanted f_sched_coming f_sched_waiting f_sched_taken f_sched_sent f_sched_lastSent f_hist_next f_hist_held f_ring_cells f_kept_cells f_sight_steps f_sight_gates f_sight_values f_sight_truths f_sight_held X) ∧ Q r) := by
  refine CtI.of (by decide) rfl (Nat.le_of_ble_eq_true rfl) ?_
  intro p e s m args below meth c A Z E hret ls hl hw
  have E : gE p m c cX9_chipsNeeded 5 s args RX9 D [(cI, .int), (cZ, .boolean)] A := E
  have hx := E.1.1
  have hb := E.1.2.1
  have hl : lv_has ls 5 [(0, .ref (ad 33)), (1, .int p1)] := hl
  have L14 : ∀ (n : Nat) (x2 : Int32) (x3 : Int32) (x4 : Int32) (H : Heap) (locs : List Loc) (ls : Array Slot), wp_X9_chipsNeeded_h14 f_now_places f_plan_gates f_plan_sourceSets p1 Q  n x2 x3 x4 → gW D s A (wC ad cI cZ f_keptSlots f_trace f_lastSeed f_text_letters f_text_length f_reader_place f_reader_greatestSource f_plan_chips f_plan_firstPins f_plan_firstPlaces f_plan_gates f_plan_inputs f_plan_registers f_plan_slowRegisters f_plan_kinds f_plan_firsts f_plan_seconds f_plan_clocks f_plan_sourceSets f_spare_chips f_spare_firstPins f_spare_firstPlaces f_spare_gates f_spare_inputs f_spare_registers f_spare_slowRegisters f_spare_kinds f_spare_firsts f_spare_seconds f_spare_clocks f_spare_sourceSets f_now_ones f_now_unknowns f_now_places f_now_pins f_now_count f_copy_ones f_copy_unknowns f_copy_places f_copy_pins f_copy_count f_logic_ones f_logic_unknowns f_logic_settled f_sched_available f_sched_wanted f_sched_coming f_sched_waiting f_sched_taken f_sched_sent f_sched_lastSent f_hist_next f_hist_held f_ring_cells f_kept_cells f_sight_steps f_sight_gates f_sight_values f_sight_truths f_sight_held X) H locs → lv_has ls 5 [(0, .ref (ad 33)), (2, .int x2), (3, .int x3), (4, .int x4)] → W p l e ({ frames := 3, cells := 0, slots := 0, locals := 67 } : Room) s m args below meth c H locs 0 0 Z (F0 m 14 ls []) := by
    intro n
    induction n with
    | zero => intro x2 x3 x4 H locs ls h; exact False.elim h
    | succ n14 ih14 =>
      intro x2 x3 x4 H locs ls h hw hl
      have h : wp_X9_chipsNeeded_b14 f_now_places f_plan_gates f_plan_sourceSets p1 Q (wp_X9_chipsNeeded_h14 f_now_places f_plan_gates f_plan_sourceSets p1 Q  n14) x2 x3 x4 := h
      have J53 : ∀ (x2 : Int32) (x3 : Int32) (x4 : Int32) (H : Heap) (locs : List Loc) (ls : Array Slot), wp_X9_chipsNeeded_b53 f_now_places f_plan_gates f_plan_sourceSets p1 Q (wp_X9_chipsNeeded_h14 f_now_places f_plan_gates f_plan_sourceSets p1 Q  n14) x2 x3 x4 → gW D s A (wC ad cI cZ f_keptSlots f_trace f_lastSeed f_text_letters f_text_length f_reader_place f_reader_greatestSource f_plan_chips f_plan_firstPins f_plan_firstPlaces f_plan_gates f_plan_inputs f_plan_registers f_plan_slowRegisters f_plan_kinds f_plan_firsts f_plan_seconds f_plan_clocks f_plan_sourceSets f_spare_chips f_spare_firstPins f_spare_firstPlaces f_spare_gates f_spare_inputs f_spare_registers f_spare_slowRegisters f_spare_kinds f_spare_firsts f_spare_seconds f_spare_clocks f_spare_sourceSets f_now_ones f_now_unknowns f_now_places f_now_pins f_now_count f_copy_ones f_copy_unknowns f_copy_places f_copy_pins f_copy_count f_logic_ones f_logic_unknowns f_logic_settled f_sched_available f_sched_wanted f_sched_coming f_sched_waiting f_sched_taken f_sched_sent f_sched_lastSent f_hist_next f_hist_held f_ring_cells f_kept_cells f_sight_steps f_sight_gates f_sight_values f_sight_truths f_sight_held X) H locs → lv_has ls 5 [(0, .ref (ad 33)), (2, .int x2), (3, .int x3), (4, .int x4)] → W p l e ({ frames := 3, cells := 0, slots := 0, locals := 67 } : Room) s m args below meth c H locs 0 0 Z (F0 m 53 ls []) := by
        intro x2 x3 x4 H locs ls h hw hl
        unfold wp_X9_chipsNeeded_b53 at h
        obtain ⟨v1, ev1⟩ : ∃ y : Int32, y = x4 + 1 := ⟨_, rfl⟩
        have h := h v1 ev1
        refine lv_iinc (v := v1) (lv' := [(4, .int v1), (0, .ref (ad 33)), (2, .int x2), (3, .int x3)]) hx hb dX9_chipsNeeded_53 hl (k := 3) rfl (by rw [ev1]; rfl) (by decide) rfl (fun ls hl => ?_)
        refine lv_goto (tgt := 14) hx hb dX9_chipsNeeded_56 (by decide) ?_
        exact ih14 x2 x3 v1 _ _ _ h hw (lv_sub hl [1, 2, 3, 0] rfl)
      unfold wp_X9_chipsNeeded_b14 at h
      refine lv_iload hx hb dX9_chipsNeeded_14 (lv_at hl 3 rfl) ?_
      refine lv_aload_n hx hb dX9_chipsNeeded_16 rfl (lv_at hl 0 rfl) ?_
      refine gC_X9_26_main E hw dX9_chipsNeeded_17 ?_
      refine gC_X9_110_plan E hw dX9_chipsNeeded_20 ?_
      refine lv_icmp_ge (tgt := 59) hx hb dX9_chipsNeeded_23 (by decide) (fun c2 => ?_) (fun c2 => ?_)
      · have h := h.1 c2
        refine lv_iload_n hx hb dX9_chipsNeeded_59 rfl (lv_at hl 2 rfl) ?_
        exact hret _ _ _ _ _ _ ⟨rfl, h⟩ hw dX9_chipsNeeded_60
      · have h := h.2 c2
        refine lv_iload_n hx hb dX9_chipsNeeded_26 rfl (lv_at hl 1 rfl) ?_
        refine lv_iload hx hb dX9_chipsNeeded_27 (lv_at hl 3 rfl) ?_
        refine g_aI E hw (g_rS E hw (c_X9_bit h _) ym_X9_bit k_313 ⟨rfl, rfl⟩ ⟨Nat.le_of_ble_eq_true rfl, Nat.le_of_ble_eq_true rfl⟩ rfl hl.1 rfl (Nat.le_of_ble_eq_true rfl) ⟨Nat.zero_le _, Nat.zero_le _⟩ dX9_chipsNeeded_29) (fun r3 u H locs hq hw => ?_)
        obtain ⟨hu, h⟩ := hq
        rw [hu] at hw
        refine lv_iand hx hb dX9_chipsNeeded_32 ?_
        refine lv_if_eq (tgt := 53) hx hb dX9_chipsNeeded_33 (by decide) (fun c4 => ?_) (fun c4 => ?_)
        · have h := h.1 c4
          exact J53 x2 x3 x4 _ _ _ h hw (lv_sub hl [0, 1, 2, 3] rfl)
        · have h := h.2 c4
          refine lv_iload_n hx hb dX9_chipsNeeded_36 rfl (lv_at hl 2 rfl) ?_
          refine lv_iconst (v := 1) hx hb dX9_chipsNeeded_37 (by decide) ?_
          refine lv_aload_n hx hb dX9_chipsNeeded_38 rfl (lv_at hl 0 rfl) ?_
          refine gC_X9_36_main E hw dX9_chipsNeeded_39 ?_
          refine gC_X9_120_now E hw dX9_chipsNeeded_42 ?_
          refine lv_iload hx hb dX9_chipsNeeded_45 (lv_at hl 3 rfl) ?_
          refine g_aI E hw (g_rS E hw (c_X9_chipIn h _) ym_X9_chipIn k_280 ⟨rfl, rfl⟩ ⟨Nat.le_of_ble_eq_true rfl, Nat.le_of_ble_eq_true rfl⟩ rfl hl.1 rfl (Nat.le_of_ble_eq_true rfl) ⟨Nat.zero_le _, Nat.zero_le _⟩ dX9_chipsNeeded_47) (fun r5 u H locs hq hw => ?_)
          obtain ⟨hu, h⟩ := hq
          rw [hu] at hw
          refine lv_ishl hx hb dX9_chipsNeeded_50 ?_
          refine lv_ior hx hb dX9_chipsNeeded_51 ?_
          refine lv_topi (fun v6 ev6 => ?_)
          have h := h v6 ev6
          refine lv_istore_n (lv' := [(3, .int v6), (0, .ref (ad 33)), (2, .int x2), (4, .int x4)]) hx hb dX9_chipsNeeded_52 rfl hl (by decide) rfl (fun ls hl => ?_)
          exact J53 x2 v6 x4 _ _ _ h hw (lv_sub hl [1, 2, 0, 3] rfl)
  unfold wp_X9_chipsNeeded at h
  refine lv_aload_n hx hb dX9_chipsNeeded_0 rfl (lv_at hl 0 rfl) ?_
  refine gC_X9_26_main E hw dX9_chipsNeeded_1 ?_
  refine lv_iload_n hx hb dX9_chipsNeeded_4 rfl (lv_at hl 1 rfl) ?_
  refine g_aI E hw (g_rV E hw (c_X2_allBefore_plan h _) ym_X2_allBefore k_530 ⟨rfl, rfl⟩ ⟨Nat.le_of_ble_eq_true rfl, Nat.le_of_ble_eq_true rfl⟩ 29 rfl rfl rfl rfl hl.1 rfl (Nat.le_of_ble_eq_true rfl) ⟨Nat.zero_le _, Nat.zero_le _⟩ dX9_chipsNeeded_5) (fun r7 u H locs hq hw => ?_)
  obtain ⟨hu, h⟩ := hq
  rw [hu] at hw
  refine lv_istore_n (lv' := [(2, .int r7), (0, .ref (ad 33)), (1, .int p1)]) hx hb dX9_chipsNeeded_8 rfl hl (by decide) rfl (fun ls hl => ?_)
  refine lv_iconst (v := 0) hx hb dX9_chipsNeeded_9 (by decide) ?_
  refine lv_istore_n (lv' := [(3, .int (0 : Int32)), (2, .int r7), (0, .ref (ad 33)), (1, .int p1)]) hx hb dX9_chipsNeeded_10 rfl hl (by decide) rfl (fun ls hl => ?_)
  refine lv_iconst (v := 0) hx hb dX9_chipsNeeded_11 (by decide) ?_
  refine lv_istore (lv' := [(4, .int (0 : Int32)), (3, .int (0 : Int32)), (2, .int r7), (0, .ref (ad 33)), (1, .int p1)]) hx hb dX9_chipsNeeded_12 hl (by decide) rfl (fun ls hl => ?_)
  obtain ⟨n, h⟩ := h
  exact L14 n r7 (0 : Int32) (0 : Int32) _ _ _ h hw (lv_sub hl [3, 2, 1, 0] rfl)
set_option maxRecDepth 100000 in
set_option maxHeartbeats 4000000 in
theorem c_X9_share {l : Launch} {D : va_G} {cI cZ : ClassId} {ad : Nat → Nat} {f_keptSlots : Int32} {f_trace : Nat → Int32} {f_lastSeed : Int64} {f_text_letters : Nat → Int32} {f_text_length : Int32} {f_reader_place : Int32} {f_reader_greatestSource : Int32} {f_plan_chips : Int32} {f_plan_firstPins : Int32} {f_plan_firstPlaces : Int32} {f_plan_gates : Int32} {f_plan_inputs : Int32} {f_plan_registers : Int32} {f_plan_slowRegisters : Int32} {f_plan_kinds : Nat → Int32} {f_plan_firsts : Nat → Int32} {f_plan_seconds : Nat → Int32} {f_plan_clocks : Nat → Int32} {f_plan_sourceSets : Nat → Int32} {f_spare_chips : Int32} {f_spare_firstPins : Int32} {f_spare_firstPlaces : Int32} {f_spare_gates : Int32} {f_spare_inputs : Int32} {f_spare_registers : Int32} {f_spare_slowRegisters : Int32} {f_spare_kinds : Nat → Int32} {f_spare_firsts : Nat → Int32} {f_spare_seconds : Nat → Int32} {f_spare_clocks : Nat → Int32} {f_spare_sourceSets : Nat → Int32} {f_now_ones : Int32} {f_now_unknowns : Int32} {f_now_places : Int32} {f_now_pins : Int32} {f_now_count : Int32} {f_copy_ones : Int32} {f_copy_unknowns : Int32} {f_copy_places : Int32} {f_copy_pins : Int32} {f_copy_count : Int32} {f_logic_ones : Int32} {f_logic_unknowns : Int32} {f_logic_settled : Int32} {f_sched_available : Nat → Int32} {f_sched_wanted : Nat → Int32} {f_sched_coming : Nat → Int32} {f_sched_waiting : Int32} {f_sched_taken : Int32} {f_sched_sent : Int32} {f_sched_lastSent : Int32} {f_hist_next : Int32} {f_hist_held : Int32} {f_ring_cells : Nat → Int32} {f_kept_cells : Nat → Int32} {f_sight_steps : Nat → Int32} {f_sight_gates : Nat → Int32} {f_sight_values : Nat → Int32} {f_sight_truths : Nat → Int32} {f_sight_held : Int32} {X : va_W} {p1 : Int32} {p2 : Int32} {Q : Int32 → Prop} (h : wp_X9_share f_now_places f_plan_chips f_plan_gates f_plan_sourceSets p1 p2 Q) : CtI l yX9_share cX9_share 7 (some .int) ({ frames := 4, cells := 0, slots := 0, locals := 91 } : Room) D [(cI, .int), (cZ, .boolean)] [.ref (ad 33), .int p1, .int p2] (wC ad cI cZ f_keptSlots f_trace f_lastSeed f_text_letters f_text_length f_reader_place f_reader_greatestSource f_plan_chips f_plan_firstPins f_plan_firstPlaces f_plan_gates f_plan_inputs f_plan_registers f_plan_slowRegisters f_plan_kinds f_plan_firsts f_plan_seconds f_plan_clocks f_plan_sourceSets f_spare_chips f_spare_firstPins f_spare_firstPlaces f_spare_gates f_spare_inputs f_spare_registers f_spare_slowRegisters f_spare_kinds f_spare_firsts f_spare_seconds f_spare_clocks f_spare_sourceSets f_now_ones f_now_unknowns f_now_places f_now_pins f_now_count f_copy_ones f_copy_unknowns f_copy_places f_copy_pins f_copy_count f_logic_ones f_logic_unknowns f_logic_settled f_sched_available f_sched_wanted f_sched_coming f_sched_waiting f_sched_taken f_sched_sent f_sched_lastSent f_hist_next f_hist_held f_ring_cells f_kept_cells f_sight_steps f_sight_gates f_sight_values f_sight_truths f_sight_held X) (fun r u => u = (wC ad cI cZ f_keptSlots f_trace f_lastSeed f_text_letters f_text_length f_reader_place f_reader_greatestSource f_plan_chips f_plan_firstPins f_plan_firstPlaces f_plan_gates f_plan_inputs f_plan_registers f_plan_slowRegisters f_plan_kinds f_plan_firsts f_plan_seconds f_plan_clocks f_plan_sourceSets f_spare_chips f_spare_firstPins f_spare_firstPlaces f_spare_gates f_spare_inputs f_spare_registers f_spare_slowRegisters f_spare_kinds f_spare_firsts f_spare_seconds f_spare_clocks f_spare_sourceSets f_now_ones f_now_unknowns f_now_places f_now_pins f_now_count f_copy_ones f_copy_unknowns f_copy_places f_copy_pins f_copy_count f_logic_ones f_logic_unknowns f_logic_settled f_sched_available f_sched_wanted f_sched_coming f_sched_waiting f_sched_taken f_sched_sent f_sched_lastSent f_hist_next f_hist_held f_ring_cells f_kept_cells f_sight_steps f_sight_gates f_sight_values f_sight_truths f_sight_held X) ∧ Q r) := by
  refine CtI.of (by decide) rfl (Nat.le_of_ble_eq_true rfl) ?_
  intro p e s m args below meth c A Z E hret ls hl hw
  have E : gE p m c cX9_share 7 s args RX9 D [(cI, .int), (cZ, .boolean)] A := E
  have hx := E.1.1
  have hb := E.1.2.1
  have hl : lv_has ls 7 [(0, .ref (ad 33)), (1, .int p1), (2, .int p2)] := hl
  have L15 : ∀ (n : Nat) (x3 : Int32) (x4 : Int32) (H : Heap) (locs : List Loc) (ls : Array Slot), wp_X9_share_h15 f_now_places f_plan_chips f_plan_gates f_plan_sourceSets p1 p2 Q  n x3 x4 → gW D s A (wC ad cI cZ f_keptSlots f_trace f_lastSeed f_text_letters f_text_length f_reader_place f_reader_greatestSource f_plan_chips f_plan_firstPins f_plan_firstPlaces f_plan_gates f_plan_inputs f_plan_registers f_plan_slowRegisters f_plan_kinds f_plan_firsts f_plan_seconds f_plan_clocks f_plan_sourceSets f_spare_chips f_spare_firstPins f_spare_firstPlaces f_spare_gates f_spare_inputs f_spare_registers f_spare_slowRegisters f_spare_kinds f_spare_firsts f_spare_seconds f_spare_clocks f_spare_sourceSets f_now_ones f_now_unknowns f_now_places f_now_pins f_now_count f_copy_ones f_copy_unknowns f_copy_places f_copy_pins f_copy_count f_logic_ones f_logic_unknowns f_logic_settled f_sched_available f_sched_wanted f_sched_coming f_sched_waiting f_sched_taken f_sched_sent f_sched_lastSent f_hist_next f_hist_held f_ring_cells f_kept_cells f_sight_steps f_sight_gates f_sight_values f_sight_truths f_sight_held X) H locs → lv_has ls 7 [(0, .ref (ad 33)), (1, .int p1), (2, .int p2), (3, .int x3), (4, .int x4)] → W p l e ({ frames := 4, cells := 0, slots := 0, locals := 91 } : Room) s m args below meth c H locs 0 0 Z (F0 m 15 ls []) := by
    intro n
    induction n with
    | zero => intro x3 x4 H locs ls h; exact False.elim h
    | succ n15 ih15 =>
      intro x3 x4 H locs ls h hw hl
      have h : wp_X9_share_b15 f_now_places f_plan_chips f_plan_gates f_plan_sourceSets p1 p2 Q (wp_X9_share_h15 f_now_places f_plan_chips f_plan_gates f_plan_sourceSets p1 p2 Q  n15) x3 x4 := h
      have J65 : ∀ (x3 : Int32) (x4 : Int32) (H : Heap) (locs : List Loc) (ls : Array Slot), wp_X9_share_b65 f_now_places f_plan_chips f_plan_gates f_plan_sourceSets p1 p2 Q (wp_X9_share_h15 f_now_places f_plan_chips f_plan_gates f_plan_sourceSets p1 p2 Q  n15) x3 x4 → gW D s A (wC ad cI cZ f_keptSlots f_trace f_lastSeed f_text_letters f_text_length f_reader_place f_reader_greatestSource f_plan_chips f_plan_firstPins f_plan_firstPlaces f_plan_gates f_plan_inputs f_plan_registers f_plan_slowRegisters f_plan_kinds f_plan_firsts f_plan_seconds f_plan_clocks f_plan_sourceSets f_spare_chips f_spare_firstPins f_spare_firstPlaces f_spare_gates f_spare_inputs f_spare_registers f_spare_slowRegisters f_spare_kinds f_spare_firsts f_spare_seconds f_spare_clocks f_spare_sourceSets f_now_ones f_now_unknowns f_now_places f_now_pins f_now_count f_copy_ones f_copy_unknowns f_copy_places f_copy_pins f_copy_count f_logic_ones f_logic_unknowns f_logic_settled f_sched_available f_sched_wanted f_sched_coming f_sched_waiting f_sched_taken f_sched_sent f_sched_lastSent f_hist_next f_hist_held f_ring_cells f_kept_cells f_sight_steps f_sight_gates f_sight_values f_sight_truths f_sight_held X) H locs → lv_has ls 7 [(0, .ref (ad 33)), (1, .int p1), (2, .int p2), (3, .int x3), (4, .int x4)] → W p l e ({ frames := 4, cells := 0, slots := 0, locals := 91 } : Room) s m args below meth c H locs 0 0 Z (F0 m 65 ls []) := by
        intro x3 x4 H locs ls h hw hl
        unfold wp_X9_share_b65 at h
        obtain ⟨v1, ev1⟩ : ∃ y : Int32, y = x4 + 1 := ⟨_, rfl⟩
        have h := h v1 ev1
        refine lv_iinc (v := v1) (lv' := [(4, .int v1), (0, .ref (ad 33)), (1, .int p1), (2, .int p2), (3, .int x3)]) hx hb dX9_share_65 hl (k := 4) rfl (by rw [ev1]; rfl) (by decide) rfl (fun ls hl => ?_)
        refine lv_goto (tgt := 15) hx hb dX9_share_68 (by decide) ?_
        exact ih15 x3 v1 _ _ _ h hw (lv_sub hl [1, 2, 3, 4, 0] rfl)
      unfold wp_X9_share_b15 at h
      refine lv_iload hx hb dX9_share_15 (lv_at hl 4 rfl) ?_
      refine lv_aload_n hx hb dX9_share_17 rfl (lv_at hl 0 rfl) ?_
      refine gC_X9_26_main E hw dX9_share_18 ?_
      refine gC_X9_110_plan E hw dX9_share_21 ?_
      refine lv_icmp_ge (tgt := 71) hx hb dX9_share_24 (by decide) (fun c2 => ?_) (fun c2 => ?_)
      · have h := h.1 c2
        refine lv_iload_n hx hb dX9_share_71 rfl (lv_at hl 3 rfl) ?_
        refine lv_bipush (v := 12) hx hb dX9_share_72 (by decide) ?_
        refine lv_iload_n hx hb dX9_share_74 rfl (lv_at hl 2 rfl) ?_
        refine g_aI E hw (g_rS E hw (c_X9_fraction h _) ym_X9_fraction k_535 ⟨rfl, rfl⟩ ⟨Nat.le_of_ble_eq_true rfl, Nat.le_of_ble_eq_true rfl⟩ rfl hl.1 rfl (Nat.le_of_ble_eq_true rfl) ⟨Nat.zero_le _, Nat.zero_le _⟩ dX9_share_75) (fun r3 u H locs hq hw => ?_)
        obtain ⟨hu, h⟩ := hq
        rw [hu] at hw
        exact hret _ _ _ _ _ _ ⟨rfl, h⟩ hw dX9_share_78
      · have h := h.2 c2
        refine lv_aload_n hx hb dX9_share_27 rfl (lv_at hl 0 rfl) ?_
        refine lv_iload hx hb dX9_share_28 (lv_at hl 4 rfl) ?_
        refine g_aI E hw (g_rV E hw (c_X9_chipsNeeded h _) ym_X9_chipsNeeded k_527 ⟨rfl, rfl⟩ ⟨Nat.le_of_ble_eq_true rfl, Nat.le_of_ble_eq_true rfl⟩ 33 rfl rfl rfl rfl hl.1 rfl (Nat.le_of_ble_eq_true rfl) ⟨Nat.zero_le _, Nat.zero_le _⟩ dX9_share_30) (fun r4 u H locs hq hw => ?_)
        obtain ⟨hu, h⟩ := hq
        rw [hu] at hw
        refine lv_istore (lv' := [(5, .int r4), (0, .ref (ad 33)), (1, .int p1), (2, .int p2), (3, .int x3), (4, .int x4)]) hx hb dX9_share_33 hl (by decide) rfl (fun ls hl => ?_)
        refine lv_iload hx hb dX9_share_35 (lv_at hl 0 rfl) ?_
        refine g_aI E hw (g_rS E hw (c_J6_bitCount_0f7a4 h _) ym_J6_bitCount_0f7a4 k_534 ⟨rfl, rfl⟩ ⟨Nat.le_of_ble_eq_true rfl, Nat.le_of_ble_eq_true rfl⟩ rfl hl.1 rfl (Nat.le_of_ble_eq_true rfl) ⟨Nat.zero_le _, Nat.zero_le _⟩ dX9_share_37) (fun r5 u H locs hq hw => ?_)
        obtain ⟨hu, h⟩ := hq
        rw [hu] at hw
        refine lv_istore (lv' := [(6, .int r5), (5, .int r4), (0, .ref (ad 33)), (1, .int p1), (2, .int p2), (3, .int x3), (4, .int x4)]) hx hb dX9_share_40 hl (by decide) rfl (fun ls hl => ?_)
        refine lv_iload hx hb dX9_share_42 (lv_at hl 1 rfl) ?_
        refine lv_iload_n hx hb dX9_share_44 rfl (lv_at hl 3 rfl) ?_
        refine lv_iushr hx hb dX9_share_45 rfl ?_
        refine lv_iconst (v := 1) hx hb dX9_share_46 (by decide) ?_
        refine lv_iand hx hb dX9_share_47 ?_
        refine lv_iconst (v := 1) hx hb dX9_share_48 (by decide) ?_
        refine lv_icmp_ne (tgt := 65) hx hb dX9_share_49 (by decide) (fun c6 => ?_) (fun c6 => ?_)
        · have h := h.1 c6
          exact J65 x3 x4 _ _ _ h hw (lv_sub hl [2, 3, 4, 5, 6] rfl)
        · have h := h.2 c6
          refine lv_iload hx hb dX9_share_52 (lv_at hl 0 rfl) ?_
          refine lv_if_le (tgt := 65) hx hb dX9_share_54 (by decide) (fun c7 => ?_) (fun c7 => ?_)
          · have h := h.1 c7
            exact J65 x3 x4 _ _ _ h hw (lv_sub hl [2, 3, 4, 5, 6] rfl)
          · have h := h.2 c7
            refine lv_iload_n hx hb dX9_share_57 rfl (lv_at hl 5 rfl) ?_
            refine lv_bipush (v := 12) hx hb dX9_share_58 (by decide) ?_
            refine lv_iload hx hb dX9_share_60 (lv_at hl 0 rfl) ?_
            refine lv_idiv hx hb dX9_share_62 h.1 ?_
            have h := h.2
            refine lv_iadd hx hb dX9_share_63 ?_
            refine lv_topi (fun v8 ev8 => ?_)
            have h := h v8 ev8
            refine lv_istore_n (lv' := [(3, .int v8), (6, .int r5), (5, .int r4), (0, .ref (ad 33)), (1, .int p1), (2, .int p2), (4, .int x4)]) hx hb dX9_share_64 rfl hl (by decide) rfl (fun ls hl => ?_)
            exact J65 v8 x4 _ _ _ h hw (lv_sub hl [3, 4, 5, 0, 6] rfl)
  unfold wp_X9_share at h
  refine lv_aload_n hx hb dX9_share_0 rfl (lv_at hl 0 rfl) ?_
  refine lv_iload_n hx hb dX9_share_1 rfl (lv_at hl 1 rfl) ?_
  refine g_aI E hw (g_rV E hw (c_X9_isChip h _) ym_X9_isChip k_369 ⟨rfl, rfl⟩ ⟨Nat.le_of_ble_eq_true rfl, Nat.le_of_ble_eq_true rfl⟩ 33 rfl rfl rfl rfl hl.1 rfl (Nat.le_of_ble_eq_true rfl) ⟨Nat.zero_le _, Nat.zero_le _⟩ dX9_share_2) (fun r9 u H locs hq hw => ?_)
  obtain ⟨hu, h⟩ := hq
  rw [hu] at hw
  refine lv_if_ne (tgt := 10) hx hb dX9_share_5 (by decide) (fun c10 => ?_) (fun c10 => ?_)
  · have h := h.1 c10
    refine lv_iconst (v := 0) hx hb dX9_share_10 (by decide) ?_
    refine lv_istore_n (lv' := [(3, .int (0 : Int32)), (0, .ref (ad 33)), (1, .int p1), (2, .int p2)]) hx hb dX9_share_11 rfl hl (by decide) rfl (fun ls hl => ?_)
    refine lv_iconst (v := 0) hx hb dX9_share_12 (by decide) ?_
    refine lv_istore (lv' := [(4, .int (0 : Int32)), (3, .int (0 : Int32)), (0, .ref (ad 33)), (1, .int p1), (2, .int p2)]) hx hb dX9_share_13 hl (by decide) rfl (fun ls hl => ?_)
    obtain ⟨n, h⟩ := h
    exact L15 n (0 : Int32) (0 : Int32) _ _ _ h hw (lv_sub hl [2, 3, 4, 1, 0] rfl)
  · have h := h.2 c10
    refine lv_iconst (v := -1) hx hb dX9_share_8 (by decide) ?_
    exact hret _ _ _ _ _ _ ⟨rfl, h⟩ hw dX9_share_9
set_option maxRecDepth 100000 in
set_option maxHeartbeats 4000000 in
theorem c_X9_fails {l : Launch} {D : va_G} {cI cZ : ClassId} {ad : Nat → Nat} {f_keptSlots : Int32} {f_trace : Nat → Int32} {f_lastSeed : Int64} {f_text_letters : Nat → Int32} {f_text_length : Int32} {f_reader_place : Int32} {f_reader_greatestSource : Int32} {f_plan_chips : Int32} {f_plan_firstPins : Int32} {f_plan_firstPlaces : Int32} {f_plan_gates : Int32} {f_plan_inputs : Int32} {f_plan_registers : Int32} {f_plan_slowRegisters : Int32} {f_plan_kinds : Nat → Int32} {f_plan_firsts : Nat → Int32} {f_plan_seconds : Nat → Int32} {f_plan_clocks : Nat → Int32} {f_plan_sourceSets : Nat → Int32} {f_spare_chips : Int32} {f_spare_firstPins : Int32} {f_spare_firstPlaces : Int32} {f_spare_gates : Int32} {f_spare_inputs : Int32} {f_spare_registers : Int32} {f_spare_slowRegisters : Int32} {f_spare_kinds : Nat → Int32} {f_spare_firsts : Nat → Int32} {f_spare_seconds : Nat → Int32} {f_spare_clocks : Nat → Int32} {f_spare_sourceSets : Nat → Int32} {f_now_ones : Int32} {f_now_unknowns : Int32} {f_now_places : Int32} {f_now_pins : Int32} {f_now_count : Int32} {f_copy_ones : Int32} {f_copy_unknowns : Int32} {f_copy_places : Int32} {f_copy_pins : Int32} {f_copy_count : Int32} {f_logic_ones : Int32} {f_logic_unknowns : Int32} {f_logic_settled : Int32} {f_sched_available : Nat → Int32} {f_sched_wanted : Nat → Int32} {f_sched_coming : Nat → Int32} {f_sched_waiting : Int32} {f_sched_taken : Int32} {f_sched_sent : Int32} {f_sched_lastSent : Int32} {f_hist_next : Int32} {f_hist_held : Int32} {f_ring_cells : Nat → Int32} {f_kept_cells : Nat → Int32} {f_sight_steps : Nat → Int32} {f_sight_gates : Nat → Int32} {f_sight_values : Nat → Int32} {f_sight_truths : Nat → Int32} {f_sight_held : Int32} {X : va_W} {p1 : Int32} {p2 : Int32} {p3 : Int32} {p4 : Int32} {p5 : Int32} {Q : Int32 → (Nat → Int32) → (Nat → Int32) → Int32 → Int32 → Int32 → Int32 → (Nat → Int32) → Prop} (h : wp_X9_fails f_now_pins f_now_places f_plan_chips f_plan_firsts f_plan_gates f_plan_inputs f_plan_registers f_plan_seconds f_plan_sourceSets f_sched_available f_sched_coming f_sched_lastSent f_sched_sent f_sched_taken f_sched_waiting f_sched_wanted p1 p2 p3 p4 p5 Q) : CtI l yX9_fails cX9_fails 9 (some .int) ({ frames := 5, cells := 0, slots := 0, locals := 119 } : Room) D [(cI, .int), (cZ, .boolean)] [.ref (ad 33), .int p1, .int p2, .int p3, .int p4, .int p5] (wC ad cI cZ f_keptSlots f_trace f_lastSeed f_text_letters f_text_length f_reader_place f_reader_greatestSource f_plan_chips f_plan_firstPins f_plan_firstPlaces f_plan_gates f_plan_inputs f_plan_registers f_plan_slowRegisters f_plan_kinds f_plan_firsts f_plan_seconds f_plan_clocks f_plan_sourceSets f_spare_chips f_spare_firstPins f_spare_firstPlaces f_spare_gates f_spare_inputs f_spare_registers f_spare_slowRegisters f_spare_kinds f_spare_firsts f_spare_seconds f_spare_clocks f_spare_sourceSets f_now_ones f_now_unknowns f_now_places f_now_pins f_now_count f_copy_ones f_copy_unknowns f_copy_places f_copy_pins f_copy_count f_logic_ones f_logic_unknowns f_logic_settled f_sched_available f_sched_wanted f_sched_coming f_sched_waiting f_sched_taken f_sched_sent f_sched_lastSent f_hist_next f_hist_held f_ring_cells f_kept_cells f_sight_steps f_sight_gates f_sight_values f_sight_truths f_sight_held X) (fun r u => ∃ w0 w1 w2 w3 w4 w5 w6, u = (wC ad cI cZ f_keptSlots f_trace f_lastSeed f_text_letters f_text_length f_reader_place f_reader_greatestSource f_plan_chips f_plan_firstPins f_plan_firstPlaces f_plan_gates f_plan_inputs f_plan_registers f_plan_slowRegisters f_plan_kinds f_plan_firsts f_plan_seconds f_plan_clocks f_plan_sourceSets f_spare_chips f_spare_firstPins f_spare_firstPlaces f_spare_gates f_spare_inputs f_spare_registers f_spare_slowRegisters f_spare_kinds f_spare_firsts f_spare_seconds f_spare_clocks f_spare_sourceSets f_now_ones f_now_unknowns f_now_places f_now_pins f_now_count f_copy_ones f_copy_unknowns f_copy_places f_copy_pins f_copy_count f_logic_ones f_logic_unknowns f_logic_settled w0 w6 w1 w5 w4 w3 w2 f_hist_next f_hist_held f_ring_cells f_kept_cells f_sight_steps f_sight_gates f_sight_values f_sight_truths f_sight_held X) ∧ Q r w0 w1 w2 w3 w4 w5 w6) := by
  refine CtI.of (by decide) rfl (Nat.le_of_ble_eq_true rfl) ?_
  intro p e s m args below meth c A Z E hret ls hl hw
  have E : gE p m c cX9_fails 9 s args RX9 D [(cI, .int), (cZ, .boolean)] A := E
  have hx := E.1.1
  have hb := E.1.2.1
  have hl : lv_has ls 9 [(0, .ref (ad 33)), (1, .int p1), (2, .int p2), (3, .int p3), (4, .int p4), (5, .int p5)] := hl
  have J81 : ∀ (s0 : Int64) (f_sched_available : Nat → Int32) (f_sched_coming : Nat → Int32) (f_sched_lastSent : Int32) (f_sched_sent : Int32) (f_sched_taken : Int32) (f_sched_waiting : Int32) (f_sched_wanted : Nat → Int32) (H : Heap) (locs : List Loc) (ls : Array Slot), wp_X9_fails_b81 f_now_pins f_now_places f_plan_chips f_plan_firsts f_plan_gates f_plan_inputs f_plan_registers f_plan_seconds f_plan_sourceSets p1 p2 p3 p4 p5 Q  s0 f_sched_available f_sched_coming f_sched_lastSent f_sched_sent f_sched_taken f_sched_waiting f_sched_wanted → gW D s A (wC ad cI cZ f_keptSlots f_trace f_lastSeed f_text_letters f_text_length f_reader_place f_reader_greatestSource f_plan_chips f_plan_firstPins f_plan_firstPlaces f_plan_gates f_plan_inputs f_plan_registers f_plan_slowRegisters f_plan_kinds f_plan_firsts f_plan_seconds f_plan_clocks f_plan_sourceSets f_spare_chips f_spare_firstPins f_spare_firstPlaces f_spare_gates f_spare_inputs f_spare_registers f_spare_slowRegisters f_spare_kinds f_spare_firsts f_spare_seconds f_spare_clocks f_spare_sourceSets f_now_ones f_now_unknowns f_now_places f_now_pins f_now_count f_copy_ones f_copy_unknowns f_copy_places f_copy_pins f_copy_count f_logic_ones f_logic_unknowns f_logic_settled f_sched_available f_sched_wanted f_sched_coming f_sched_waiting f_sched_taken f_sched_sent f_sched_lastSent f_hist_next f_hist_held f_ring_cells f_kept_cells f_sight_steps f_sight_gates f_sight_values f_sight_truths f_sight_held X) H locs → lv_has ls 9 [(3, .int p3), (5, .int p5)] → W p l e ({ frames := 5, cells := 0, slots := 0, locals := 119 } : Room) s m args below meth c H locs 0 0 Z (F0 m 81 ls [.long s0]) := by
    intro s0 f_sched_available f_sched_coming f_sched_lastSent f_sched_sent f_sched_taken f_sched_waiting f_sched_wanted H locs ls h hw hl
    unfold wp_X9_fails_b81 at h
    refine lv_lstore (lv' := [(7, .long s0), (3, .int p3), (5, .int p5)]) hx hb dX9_fails_81 hl (by decide) rfl (fun ls hl => ?_)
    refine lv_lload hx hb dX9_fails_83 (lv_at hl 0 rfl) ?_
    refine lv_l2i hx hb dX9_fails_85 rfl ?_
    refine lv_bipush (v := 10) hx hb dX9_fails_86 (by decide) ?_
    refine lv_iload_n hx hb dX9_fails_88 rfl (lv_at hl 1 rfl) ?_
    refine g_aL E hw (g_rS E hw (c_X9_power h _) ym_X9_power k_476 ⟨rfl, rfl⟩ ⟨Nat.le_of_ble_eq_true rfl, Nat.le_of_ble_eq_true rfl⟩ rfl hl.1 rfl (Nat.le_of_ble_eq_true rfl) ⟨Nat.zero_le _, Nat.zero_le _⟩ dX9_fails_89) (fun r1 u H locs hq hw => ?_)
    obtain ⟨hu, h⟩ := hq
    rw [hu] at hw
    refine lv_l2i hx hb dX9_fails_92 rfl ?_
    refine lv_iload hx hb dX9_fails_93 (lv_at hl 2 rfl) ?_
    refine g_aI E hw (g_rS E hw (c_X9_fraction h _) ym_X9_fraction k_535 ⟨rfl, rfl⟩ ⟨Nat.le_of_ble_eq_true rfl, Nat.le_of_ble_eq_true rfl⟩ rfl hl.1 rfl (Nat.le_of_ble_eq_true rfl) ⟨Nat.zero_le _, Nat.zero_le _⟩ dX9_fails_95) (fun r2 u H locs hq hw => ?_)
    obtain ⟨hu, h⟩ := hq
    rw [hu] at hw
    exact hret _ _ _ _ _ _ ⟨_, _, _, _, _, _, _, rfl, h⟩ hw dX9_fails_98
  unfold wp_X9_fails at h
  refine lv_aload_n hx hb dX9_fails_0 rfl (lv_at hl 0 rfl) ?_
  refine lv_iload_n hx hb dX9_fails_1 rfl (lv_at hl 1 rfl) ?_
  refine g_aI E hw (g_rV E hw (c_X9_isGate h _) ym_X9_isGate k_276 ⟨rfl, rfl⟩ ⟨Nat.le_of_ble_eq_true rfl, Nat.le_of_ble_eq_true rfl⟩ 33 rfl rfl rfl rfl hl.1 rfl (Nat.le_of_ble_eq_true rfl) ⟨Nat.zero_le _, Nat.zero_le _⟩ dX9_fails_2) (fun r3 u H locs hq hw => ?_)
  obtain ⟨hu, h⟩ := hq
  rw [hu] at hw
  refine lv_if_eq (tgt := 16) hx hb dX9_fails_5 (by decide) (fun c4 => ?_) (fun c4 => ?_)
  · have h := h.1 c4
    refine lv_iconst (v := -1) hx hb dX9_fails_16 (by decide) ?_
    exact hret _ _ _ _ _ _ ⟨_, _, _, _, _, _, _, rfl, h⟩ hw dX9_fails_17
  · have h := h.2 c4
    refine lv_aload_n hx hb dX9_fails_8 rfl (lv_at hl 0 rfl) ?_
    refine lv_iload_n hx hb dX9_fails_9 rfl (lv_at hl 2 rfl) ?_
    refine g_aI E hw (g_rV E hw (c_X9_isChip h _) ym_X9_isChip k_369 ⟨rfl, rfl⟩ ⟨Nat.le_of_ble_eq_true rfl, Nat.le_of_ble_eq_true rfl⟩ 33 rfl rfl rfl rfl hl.1 rfl (Nat.le_of_ble_eq_true rfl) ⟨Nat.zero_le _, Nat.zero_le _⟩ dX9_fails_10) (fun r5 u H locs hq hw => ?_)
    obtain ⟨hu, h⟩ := hq
    rw [hu] at hw
    refine lv_if_ne (tgt := 18) hx hb dX9_fails_13 (by decide) (fun c6 => ?_) (fun c6 => ?_)
    · have h := h.1 c6
      refine lv_iload_n hx hb dX9_fails_18 rfl (lv_at hl 3 rfl) ?_
      refine lv_if_lt (tgt := 40) hx hb dX9_fails_19 (by decide) (fun c7 => ?_) (fun c7 => ?_)
      · have h := h.1 c7
        refine lv_bipush (v := -2) hx hb dX9_fails_40 (by decide) ?_
        exact hret _ _ _ _ _ _ ⟨_, _, _, _, _, _, _, rfl, h⟩ hw dX9_fails_42
      · have h := h.2 c7
        refine lv_iload_n hx hb dX9_fails_22 rfl (lv_at hl 3 rfl) ?_
        refine lv_bipush (v := 8) hx hb dX9_fails_23 (by decide) ?_
        refine lv_icmp_gt (tgt := 40) hx hb dX9_fails_25 (by decide) (fun c8 => ?_) (fun c8 => ?_)
        · have h := h.1 c8
          refine lv_bipush (v := -2) hx hb dX9_fails_40 (by decide) ?_
          exact hret _ _ _ _ _ _ ⟨_, _, _, _, _, _, _, rfl, h⟩ hw dX9_fails_42
        · have h := h.2 c8
          refine lv_iload hx hb dX9_fails_28 (lv_at hl 4 rfl) ?_
          refine lv_if_lt (tgt := 40) hx hb dX9_fails_30 (by decide) (fun c9 => ?_) (fun c9 => ?_)
          · have h := h.1 c9
            refine lv_bipush (v := -2) hx hb dX9_fails_40 (by decide) ?_
            exact hret _ _ _ _ _ _ ⟨_, _, _, _, _, _, _, rfl, h⟩ hw dX9_fails_42
          · have h := h.2 c9
            refine lv_iload hx hb dX9_fails_33 (lv_at hl 4 rfl) ?_
            refine lv_bipush (v := 10) hx hb dX9_fails_35 (by decide) ?_
            refine lv_icmp_le (tgt := 43) hx hb dX9_fails_37 (by decide) (fun c10 => ?_) (fun c10 => ?_)
            · have h := h.1 c10
              refine lv_aload_n hx hb dX9_fails_43 rfl (lv_at hl 0 rfl) ?_
              refine gC_X9_53_main E hw dX9_fails_44 ?_
              refine lv_aload_n hx hb dX9_fails_47 rfl (lv_at hl 0 rfl) ?_
              refine gC_X9_26_main E hw dX9_fails_48 ?_
              refine lv_aload_n hx hb dX9_fails_51 rfl (lv_at hl 0 rfl) ?_
              refine gC_X9_36_main E hw dX9_fails_52 ?_
              refine lv_iload_n hx hb dX9_fails_55 rfl (lv_at hl 1 rfl) ?_
              refine lv_iload_n hx hb dX9_fails_56 rfl (lv_at hl 2 rfl) ?_
              refine g_aI E hw (g_rV E hw (c_X4_firstSlot_plan_now h _) ym_X4_firstSlot k_413 ⟨rfl, rfl⟩ ⟨Nat.le_of_ble_eq_true rfl, Nat.le_of_ble_eq_true rfl⟩ 14 rfl rfl rfl rfl hl.1 rfl (Nat.le_of_ble_eq_true rfl) ⟨Nat.zero_le _, Nat.zero_le _⟩ dX9_fails_57) (fun r11 u H locs hq hw => ?_)
              obtain ⟨y12, y13, y14, y15, y16, y17, y18, hu, h⟩ := hq
              rw [hu] at hw
              refine lv_istore (lv' := [(6, .int r11), (0, .ref (ad 33)), (1, .int p1), (2, .int p2), (3, .int p3), (4, .int p4), (5, .int p5)]) hx hb dX9_fails_60 hl (by decide) rfl (fun ls hl => ?_)
              refine lv_iload hx hb dX9_fails_62 (lv_at hl 0 rfl) ?_
              refine lv_bipush (v := -9) hx hb dX9_fails_64 (by decide) ?_
              refine lv_icmp_ne (tgt := 73) hx hb dX9_fails_66 (by decide) (fun c19 => ?_) (fun c19 => ?_)
              · have h := h.1 c19
                refine lv_iload hx hb dX9_fails_73 (lv_at hl 0 rfl) ?_
                refine lv_iload_n hx hb dX9_fails_75 rfl (lv_at hl 4 rfl) ?_
                refine lv_iload hx hb dX9_fails_76 (lv_at hl 5 rfl) ?_
                refine g_aL E hw (g_rS E hw (c_X9_weightOfGoodSlots h _) ym_X9_weightOfGoodSlots k_545 ⟨rfl, rfl⟩ ⟨Nat.le_of_ble_eq_true rfl, Nat.le_of_ble_eq_true rfl⟩ rfl hl.1 rfl (Nat.le_of_ble_eq_true rfl) ⟨Nat.zero_le _, Nat.zero_le _⟩ dX9_fails_78) (fun r20 u H locs hq hw => ?_)
                obtain ⟨hu, h⟩ := hq
                rw [hu] at hw
                exact J81 r20 y12 y13 y14 y15 y16 y17 y18 _ _ _ h hw (lv_sub hl [4, 6] rfl)
              · have h := h.2 c19
                refine lv_lconst (v := 0) hx hb dX9_fails_69 (by decide) ?_
                refine lv_goto (tgt := 81) hx hb dX9_fails_70 (by decide) ?_
                exact J81 (0 : Int64) y12 y13 y14 y15 y16 y17 y18 _ _ _ h hw (lv_sub hl [4, 6] rfl)
            · have h := h.2 c10
              refine lv_bipush (v := -2) hx hb dX9_fails_40 (by decide) ?_
              exact hret _ _ _ _ _ _ ⟨_, _, _, _, _, _, _, rfl, h⟩ hw dX9_fails_42
    · have h := h.2 c6
      refine lv_iconst (v := -1) hx hb dX9_fails_16 (by decide) ?_
      exact hret _ _ _ _ _ _ ⟨_, _, _, _, _, _, _, rfl, h⟩ hw dX9_fails_17
set_option maxRecDepth 100000 in
set_option maxHeartbeats 4000000 in
theorem c_X9_seed {l : Launch} {D : va_G} {cI cZ : ClassId} {ad : Nat → Nat} {f_keptSlots : Int32} {f_trace : Nat → Int32} {f_lastSeed : Int64} {f_text_letters : Nat → Int32} {f_text_length : Int32} {f_reader_place : Int32} {f_reader_greatestSource : Int32} {f_plan_chips : Int32} {f_plan_firstPins : Int32} {f_plan_firstPlaces : Int32} {f_plan_gates : Int32} {f_plan_inputs : Int32} {f_plan_registers : Int32} {f_plan_slowRegisters : Int32} {f_plan_kinds : Nat → Int32} {f_plan_firsts : Nat → Int32} {f_plan_seconds : Nat → Int32} {f_plan_clocks : Nat → Int32} {f_plan_sourceSets : Nat → Int32} {f_spare_chips : Int32} {f_spare_firstPins : Int32} {f_spare_firstPlaces : Int32} {f_spare_gates : Int32} {f_spare_inputs : Int32} {f_spare_registers : Int32} {f_spare_slowRegisters : Int32} {f_spare_kinds : Nat → Int32} {f_spare_firsts : Nat → Int32} {f_spare_seconds : Nat → Int32} {f_spare_clocks : Nat → Int32} {f_spare_sourceSets : Nat → Int32} {f_now_ones : Int32} {f_now_unknowns : Int32} {f_now_places : Int32} {f_now_pins : Int32} {f_now_count : Int32} {f_copy_ones : Int32} {f_copy_unknowns : Int32} {f_copy_places : Int32} {f_copy_pins : Int32} {f_copy_count : Int32} {f_logic_ones : Int32} {f_logic_unknowns : Int32} {f_logic_settled : Int32} {f_sched_available : Nat → Int32} {f_sched_wanted : Nat → Int32} {f_sched_coming : Nat → Int32} {f_sched_waiting : Int32} {f_sched_taken : Int32} {f_sched_sent : Int32} {f_sched_lastSent : Int32} {f_hist_next : Int32} {f_hist_held : Int32} {f_ring_cells : Nat → Int32} {f_kept_cells : Nat → Int32} {f_sight_steps : Nat → Int32} {f_sight_gates : Nat → Int32} {f_sight_values : Nat → Int32} {f_sight_truths : Nat → Int32} {f_sight_held : Int32} {X : va_W} {p1 : Int64} {Q : Int64 → Int64 → Prop} (h : wp_X9_seed f_lastSeed p1 Q) : CtL l yX9_seed cX9_seed 5 (some .long) ({ frames := 0, cells := 0, slots := 0, locals := 0 } : Room) D [(cI, .int), (cZ, .boolean)] [.ref (ad 33), .long p1] (wC ad cI cZ f_keptSlots f_trace f_lastSeed f_text_letters f_text_length f_reader_place f_reader_greatestSource f_plan_chips f_plan_firstPins f_plan_firstPlaces f_plan_gates f_plan_inputs f_plan_registers f_plan_slowRegisters f_plan_kinds f_plan_firsts f_plan_seconds f_plan_clocks f_plan_sourceSets f_spare_chips f_spare_firstPins f_spare_firstPlaces f_spare_gates f_spare_inputs f_spare_registers f_spare_slowRegisters f_spare_kinds f_spare_firsts f_spare_seconds f_spare_clocks f_spare_sourceSets f_now_ones f_now_unknowns f_now_places f_now_pins f_now_count f_copy_ones f_copy_unknowns f_copy_places f_copy_pins f_copy_count f_logic_ones f_logic_unknowns f_logic_settled f_sched_available f_sched_wanted f_sched_coming f_sched_waiting f_sched_taken f_sched_sent f_sched_lastSent f_hist_next f_hist_held f_ring_cells f_kept_cells f_sight_steps f_sight_gates f_sight_values f_sight_truths f_sight_held X) (fun r u => ∃ w0, u = (wC ad cI cZ f_keptSlots f_trace w0 f_text_letters f_text_length f_reader_place f_reader_greatestSource f_plan_chips f_plan_firstPins f_plan_firstPlaces f_plan_gates f_plan_inputs f_plan_registers f_plan_slowRegisters f_plan_kinds f_plan_firsts f_plan_seconds f_plan_clocks f_plan_sourceSets f_spare_chips f_spare_firstPins f_spare_firstPlaces f_spare_gates f_spare_inputs f_spare_registers f_spare_slowRegisters f_spare_kinds f_spare_firsts f_spare_seconds f_spare_clocks f_spare_sourceSets f_now_ones f_now_unknowns f_now_places f_now_pins f_now_count f_copy_ones f_copy_unknowns f_copy_places f_copy_pins f_copy_count f_logic_ones f_logic_unknowns f_logic_settled f_sched_available f_sched_wanted f_sched_coming f_sched_waiting f_sched_taken f_sched_sent f_sched_lastSent f_hist_next f_hist_held f_ring_cells f_kept_cells f_sight_steps f_sight_gates f_sight_values f_sight_truths f_sight_held X) ∧ Q r w0) := by
  refine CtL.of (by decide) rfl (Nat.le_of_ble_eq_true rfl) ?_
  intro p e s m args below meth c A Z E hret ls hl hw
  have E : gE p m c cX9_seed 5 s args RX9 D [(cI, .int), (cZ, .boolean)] A := E
  have hx := E.1.1
  have hb := E.1.2.1
  have hl : lv_has ls 5 [(0, .ref (ad 33)), (1, .long p1)] := hl
  unfold wp_X9_seed at h
  refine lv_aload_n hx hb dX9_seed_0 rfl (lv_at hl 0 rfl) ?_
  refine gC_X9_88_main E hw dX9_seed_1 ?_
  refine lv_lstore_n (lv' := [(3, .long f_lastSeed), (0, .ref (ad 33)), (1, .long p1)]) hx hb dX9_seed_4 rfl hl (by decide) rfl (fun ls hl => ?_)
  refine lv_aload_n hx hb dX9_seed_5 rfl (lv_at hl 1 rfl) ?_
  refine lv_lload_n hx hb dX9_seed_6 rfl (lv_at hl 2 rfl) ?_
  refine pC_X9_88_main E hw dX9_seed_7 (fun H locs hw => ?_)
  refine lv_lload_n hx hb dX9_seed_10 rfl (lv_at hl 0 rfl) ?_
  exact hret _ _ _ _ _ _ ⟨_, rfl, h⟩ hw dX9_seed_11
set_option maxRecDepth 100000 in
set_option maxHeartbeats 4000000 in
theorem c_X9_drawInputs {l : Launch} {D : va_G} {cI cZ : ClassId} {ad : Nat → Nat} {f_keptSlots : Int32} {f_trace : Nat → Int32} {f_lastSeed : Int64} {f_text_letters : Nat → Int32} {f_text_length : Int32} {f_reader_place : Int32} {f_reader_greatestSource : Int32} {f_plan_chips : Int32} {f_plan_firstPins : Int32} {f_plan_firstPlaces : Int32} {f_plan_gates : Int32} {f_plan_inputs : Int32} {f_plan_registers : Int32} {f_plan_slowRegisters : Int32} {f_plan_kinds : Nat → Int32} {f_plan_firsts : Nat → Int32} {f_plan_seconds : Nat → Int32} {f_plan_clocks : Nat → Int32} {f_plan_sourceSets : Nat → Int32} {f_spare_chips : Int32} {f_spare_firstPins : Int32} {f_spare_firstPlaces : Int32} {f_spare_gates : Int32} {f_spare_inputs : Int32} {f_spare_registers : Int32} {f_spare_slowRegisters : Int32} {f_spare_kinds : Nat → Int32} {f_spare_firsts : Nat → Int32} {f_spare_seconds : Nat → Int32} {f_spare_clocks : Nat → Int32} {f_spare_sourceSets : Nat → Int32} {f_now_ones : Int32} {f_now_unknowns : Int32} {f_now_places : Int32} {f_now_pins : Int32} {f_now_count : Int32} {f_copy_ones : Int32} {f_copy_unknowns : Int32} {f_copy_places : Int32} {f_copy_pins : Int32} {f_copy_count : Int32} {f_logic_ones : Int32} {f_logic_unknowns : Int32} {f_logic_settled : Int32} {f_sched_available : Nat → Int32} {f_sched_wanted : Nat → Int32} {f_sched_coming : Nat → Int32} {f_sched_waiting : Int32} {f_sched_taken : Int32} {f_sched_sent : Int32} {f_sched_lastSent : Int32} {f_hist_next : Int32} {f_hist_held : Int32} {f_ring_cells : Nat → Int32} {f_kept_cells : Nat → Int32} {f_sight_steps : Nat → Int32} {f_sight_gates : Nat → Int32} {f_sight_values : Nat → Int32} {f_sight_truths : Nat → Int32} {f_sight_held : Int32} {X : va_W} {p1 : Int32} {Q : Int32 → Int32 → Prop} (h : wp_X9_drawInputs f_copy_ones f_copy_unknowns f_plan_gates f_plan_kinds p1 Q) : CtV l yX9_drawInputs cX9_drawInputs 4 none ({ frames := 2, cells := 0, slots := 0, locals := 42 } : Room) D [(cI, .int), (cZ, .boolean)] [.ref (ad 33), .int p1] (wC ad cI cZ f_keptSlots f_trace f_lastSeed f_text_letters f_text_length f_reader_place f_reader_greatestSource f_plan_chips f_plan_firstPins f_plan_firstPlaces f_plan_gates f_plan_inputs f_plan_registers f_plan_slowRegisters f_plan_kinds f_plan_firsts f_plan_seconds f_plan_clocks f_plan_sourceSets f_spare_chips f_spare_firstPins f_spare_firstPlaces f_spare_gates f_spare_inputs f_spare_registers f_spare_slowRegisters f_spare_kinds f_spare_firsts f_spare_seconds f_spare_clocks f_spare_sourceSets f_now_ones f_now_unknowns f_now_places f_now_pins f_now_count f_copy_ones f_copy_unknowns f_copy_places f_copy_pins f_copy_count f_logic_ones f_logic_unknowns f_logic_settled f_sched_available f_sched_wanted f_sched_coming f_sched_waiting f_sched_taken f_sched_sent f_sched_lastSent f_hist_next f_hist_held f_ring_cells f_kept_cells f_sight_steps f_sight_gates f_sight_values f_sight_truths f_sight_held X) (fun  u => ∃ w0 w1, u = (wC ad cI cZ f_keptSlots f_trace f_lastSeed f_text_letters f_text_length f_reader_place f_reader_greatestSource f_plan_chips f_plan_firstPins f_plan_firstPlaces f_plan_gates f_plan_inputs f_plan_registers f_plan_slowRegisters f_plan_kinds f_plan_firsts f_plan_seconds f_plan_clocks f_plan_sourceSets f_spare_chips f_spare_firstPins f_spare_firstPlaces f_spare_gates f_spare_inputs f_spare_registers f_spare_slowRegisters f_spare_kinds f_spare_firsts f_spare_seconds f_spare_clocks f_spare_sourceSets f_now_ones f_now_unknowns f_now_places f_now_pins f_now_count w0 w1 f_copy_places f_copy_pins f_copy_count f_logic_ones f_logic_unknowns f_logic_settled f_sched_available f_sched_wanted f_sched_coming f_sched_waiting f_sched_taken f_sched_sent f_sched_lastSent f_hist_next f_hist_held f_ring_cells f_kept_cells f_sight_steps f_sight_gates f_sight_values f_sight_truths f_sight_held X) ∧ Q w0 w1) := by
  refine CtV.of (by decide) rfl (Nat.le_of_ble_eq_true rfl) ?_
  intro p e s m args below meth c A Z E hret ls hl hw
  have E : gE p m c cX9_drawInputs 4 s args RX9 D [(cI, .int), (cZ, .boolean)] A := E
  have hx := E.1.1
  have hb := E.1.2.1
  have hl : lv_has ls 4 [(0, .ref (ad 33)), (1, .int p1)] := hl
  have L4 : ∀ (n : Nat) (x2 : Int32) (x3 : Int32) (f_copy_ones : Int32) (f_copy_unknowns : Int32) (H : Heap) (locs : List Loc) (ls : Array Slot), wp_X9_drawInputs_h4 f_plan_gates f_plan_kinds p1 Q  n x2 x3 f_copy_ones f_copy_unknowns → gW D s A (wC ad cI cZ f_keptSlots f_trace f_lastSeed f_text_letters f_text_length f_reader_place f_reader_greatestSource f_plan_chips f_plan_firstPins f_plan_firstPlaces f_plan_gates f_plan_inputs f_plan_registers f_plan_slowRegisters f_plan_kinds f_plan_firsts f_plan_seconds f_plan_clocks f_plan_sourceSets f_spare_chips f_spare_firstPins f_spare_firstPlaces f_spare_gates f_spare_inputs f_spare_registers f_spare_slowRegisters f_spare_kinds f_spare_firsts f_spare_seconds f_spare_clocks f_spare_sourceSets f_now_ones f_now_unknowns f_now_places f_now_pins f_now_count f_copy_ones f_copy_unknowns f_copy_places f_copy_pins f_copy_count f_logic_ones f_logic_unknowns f_logic_settled f_sched_available f_sched_wanted f_sched_coming f_sched_waiting f_sched_taken f_sched_sent f_sched_lastSent f_hist_next f_hist_held f_ring_cells f_kept_cells f_sight_steps f_sight_gates f_sight_values f_sight_truths f_sight_held X) H locs → lv_has ls 4 [(0, .ref (ad 33)), (2, .int x2), (3, .int x3)] → W p l e ({ frames := 2, cells := 0, slots := 0, locals := 42 } : Room) s m args below meth c H locs 0 0 Z (F0 m 4 ls []) := by
    intro n
    induction n with
    | zero => intro x2 x3 f_copy_ones f_copy_unknowns H locs ls h; exact False.elim h
    | succ n4 ih4 =>
      intro x2 x3 f_copy_ones f_copy_unknowns H locs ls h hw hl
      have h : wp_X9_drawInputs_b4 f_plan_gates f_plan_kinds p1 Q (wp_X9_drawInputs_h4 f_plan_gates f_plan_kinds p1 Q  n4) x2 x3 f_copy_ones f_copy_unknowns := h
      have J41 : ∀ (x2 : Int32) (x3 : Int32) (f_copy_ones : Int32) (f_copy_unknowns : Int32) (H : Heap) (locs : List Loc) (ls : Array Slot), wp_X9_drawInputs_b41 f_plan_gates f_plan_kinds p1 Q (wp_X9_drawInputs_h4 f_plan_gates f_plan_kinds p1 Q  n4) x2 x3 f_copy_ones f_copy_unknowns → gW D s A (wC ad cI cZ f_keptSlots f_trace f_lastSeed f_text_letters f_text_length f_reader_place f_reader_greatestSource f_plan_chips f_plan_firstPins f_plan_firstPlaces f_plan_gates f_plan_inputs f_plan_registers f_plan_slowRegisters f_plan_kinds f_plan_firsts f_plan_seconds f_plan_clocks f_plan_sourceSets f_spare_chips f_spare_firstPins f_spare_firstPlaces f_spare_gates f_spare_inputs f_spare_registers f_spare_slowRegisters f_spare_kinds f_spare_firsts f_spare_seconds f_spare_clocks f_spare_sourceSets f_now_ones f_now_unknowns f_now_places f_now_pins f_now_count f_copy_ones f_copy_unknowns f_copy_places f_copy_pins f_copy_count f_logic_ones f_logic_unknowns f_logic_settled f_sched_available f_sched_wanted f_sched_coming f_sched_waiting f_sched_taken f_sched_sent f_sched_lastSent f_hist_next f_hist_held f_ring_cells f_kept_cells f_sight_steps f_sight_gates f_sight_values f_sight_truths f_sight_held X) H locs → lv_has ls 4 [(0, .ref (ad 33)), (2, .int x2), (3, .int x3)] → W p l e ({ frames := 2, cells := 0, slots := 0, locals := 42 } : Room) s m args below meth c H locs 0 0 Z (F0 m 41 ls []) := by
        intro x2 x3 f_copy_ones f_copy_unknowns H locs ls h hw hl
        unfold wp_X9_drawInputs_b41 at h
        obtain ⟨v1, ev1⟩ : ∃ y : Int32, y = x3 + 1 := ⟨_, rfl⟩
        have h := h v1 ev1
        refine lv_iinc (v := v1) (lv' := [(3, .int v1), (0, .ref (ad 33)), (2, .int x2)]) hx hb dX9_drawInputs_41 hl (k := 2) rfl (by rw [ev1]; rfl) (by decide) rfl (fun ls hl => ?_)
        refine lv_goto (tgt := 4) hx hb dX9_drawInputs_44 (by decide) ?_
        exact ih4 x2 v1 f_copy_ones f_copy_unknowns _ _ _ h hw (lv_sub hl [1, 2, 0] rfl)
      unfold wp_X9_drawInputs_b4 at h
      refine lv_iload_n hx hb dX9_drawInputs_4 rfl (lv_at hl 2 rfl) ?_
      refine lv_aload_n hx hb dX9_drawInputs_5 rfl (lv_at hl 0 rfl) ?_
      refine gC_X9_26_main E hw dX9_drawInputs_6 ?_
      refine gC_X9_110_plan E hw dX9_drawInputs_9 ?_
      refine lv_icmp_ge (tgt := 47) hx hb dX9_drawInputs_12 (by decide) (fun c2 => ?_) (fun c2 => ?_)
      · have h := h.1 c2
        exact hret _ _ _ _ _ ⟨_, _, rfl, h⟩ hw dX9_drawInputs_47
      · have h := h.2 c2
        refine lv_aload_n hx hb dX9_drawInputs_15 rfl (lv_at hl 0 rfl) ?_
        refine gC_X9_26_main E hw dX9_drawInputs_16 ?_
        refine lv_iload_n hx hb dX9_drawInputs_19 rfl (lv_at hl 2 rfl) ?_
        refine g_aI E hw (g_rV E hw (c_X2_kindOf_plan h _) ym_X2_kindOf k_279 ⟨rfl, rfl⟩ ⟨Nat.le_of_ble_eq_true rfl, Nat.le_of_ble_eq_true rfl⟩ 29 rfl rfl rfl rfl hl.1 rfl (Nat.le_of_ble_eq_true rfl) ⟨Nat.zero_le _, Nat.zero_le _⟩ dX9_drawInputs_20) (fun r3 u H locs hq hw => ?_)
        obtain ⟨hu, h⟩ := hq
        rw [hu] at hw
        refine lv_if_ne (tgt := 41) hx hb dX9_drawInputs_23 (by decide) (fun c4 => ?_) (fun c4 => ?_)
        · have h := h.1 c4
          exact J41 x2 x3 f_copy_ones f_copy_unknowns _ _ _ h hw (lv_sub hl [0, 1, 2] rfl)
        · have h := h.2 c4
          refine lv_aload_n hx hb dX9_drawInputs_26 rfl (lv_at hl 0 rfl) ?_
          refine gC_X9_40_main E hw dX9_drawInputs_27 ?_
          refine lv_iload_n hx hb dX9_drawInputs_30 rfl (lv_at hl 2 rfl) ?_
          refine lv_iload_n hx hb dX9_drawInputs_31 rfl (lv_at hl 1 rfl) ?_
          refine lv_iconst (v := 1) hx hb dX9_drawInputs_32 (by decide) ?_
          refine lv_iand hx hb dX9_drawInputs_33 ?_
          refine g_aV E hw (g_rV E hw (c_X7_store_copy h _) ym_X7_store k_364 ⟨rfl, rfl⟩ ⟨Nat.le_of_ble_eq_true rfl, Nat.le_of_ble_eq_true rfl⟩ 16 rfl rfl rfl rfl hl.1 rfl (Nat.le_of_ble_eq_true rfl) ⟨Nat.zero_le _, Nat.zero_le _⟩ dX9_drawInputs_34) (fun u H locs hq hw => ?_)
          obtain ⟨y6, y7, hu, h⟩ := hq
          rw [hu] at hw
          refine lv_iload_n hx hb dX9_drawInputs_37 rfl (lv_at hl 1 rfl) ?_
          refine lv_iconst (v := 1) hx hb dX9_drawInputs_38 (by decide) ?_
          refine lv_iushr hx hb dX9_drawInputs_39 rfl ?_
          refine lv_topi (fun v8 ev8 => ?_)
          have h := h v8 ev8
          refine lv_istore_n (lv' := [(2, .int v8), (0, .ref (ad 33)), (3, .int x3)]) hx hb dX9_drawInputs_40 rfl hl (by decide) rfl (fun ls hl => ?_)
          exact J41 v8 x3 y6 y7 _ _ _ h hw (lv_sub hl [1, 0, 2] rfl)
  unfold wp_X9_drawInputs at h
  refine lv_iload_n hx hb dX9_drawInputs_0 rfl (lv_at hl 1 rfl) ?_
  refine lv_istore_n (lv' := [(2, .int p1), (0, .ref (ad 33)), (1, .int p1)]) hx hb dX9_drawInputs_1 rfl hl (by decide) rfl (fun ls hl => ?_)
  refine lv_iconst (v := 0) hx hb dX9_drawInputs_2 (by decide) ?_
  refine lv_istore_n (lv' := [(3, .int (0 : Int32)), (2, .int p1), (0, .ref (ad 33)), (1, .int p1)]) hx hb dX9_drawInputs_3 rfl hl (by decide) rfl (fun ls hl => ?_)
  obtain ⟨n, h⟩ := h
  exact L4 n p1 (0 : Int32) f_copy_ones f_copy_unknowns _ _ _ h hw (lv_sub hl [2, 1, 0] rfl)
set_option maxRecDepth 100000 in
set_option maxHeartbeats 4000000 in
theorem c_X9_drawn {l : Launch} {D : va_G} {cI cZ : ClassId} {ad : Nat → Nat} {f_keptSlots : Int32} {f_trace : Nat → Int32} {f_lastSeed : Int64} {f_text_letters : Nat → Int32} {f_text_length : Int32} {f_reader_place : Int32} {f_reader_greatestSource : Int32} {f_plan_chips : Int32} {f_plan_firstPins : Int32} {f_plan_firstPlaces : Int32} {f_plan_gates : Int32} {f_plan_inputs : Int32} {f_plan_registers : Int32} {f_plan_slowRegisters : Int32} {f_plan_kinds : Nat → Int32} {f_plan_firsts : Nat → Int32} {f_plan_seconds : Nat → Int32} {f_plan_clocks : Nat → Int32} {f_plan_sourceSets : Nat → Int32} {f_spare_chips : Int32} {f_spare_firstPins : Int32} {f_spare_firstPlaces : Int32} {f_spare_gates : Int32} {f_spare_inputs : Int32} {f_spare_registers : Int32} {f_spare_slowRegisters : Int32} {f_spare_kinds : Nat → Int32} {f_spare_firsts : Nat → Int32} {f_spare_seconds : Nat → Int32} {f_spare_clocks : Nat → Int32} {f_spare_sourceSets : Nat → Int32} {f_now_ones : Int32} {f_now_unknowns : Int32} {f_now_places : Int32} {f_now_pins : Int32} {f_now_count : Int32} {f_copy_ones : Int32} {f_copy_unknowns : Int32} {f_copy_places : Int32} {f_copy_pins : Int32} {f_copy_count : Int32} {f_logic_ones : Int32} {f_logic_unknowns : Int32} {f_logic_settled : Int32} {f_sched_available : Nat → Int32} {f_sched_wanted : Nat → Int32} {f_sched_coming : Nat → Int32} {f_sched_waiting : Int32} {f_sched_taken : Int32} {f_sched_sent : Int32} {f_sched_lastSent : Int32} {f_hist_next : Int32} {f_hist_held : Int32} {f_ring_cells : Nat → Int32} {f_kept_cells : Nat → Int32} {f_sight_steps : Nat → Int32} {f_sight_gates : Nat → Int32} {f_sight_values : Nat → Int32} {f_sight_truths : Nat → Int32} {f_sight_held : Int32} {X : va_W} {p1 : Int32} {Q : Int32 → Int32 → Int32 → Int32 → Int32 → Int32 → Int64 → Int32 → Int32 → Int32 → Prop} (h : wp_X9_drawn f_copy_count f_copy_ones f_copy_pins f_copy_places f_copy_unknowns f_lastSeed f_logic_ones f_logic_settled f_logic_unknowns f_now_count f_now_ones f_now_pins f_now_places f_now_unknowns f_plan_firsts f_plan_gates f_plan_inputs f_plan_kinds f_plan_registers f_plan_seconds f_plan_slowRegisters f_plan_sourceSets p1 Q) : CtI l yX9_drawn cX9_drawn 4 (some .int) ({ frames := 5, cells := 0, slots := 0, locals := 114 } : Room) D [(cI, .int), (cZ, .boolean)] [.ref (ad 33), .int p1] (wC ad cI cZ f_keptSlots f_trace f_lastSeed f_text_letters f_text_length f_reader_place f_reader_greatestSource f_plan_chips f_plan_firstPins f_plan_firstPlaces f_plan_gates f_plan_inputs f_plan_registers f_plan_slowRegisters f_plan_kinds f_plan_firsts f_plan_seconds f_plan_clocks f_plan_sourceSets f_spare_chips f_spare_firstPins f_spare_firstPlaces f_spare_gates f_spare_inputs f_spare_registers f_spare_slowRegisters f_spare_kinds f_spare_firsts f_spare_seconds f_spare_clocks f_spare_sourceSets f_now_ones f_now_unknowns f_now_places f_now_pins f_now_count f_copy_ones f_copy_unknowns f_copy_places f_copy_pins f_copy_count f_logic_ones f_logic_unknowns f_logic_settled f_sched_available f_sched_wanted f_sched_coming f_sched_waiting f_sched_taken f_sched_sent f_sched_lastSent f_hist_next f_hist_held f_ring_cells f_kept_cells f_sight_steps f_sight_gates f_sight_values f_sight_truths f_sight_held X) (fun r u => ∃ w0 w1 w2 w3 w4 w5 w6 w7 w8, u = (wC ad cI cZ f_keptSlots f_trace w5 f_text_letters f_text_length f_reader_place f_reader_greatestSource f_plan_chips f_plan_firstPins f_plan_firstPlaces f_plan_gates f_plan_inputs f_plan_registers f_plan_slowRegisters f_plan_kinds f_plan_firsts f_plan_seconds f_plan_clocks f_plan_sourceSets f_spare_chips f_spare_firstPins f_spare_firstPlaces f_spare_gates f_spare_inputs f_spare_registers f_spare_slowRegisters f_spare_kinds f_spare_firsts f_spare_seconds f_spare_clocks f_spare_sourceSets f_now_ones f_now_unknowns f_now_places f_now_pins f_now_count w1 w4 w3 w2 w0 w6 w8 w7 f_sched_available f_sched_wanted f_sched_coming f_sched_waiting f_sched_taken f_sched_sent f_sched_lastSent f_hist_next f_hist_held f_ring_cells f_kept_cells f_sight_steps f_sight_gates f_sight_values f_sight_truths f_sight_held X) ∧ Q r w0 w1 w2 w3 w4 w5 w6 w7 w8) := by
  refine CtI.of (by decide) rfl (Nat.le_of_ble_eq_true rfl) ?_
  intro p e s m args below meth c A Z E hret ls hl hw
  have E : gE p m c cX9_drawn 4 s args RX9 D [(cI, .int), (cZ, .boolean)] A := E
  have hx := E.1.1
  have hb := E.1.2.1
  have hl : lv_has ls 4 [(0, .ref (ad 33)), (1, .int p1)] := hl
  have L29 : ∀ (n : Nat) (x2 : Int32) (x3 : Int32) (f_copy_count : Int32) (f_copy_ones : Int32) (f_copy_pins : Int32) (f_copy_places : Int32) (f_copy_unknowns : Int32) (f_lastSeed : Int64) (f_logic_ones : Int32) (f_logic_settled : Int32) (f_logic_unknowns : Int32) (H : Heap) (locs : List Loc) (ls : Array Slot), wp_X9_drawn_h29 f_now_count f_now_ones f_now_pins f_now_places f_now_unknowns f_plan_firsts f_plan_gates f_plan_inputs f_plan_kinds f_plan_registers f_plan_seconds f_plan_slowRegisters f_plan_sourceSets p1 Q  n x2 x3 f_copy_count f_copy_ones f_copy_pins f_copy_places f_copy_unknowns f_lastSeed f_logic_ones f_logic_settled f_logic_unknowns → gW D s A (wC ad cI cZ f_keptSlots f_trace f_lastSeed f_text_letters f_text_length f_reader_place f_reader_greatestSource f_plan_chips f_plan_firstPins f_plan_firstPlaces f_plan_gates f_plan_inputs f_plan_registers f_plan_slowRegisters f_plan_kinds f_plan_firsts f_plan_seconds f_plan_clocks f_plan_sourceSets f_spare_chips f_spare_firstPins f_spare_firstPlaces f_spare_gates f_spare_inputs f_spare_registers f_spare_slowRegisters f_spare_kinds f_spare_firsts f_spare_seconds f_spare_clocks f_spare_sourceSets f_now_ones f_now_unknowns f_now_places f_now_pins f_now_count f_copy_ones f_copy_unknowns f_copy_places f_copy_pins f_copy_count f_logic_ones f_logic_unknowns f_logic_settled f_sched_available f_sched_wanted f_sched_coming f_sched_waiting f_sched_taken f_sched_sent f_sched_lastSent f_hist_next f_hist_held f_ring_cells f_kept_cells f_sight_steps f_sight_gates f_sight_values f_sight_truths f_sight_held X) H locs → lv_has ls 4 [(0, .ref (ad 33)), (1, .int p1), (2, .int x2), (3, .int x3)] → W p l e ({ frames := 5, cells := 0, slots := 0, locals := 114 } : Room) s m args below meth c H locs 0 0 Z (F0 m 29 ls []) := by
    intro n
    induction n with
    | zero => intro x2 x3 f_copy_count f_copy_ones f_copy_pins f_copy_places f_copy_unknowns f_lastSeed f_logic_ones f_logic_settled f_logic_unknowns H locs ls h; exact False.elim h
    | succ n29 ih29 =>
      intro x2 x3 f_copy_count f_copy_ones f_copy_pins f_copy_places f_copy_unknowns f_lastSeed f_logic_ones f_logic_settled f_logic_unknowns H locs ls h hw hl
      have h : wp_X9_drawn_b29 f_now_count f_now_ones f_now_pins f_now_places f_now_unknowns f_plan_firsts f_plan_gates f_plan_inputs f_plan_kinds f_plan_registers f_plan_seconds f_plan_slowRegisters f_plan_sourceSets p1 Q (wp_X9_drawn_h29 f_now_count f_now_ones f_now_pins f_now_places f_now_unknowns f_plan_firsts f_plan_gates f_plan_inputs f_plan_kinds f_plan_registers f_plan_seconds f_plan_slowRegisters f_plan_sourceSets p1 Q  n29) x2 x3 f_copy_count f_copy_ones f_copy_pins f_copy_places f_copy_unknowns f_lastSeed f_logic_ones f_logic_settled f_logic_unknowns := h
      unfold wp_X9_drawn_b29 at h
      refine lv_iload_n hx hb dX9_drawn_29 rfl (lv_at hl 3 rfl) ?_
      refine lv_iload_n hx hb dX9_drawn_30 rfl (lv_at hl 1 rfl) ?_
      refine lv_icmp_ge (tgt := 98) hx hb dX9_drawn_31 (by decide) (fun c1 => ?_) (fun c1 => ?_)
      · have h := h.1 c1
        refine lv_iload_n hx hb dX9_drawn_98 rfl (lv_at hl 2 rfl) ?_
        exact hret _ _ _ _ _ _ ⟨_, _, _, _, _, _, _, _, _, rfl, h⟩ hw dX9_drawn_99
      · have h := h.2 c1
        refine lv_aload_n hx hb dX9_drawn_34 rfl (lv_at hl 0 rfl) ?_
        refine lv_aload_n hx hb dX9_drawn_35 rfl (lv_at hl 0 rfl) ?_
        refine gC_X9_88_main E hw dX9_drawn_36 ?_
        refine lv_ldc2 (v := 6364136223846793005) hx hb E.1.2.2.2.1 (E.1.2.2.2.2 _ k_559) dX9_drawn_39 ?_
        refine lv_lmul hx hb dX9_drawn_42 ?_
        refine lv_ldc2 (v := 1442695040888963407) hx hb E.1.2.2.2.1 (E.1.2.2.2.2 _ k_560) dX9_drawn_43 ?_
        refine lv_ladd hx hb dX9_drawn_46 ?_
        refine lv_topl (fun v2 ev2 => ?_)
        have h := h v2 ev2
        refine pC_X9_88_main E hw dX9_drawn_47 (fun H locs hw => ?_)
        refine lv_aload_n hx hb dX9_drawn_50 rfl (lv_at hl 0 rfl) ?_
        refine lv_aload_n hx hb dX9_drawn_51 rfl (lv_at hl 0 rfl) ?_
        refine gC_X9_88_main E hw dX9_drawn_52 ?_
        refine lv_bipush (v := 33) hx hb dX9_drawn_55 (by decide) ?_
        refine lv_lushr hx hb dX9_drawn_57 rfl ?_
        refine lv_l2i hx hb dX9_drawn_58 rfl ?_
        refine g_aV E hw (g_rV E hw (c_X9_drawInputs h _) ym_X9_drawInputs k_561 ⟨rfl, rfl⟩ ⟨Nat.le_of_ble_eq_true rfl, Nat.le_of_ble_eq_true rfl⟩ 33 rfl rfl rfl rfl hl.1 rfl (Nat.le_of_ble_eq_true rfl) ⟨Nat.zero_le _, Nat.zero_le _⟩ dX9_drawn_59) (fun u H locs hq hw => ?_)
        obtain ⟨y4, y5, hu, h⟩ := hq
        rw [hu] at hw
        refine lv_aload_n hx hb dX9_drawn_62 rfl (lv_at hl 0 rfl) ?_
        refine lv_aload_n hx hb dX9_drawn_63 rfl (lv_at hl 0 rfl) ?_
        refine gC_X9_40_main E hw dX9_drawn_64 ?_
        refine lv_iconst (v := 1) hx hb dX9_drawn_67 (by decide) ?_
        refine g_aV E hw (g_rV E hw (c_X9_makeSteps_copy h _) ym_X9_makeSteps k_346 ⟨rfl, rfl⟩ ⟨Nat.le_of_ble_eq_true rfl, Nat.le_of_ble_eq_true rfl⟩ 33 rfl rfl rfl rfl hl.1 rfl (Nat.le_of_ble_eq_true rfl) ⟨Nat.zero_le _, Nat.zero_le _⟩ dX9_drawn_68) (fun u H locs hq hw => ?_)
        obtain ⟨y7, y8, y9, y10, y11, y12, hu, h⟩ := hq
        rw [hu] at hw
        refine lv_iload_n hx hb dX9_drawn_71 rfl (lv_at hl 2 rfl) ?_
        refine lv_aload_n hx hb dX9_drawn_72 rfl (lv_at hl 0 rfl) ?_
        refine gC_X9_40_main E hw dX9_drawn_73 ?_
        refine gC_X9_157_copy E hw dX9_drawn_76 ?_
        refine lv_aload_n hx hb dX9_drawn_79 rfl (lv_at hl 0 rfl) ?_
        refine gC_X9_26_main E hw dX9_drawn_80 ?_
        refine gC_X9_267_plan E hw dX9_drawn_83 ?_
        refine lv_iand hx hb dX9_drawn_86 ?_
        refine g_aI E hw (g_rS E hw (c_J6_bitCount_0f7a4 h _) ym_J6_bitCount_0f7a4 k_534 ⟨rfl, rfl⟩ ⟨Nat.le_of_ble_eq_true rfl, Nat.le_of_ble_eq_true rfl⟩ rfl hl.1 rfl (Nat.le_of_ble_eq_true rfl) ⟨Nat.zero_le _, Nat.zero_le _⟩ dX9_drawn_87) (fun r13 u H locs hq hw => ?_)
        obtain ⟨hu, h⟩ := hq
        rw [hu] at hw
        refine lv_iadd hx hb dX9_drawn_90 ?_
        refine lv_topi (fun v14 ev14 => ?_)
        have h := h v14 ev14
        refine lv_istore_n (lv' := [(2, .int v14), (0, .ref (ad 33)), (1, .int p1), (3, .int x3)]) hx hb dX9_drawn_91 rfl hl (by decide) rfl (fun ls hl => ?_)
        obtain ⟨v15, ev15⟩ : ∃ y : Int32, y = x3 + 1 := ⟨_, rfl⟩
        have h := h v15 ev15
        refine lv_iinc (v := v15) (lv' := [(3, .int v15), (2, .int v14), (0, .ref (ad 33)), (1, .int p1)]) hx hb dX9_drawn_92 hl (k := 3) rfl (by rw [ev15]; rfl) (by decide) rfl (fun ls hl => ?_)
        refine lv_goto (tgt := 29) hx hb dX9_drawn_95 (by decide) ?_
        exact ih29 v14 v15 y10 y11 f_copy_pins f_copy_places y12 v2 y7 y8 y9 _ _ _ h hw (lv_sub hl [2, 3, 1, 0] rfl)
  unfold wp_X9_drawn at h
  refine lv_iload_n hx hb dX9_drawn_0 rfl (lv_at hl 1 rfl) ?_
  refine lv_iconst (v := 1) hx hb dX9_drawn_1 (by decide) ?_
  refine lv_icmp_lt (tgt := 11) hx hb dX9_drawn_2 (by decide) (fun c16 => ?_) (fun c16 => ?_)
  · have h := h.1 c16
    refine lv_bipush (v := -2) hx hb dX9_drawn_11 (by decide) ?_
    exact hret _ _ _ _ _ _ ⟨_, _, _, _, _, _, _, _, _, rfl, h⟩ hw dX9_drawn_13
  · have h := h.2 c16
    refine lv_iload_n hx hb dX9_drawn_5 rfl (lv_at hl 1 rfl) ?_
    refine lv_bipush (v := 20) hx hb dX9_drawn_6 (by decide) ?_
    refine lv_icmp_le (tgt := 14) hx hb dX9_drawn_8 (by decide) (fun c17 => ?_) (fun c17 => ?_)
    · have h := h.1 c17
      refine lv_aload_n hx hb dX9_drawn_14 rfl (lv_at hl 0 rfl) ?_
      refine gC_X9_40_main E hw dX9_drawn_15 ?_
      refine lv_aload_n hx hb dX9_drawn_18 rfl (lv_at hl 0 rfl) ?_
      refine gC_X9_36_main E hw dX9_drawn_19 ?_
      refine g_aV E hw (g_rV E hw (c_X7_takeFrom_now_copy h _) ym_X7_takeFrom k_394 ⟨rfl, rfl⟩ ⟨Nat.le_of_ble_eq_true rfl, Nat.le_of_ble_eq_true rfl⟩ 16 rfl rfl rfl rfl hl.1 rfl (Nat.le_of_ble_eq_true rfl) ⟨Nat.zero_le _, Nat.zero_le _⟩ dX9_drawn_22) (fun u H locs hq hw => ?_)
      obtain ⟨y19, y20, y21, y22, y23, hu, h⟩ := hq
      rw [hu] at hw
      refine lv_iconst (v := 0) hx hb dX9_drawn_25 (by decide) ?_
      refine lv_istore_n (lv' := [(2, .int (0 : Int32)), (0, .ref (ad 33)), (1, .int p1)]) hx hb dX9_drawn_26 rfl hl (by decide) rfl (fun ls hl => ?_)
      refine lv_iconst (v := 0) hx hb dX9_drawn_27 (by decide) ?_
      refine lv_istore_n (lv' := [(3, .int (0 : Int32)), (2, .int (0 : Int32)), (0, .ref (ad 33)), (1, .int p1)]) hx hb dX9_drawn_28 rfl hl (by decide) rfl (fun ls hl => ?_)
      obtain ⟨n, h⟩ := h
      exact L29 n (0 : Int32) (0 : Int32) y19 y20 y21 y22 y23 f_lastSeed f_logic_ones f_logic_settled f_logic_unknowns _ _ _ h hw (lv_sub hl [2, 3, 1, 0] rfl)
    · have h := h.2 c17
      refine lv_bipush (v := -2) hx hb dX9_drawn_11 (by decide) ?_
      exact hret _ _ _ _ _ _ ⟨_, _, _, _, _, _, _, _, _, rfl, h⟩ hw dX9_drawn_13
set_option maxRecDepth 100000 in
set_option maxHeartbeats 4000000 in
theorem c_X9_keep {l : Launch} {D : va_G} {cI cZ : ClassId} {ad : Nat → Nat} {f_keptSlots : Int32} {f_trace : Nat → Int32} {f_lastSeed : Int64} {f_text_letters : Nat → Int32} {f_text_length : Int32} {f_reader_place : Int32} {f_reader_greatestSource : Int32} {f_plan_chips : Int32} {f_plan_firstPins : Int32} {f_plan_firstPlaces : Int32} {f_plan_gates : Int32} {f_plan_inputs : Int32} {f_plan_registers : Int32} {f_plan_slowRegisters : Int32} {f_plan_kinds : Nat → Int32} {f_plan_firsts : Nat → Int32} {f_plan_seconds : Nat → Int32} {f_plan_clocks : Nat → Int32} {f_plan_sourceSets : Nat → Int32} {f_spare_chips : Int32} {f_spare_firstPins : Int32} {f_spare_firstPlaces : Int32} {f_spare_gates : Int32} {f_spare_inputs : Int32} {f_spare_registers : Int32} {f_spare_slowRegisters : Int32} {f_spare_kinds : Nat → Int32} {f_spare_firsts : Nat → Int32} {f_spare_seconds : Nat → Int32} {f_spare_clocks : Nat → Int32} {f_spare_sourceSets : Nat → Int32} {f_now_ones : Int32} {f_now_unknowns : Int32} {f_now_places : Int32} {f_now_pins : Int32} {f_now_count : Int32} {f_copy_ones : Int32} {f_copy_unknowns : Int32} {f_copy_places : Int32} {f_copy_pins : Int32} {f_copy_count : Int32} {f_logic_ones : Int32} {f_logic_unknowns : Int32} {f_logic_settled : Int32} {f_sched_available : Nat → Int32} {f_sched_wanted : Nat → Int32} {f_sched_coming : Nat → Int32} {f_sched_waiting : Int32} {f_sched_taken : Int32} {f_sched_sent : Int32} {f_sched_lastSent : Int32} {f_hist_next : Int32} {f_hist_held : Int32} {f_ring_cells : Nat → Int32} {f_kept_cells : Nat → Int32} {f_sight_steps : Nat → Int32} {f_sight_gates : Nat → Int32} {f_sight_values : Nat → Int32} {f_sight_truths : Nat → Int32} {f_sight_held : Int32} {X : va_W} {p1 : Int32} {Q : Int32 → (Nat → Int32) → Int32 → Prop} (h : wp_X9_keep f_kept_cells f_keptSlots f_now_count f_now_ones f_now_pins f_now_places f_now_unknowns p1 Q) : CtI l yX9_keep cX9_keep 2 (some .int) ({ frames := 2, cells := 0, slots := 0, locals := 45 } : Room) D [(cI, .int), (cZ, .boolean)] [.ref (ad 33), .int p1] (wC ad cI cZ f_keptSlots f_trace f_lastSeed f_text_letters f_text_length f_reader_place f_reader_greatestSource f_plan_chips f_plan_firstPins f_plan_firstPlaces f_plan_gates f_plan_inputs f_plan_registers f_plan_slowRegisters f_plan_kinds f_plan_firsts f_plan_seconds f_plan_clocks f_plan_sourceSets f_spare_chips f_spare_firstPins f_spare_firstPlaces f_spare_gates f_spare_inputs f_spare_registers f_spare_slowRegisters f_spare_kinds f_spare_firsts f_spare_seconds f_spare_clocks f_spare_sourceSets f_now_ones f_now_unknowns f_now_places f_now_pins f_now_count f_copy_ones f_copy_unknowns f_copy_places f_copy_pins f_copy_count f_logic_ones f_logic_unknowns f_logic_settled f_sched_available f_sched_wanted f_sched_coming f_sched_waiting f_sched_taken f_sched_sent f_sched_lastSent f_hist_next f_hist_held f_ring_cells f_kept_cells f_sight_steps f_sight_gates f_sight_values f_sight_truths f_sight_held X) (fun r u => ∃ w0 w1, u = (wC ad cI cZ w1 f_trace f_lastSeed f_text_letters f_text_length f_reader_place f_reader_greatestSource f_plan_chips f_plan_firstPins f_plan_firstPlaces f_plan_gates f_plan_inputs f_plan_registers f_plan_slowRegisters f_plan_kinds f_plan_firsts f_plan_seconds f_plan_clocks f_plan_sourceSets f_spare_chips f_spare_firstPins f_spare_firstPlaces f_spare_gates f_spare_inputs f_spare_registers f_spare_slowRegisters f_spare_kinds f_spare_firsts f_spare_seconds f_spare_clocks f_spare_sourceSets f_now_ones f_now_unknowns f_now_places f_now_pins f_now_count f_copy_ones f_copy_unknowns f_copy_places f_copy_pins f_copy_count f_logic_ones f_logic_unknowns f_logic_settled f_sched_available f_sched_wanted f_sched_coming f_sched_waiting f_sched_taken f_sched_sent f_sched_lastSent f_hist_next f_hist_held f_ring_cells w0 f_sight_steps f_sight_gates f_sight_values f_sight_truths f_sight_held X) ∧ Q r w0 w1) := by
  refine CtI.of (by decide) rfl (Nat.le_of_ble_eq_true rfl) ?_
  intro p e s m args below meth c A Z E hret ls hl hw
  have E : gE p m c cX9_keep 2 s args RX9 D [(cI, .int), (cZ, .boolean)] A := E
  have hx := E.1.1
  have hb := E.1.2.1
  have hl : lv_has ls 2 [(0, .ref (ad 33)), (1, .int p1)] := hl
  unfold wp_X9_keep at h
  refine lv_iload_n hx hb dX9_keep_0 rfl (lv_at hl 1 rfl) ?_
  refine g_aI E hw (g_rS E hw (c_X9_isKeeper h _) ym_X9_isKeeper k_568 ⟨rfl, rfl⟩ ⟨Nat.le_of_ble_eq_true rfl, Nat.le_of_ble_eq_true rfl⟩ rfl hl.1 rfl (Nat.le_of_ble_eq_true rfl) ⟨Nat.zero_le _, Nat.zero_le _⟩ dX9_keep_1) (fun r1 u H locs hq hw => ?_)
  obtain ⟨hu, h⟩ := hq
  rw [hu] at hw
  refine lv_if_ne (tgt := 9) hx hb dX9_keep_4 (by decide) (fun c2 => ?_) (fun c2 => ?_)
  · have h := h.1 c2
    refine lv_aload_n hx hb dX9_keep_9 rfl (lv_at hl 0 rfl) ?_
    refine gC_X9_69_main E hw dX9_keep_10 ?_
    refine lv_iload_n hx hb dX9_keep_13 rfl (lv_at hl 1 rfl) ?_
    refine lv_aload_n hx hb dX9_keep_14 rfl (lv_at hl 0 rfl) ?_
    refine gC_X9_36_main E hw dX9_keep_15 ?_
    refine g_aV E hw (g_rV E hw (c_X5_put_now_kept h _) ym_X5_put k_571 ⟨rfl, rfl⟩ ⟨Nat.le_of_ble_eq_true rfl, Nat.le_of_ble_eq_true rfl⟩ 7 rfl rfl rfl rfl hl.1 rfl (Nat.le_of_ble_eq_true rfl) ⟨Nat.zero_le _, Nat.zero_le _⟩ dX9_keep_18) (fun u H locs hq hw => ?_)
    obtain ⟨y4, hu, h⟩ := hq
    rw [hu] at hw
    refine lv_aload_n hx hb dX9_keep_21 rfl (lv_at hl 0 rfl) ?_
    refine lv_dup hx hb dX9_keep_22 rfl ?_
    refine gC_X9_73_main E hw dX9_keep_23 ?_
    refine lv_iload_n hx hb dX9_keep_26 rfl (lv_at hl 1 rfl) ?_
    refine g_aI E hw (g_rS E hw (c_X9_bit h _) ym_X9_bit k_313 ⟨rfl, rfl⟩ ⟨Nat.le_of_ble_eq_true rfl, Nat.le_of_ble_eq_true rfl⟩ rfl hl.1 rfl (Nat.le_of_ble_eq_true rfl) ⟨Nat.zero_le _, Nat.zero_le _⟩ dX9_keep_27) (fun r5 u H locs hq hw => ?_)
    obtain ⟨hu, h⟩ := hq
    rw [hu] at hw
    refine lv_ior hx hb dX9_keep_30 ?_
    refine lv_topi (fun v6 ev6 => ?_)
    have h := h v6 ev6
    refine pC_X9_73_main E hw dX9_keep_31 (fun H locs hw => ?_)
    refine lv_aload_n hx hb dX9_keep_34 rfl (lv_at hl 0 rfl) ?_
    refine gC_X9_36_main E hw dX9_keep_35 ?_
    refine gC_X9_151_now E hw dX9_keep_38 ?_
    exact hret _ _ _ _ _ _ ⟨_, _, rfl, h⟩ hw dX9_keep_41
  · have h := h.2 c2
    refine lv_iconst (v := -1) hx hb dX9_keep_7 (by decide) ?_
    exact hret _ _ _ _ _ _ ⟨_, _, rfl, h⟩ hw dX9_keep_8
set_option maxRecDepth 100000 in
set_option maxHeartbeats 4000000 in
theorem c_X9_again {l : Launch} {D : va_G} {cI cZ : ClassId} {ad : Nat → Nat} {f_keptSlots : Int32} {f_trace : Nat → Int32} {f_lastSeed : Int64} {f_text_letters : Nat → Int32} {f_text_length : Int32} {f_reader_place : Int32} {f_reader_greatestSource : Int32} {f_plan_chips : Int32} {f_plan_firstPins : Int32} {f_plan_firstPlaces : Int32} {f_plan_gates : Int32} {f_plan_inputs : Int32} {f_plan_registers : Int32} {f_plan_slowRegisters : Int32} {f_plan_kinds : Nat → Int32} {f_plan_firsts : Nat → Int32} {f_plan_seconds : Nat → Int32} {f_plan_clocks : Nat → Int32} {f_plan_sourceSets : Nat → Int32} {f_spare_chips : Int32} {f_spare_firstPins : Int32} {f_spare_firstPlaces : Int32} {f_spare_gates : Int32} {f_spare_inputs : Int32} {f_spare_registers : Int32} {f_spare_slowRegisters : Int32} {f_spare_kinds : Nat → Int32} {f_spare_firsts : Nat → Int32} {f_spare_seconds : Nat → Int32} {f_spare_clocks : Nat → Int32} {f_spare_sourceSets : Nat → Int32} {f_now_ones : Int32} {f_now_unknowns : Int32} {f_now_places : Int32} {f_now_pins : Int32} {f_now_count : Int32} {f_copy_ones : Int32} {f_copy_unknowns : Int32} {f_copy_places : Int32} {f_copy_pins : Int32} {f_copy_count : Int32} {f_logic_ones : Int32} {f_logic_unknowns : Int32} {f_logic_settled : Int32} {f_sched_available : Nat → Int32} {f_sched_wanted : Nat → Int32} {f_sched_coming : Nat → Int32} {f_sched_waiting : Int32} {f_sched_taken : Int32} {f_sched_sent : Int32} {f_sched_lastSent : Int32} {f_hist_next : Int32} {f_hist_held : Int32} {f_ring_cells : Nat → Int32} {f_kept_cells : Nat → Int32} {f_sight_steps : Nat → Int32} {f_sight_gates : Nat → Int32} {f_sight_values : Nat → Int32} {f_sight_truths : Nat → Int32} {f_sight_held : Int32} {X : va_W} {p1 : Int32} {Q : Int32 → Int32 → Int32 → Int32 → Int32 → Int32 → Int32 → Prop} (h : wp_X9_again f_hist_held f_kept_cells f_keptSlots f_now_count f_now_ones f_now_pins f_now_places f_now_unknowns p1 Q) : CtI l yX9_again cX9_again 2 (some .int) ({ frames := 2, cells := 0, slots := 0, locals := 44 } : Room) D [(cI, .int), (cZ, .boolean)] [.ref (ad 33), .int p1] (wC ad cI cZ f_keptSlots f_trace f_lastSeed f_text_letters f_text_length f_reader_place f_reader_greatestSource f_plan_chips f_plan_firstPins f_plan_firstPlaces f_plan_gates f_plan_inputs f_plan_registers f_plan_slowRegisters f_plan_kinds f_plan_firsts f_plan_seconds f_plan_clocks f_plan_sourceSets f_spare_chips f_spare_firstPins f_spare_firstPlaces f_spare_gates f_spare_inputs f_spare_registers f_spare_slowRegisters f_spare_kinds f_spare_firsts f_spare_seconds f_spare_clocks f_spare_sourceSets f_now_ones f_now_unknowns f_now_places f_now_pins f_now_count f_copy_ones f_copy_unknowns f_copy_places f_copy_pins f_copy_count f_logic_ones f_logic_unknowns f_logic_settled f_sched_available f_sched_wanted f_sched_coming f_sched_waiting f_sched_taken f_sched_sent f_sched_lastSent f_hist_next f_hist_held f_ring_cells f_kept_cells f_sight_steps f_sight_gates f_sight_values f_sight_truths f_sight_held X) (fun r u => ∃ w0 w1 w2 w3 w4 w5, u = (wC ad cI cZ f_keptSlots f_trace f_lastSeed f_text_letters f_text_length f_reader_place f_reader_greatestSource f_plan_chips f_plan_firstPins f_plan_firstPlaces f_plan_gates f_plan_inputs f_plan_registers f_plan_slowRegisters f_plan_kinds f_plan_firsts f_plan_seconds f_plan_clocks f_plan_sourceSets f_spare_chips f_spare_firstPins f_spare_firstPlaces f_spare_gates f_spare_inputs f_spare_registers f_spare_slowRegisters f_spare_kinds f_spare_firsts f_spare_seconds f_spare_clocks f_spare_sourceSets w2 w5 w4 w3 w1 f_copy_ones f_copy_unknowns f_copy_places f_copy_pins f_copy_count f_logic_ones f_logic_unknowns f_logic_settled f_sched_available f_sched_wanted f_sched_coming f_sched_waiting f_sched_taken f_sched_sent f_sched_lastSent f_hist_next w0 f_ring_cells f_kept_cells f_sight_steps f_sight_gates f_sight_values f_sight_truths f_sight_held X) ∧ Q r w0 w1 w2 w3 w4 w5) := by
  refine CtI.of (by decide) rfl (Nat.le_of_ble_eq_true rfl) ?_
  intro p e s m args below meth c A Z E hret ls hl hw
  have E : gE p m c cX9_again 2 s args RX9 D [(cI, .int), (cZ, .boolean)] A := E
  have hx := E.1.1
  have hb := E.1.2.1
  have hl : lv_has ls 2 [(0, .ref (ad 33)), (1, .int p1)] := hl
  unfold wp_X9_again at h
  refine lv_iload_n hx hb dX9_again_0 rfl (lv_at hl 1 rfl) ?_
  refine g_aI E hw (g_rS E hw (c_X9_isKeeper h _) ym_X9_isKeeper k_568 ⟨rfl, rfl⟩ ⟨Nat.le_of_ble_eq_true rfl, Nat.le_of_ble_eq_true rfl⟩ rfl hl.1 rfl (Nat.le_of_ble_eq_true rfl) ⟨Nat.zero_le _, Nat.zero_le _⟩ dX9_again_1) (fun r1 u H locs hq hw => ?_)
  obtain ⟨hu, h⟩ := hq
  rw [hu] at hw
  refine lv_if_ne (tgt := 9) hx hb dX9_again_4 (by decide) (fun c2 => ?_) (fun c2 => ?_)
  · have h := h.1 c2
    refine lv_aload_n hx hb dX9_again_9 rfl (lv_at hl 0 rfl) ?_
    refine gC_X9_73_main E hw dX9_again_10 ?_
    refine lv_iload_n hx hb dX9_again_13 rfl (lv_at hl 1 rfl) ?_
    refine g_aI E hw (g_rS E hw (c_X9_bit h _) ym_X9_bit k_313 ⟨rfl, rfl⟩ ⟨Nat.le_of_ble_eq_true rfl, Nat.le_of_ble_eq_true rfl⟩ rfl hl.1 rfl (Nat.le_of_ble_eq_true rfl) ⟨Nat.zero_le _, Nat.zero_le _⟩ dX9_again_14) (fun r3 u H locs hq hw => ?_)
    obtain ⟨hu, h⟩ := hq
    rw [hu] at hw
    refine lv_iand hx hb dX9_again_17 ?_
    refine lv_if_ne (tgt := 24) hx hb dX9_again_18 (by decide) (fun c4 => ?_) (fun c4 => ?_)
    · have h := h.1 c4
      refine lv_aload_n hx hb dX9_again_24 rfl (lv_at hl 0 rfl) ?_
      refine gC_X9_69_main E hw dX9_again_25 ?_
      refine lv_iload_n hx hb dX9_again_28 rfl (lv_at hl 1 rfl) ?_
      refine lv_aload_n hx hb dX9_again_29 rfl (lv_at hl 0 rfl) ?_
      refine gC_X9_36_main E hw dX9_again_30 ?_
      refine g_aV E hw (g_rV E hw (c_X5_get_now_kept h _) ym_X5_get k_576 ⟨rfl, rfl⟩ ⟨Nat.le_of_ble_eq_true rfl, Nat.le_of_ble_eq_true rfl⟩ 7 rfl rfl rfl rfl hl.1 rfl (Nat.le_of_ble_eq_true rfl) ⟨Nat.zero_le _, Nat.zero_le _⟩ dX9_again_33) (fun u H locs hq hw => ?_)
      obtain ⟨y6, y7, y8, y9, y10, hu, h⟩ := hq
      rw [hu] at hw
      refine lv_aload_n hx hb dX9_again_36 rfl (lv_at hl 0 rfl) ?_
      refine gC_X9_60_main E hw dX9_again_37 ?_
      refine g_aV E hw (g_rV E hw (c_X0_forget h _) ym_X0_forget k_268 ⟨rfl, rfl⟩ ⟨Nat.le_of_ble_eq_true rfl, Nat.le_of_ble_eq_true rfl⟩ 10 rfl rfl rfl rfl hl.1 rfl (Nat.le_of_ble_eq_true rfl) ⟨Nat.zero_le _, Nat.zero_le _⟩ dX9_again_40) (fun u H locs hq hw => ?_)
      obtain ⟨y12, hu, h⟩ := hq
      rw [hu] at hw
      refine lv_aload_n hx hb dX9_again_43 rfl (lv_at hl 0 rfl) ?_
      refine gC_X9_36_main E hw dX9_again_44 ?_
      refine gC_X9_151_now E hw dX9_again_47 ?_
      exact hret _ _ _ _ _ _ ⟨_, _, _, _, _, _, rfl, h⟩ hw dX9_again_50
    · have h := h.2 c4
      refine lv_bipush (v := -3) hx hb dX9_again_21 (by decide) ?_
      exact hret _ _ _ _ _ _ ⟨_, _, _, _, _, _, rfl, h⟩ hw dX9_again_23
  · have h := h.2 c2
    refine lv_iconst (v := -1) hx hb dX9_again_7 (by decide) ?_
    exact hret _ _ _ _ _ _ ⟨_, _, _, _, _, _, rfl, h⟩ hw dX9_again_8
set_option maxRecDepth 100000 in
set_option maxHeartbeats 4000000 in
theorem c_X9_count {l : Launch} {D : va_G} {cI cZ : ClassId} {ad : Nat → Nat} {f_keptSlots : Int32} {f_trace : Nat → Int32} {f_lastSeed : Int64} {f_text_letters : Nat → Int32} {f_text_length : Int32} {f_reader_place : Int32} {f_reader_greatestSource : Int32} {f_plan_chips : Int32} {f_plan_firstPins : Int32} {f_plan_firstPlaces : Int32} {f_plan_gates : Int32} {f_plan_inputs : Int32} {f_plan_registers : Int32} {f_plan_slowRegisters : Int32} {f_plan_kinds : Nat → Int32} {f_plan_firsts : Nat → Int32} {f_plan_seconds : Nat → Int32} {f_plan_clocks : Nat → Int32} {f_plan_sourceSets : Nat → Int32} {f_spare_chips : Int32} {f_spare_firstPins : Int32} {f_spare_firstPlaces : Int32} {f_spare_gates : Int32} {f_spare_inputs : Int32} {f_spare_registers : Int32} {f_spare_slowRegisters : Int32} {f_spare_kinds : Nat → Int32} {f_spare_firsts : Nat → Int32} {f_spare_seconds : Nat → Int32} {f_spare_clocks : Nat → Int32} {f_spare_sourceSets : Nat → Int32} {f_now_ones : Int32} {f_now_unknowns : Int32} {f_now_places : Int32} {f_now_pins : Int32} {f_now_count : Int32} {f_copy_ones : Int32} {f_copy_unknowns : Int32} {f_copy_places : Int32} {f_copy_pins : Int32} {f_copy_count : Int32} {f_logic_ones : Int32} {f_logic_unknowns : Int32} {f_logic_settled : Int32} {f_sched_available : Nat → Int32} {f_sched_wanted : Nat → Int32} {f_sched_coming : Nat → Int32} {f_sched_waiting : Int32} {f_sched_taken : Int32} {f_sched_sent : Int32} {f_sched_lastSent : Int32} {f_hist_next : Int32} {f_hist_held : Int32} {f_ring_cells : Nat → Int32} {f_kept_cells : Nat → Int32} {f_sight_steps : Nat → Int32} {f_sight_gates : Nat → Int32} {f_sight_values : Nat → Int32} {f_sight_truths : Nat → Int32} {f_sight_held : Int32} {X : va_W} {p1 : Int32} {Q : Int32 → Int32 → Int32 → Int32 → Prop} (h : wp_X9_count f_hist_held f_logic_ones f_logic_settled f_logic_unknowns f_now_count f_now_ones f_now_pins f_now_unknowns f_plan_chips f_plan_firsts f_plan_gates f_plan_inputs f_plan_kinds f_plan_registers f_plan_seconds f_plan_sourceSets f_sight_held f_text_length p1 Q) : CtI l yX9_count cX9_count 2 (some .int) ({ frames := 4, cells := 0, slots := 0, locals := 91 } : Room) D [(cI, .int), (cZ, .boolean)] [.ref (ad 33), .int p1] (wC ad cI cZ f_keptSlots f_trace f_lastSeed f_text_letters f_text_length f_reader_place f_reader_greatestSource f_plan_chips f_plan_firstPins f_plan_firstPlaces f_plan_gates f_plan_inputs f_plan_registers f_plan_slowRegisters f_plan_kinds f_plan_firsts f_plan_seconds f_plan_clocks f_plan_sourceSets f_spare_chips f_spare_firstPins f_spare_firstPlaces f_spare_gates f_spare_inputs f_spare_registers f_spare_slowRegisters f_spare_kinds f_spare_firsts f_spare_seconds f_spare_clocks f_spare_sourceSets f_now_ones f_now_unknowns f_now_places f_now_pins f_now_count f_copy_ones f_copy_unknowns f_copy_places f_copy_pins f_copy_count f_logic_ones f_logic_unknowns f_logic_settled f_sched_available f_sched_wanted f_sched_coming f_sched_waiting f_sched_taken f_sched_sent f_sched_lastSent f_hist_next f_hist_held f_ring_cells f_kept_cells f_sight_steps f_sight_gates f_sight_values f_sight_truths f_sight_held X) (fun r u => ∃ w0 w1 w2, u = (wC ad cI cZ f_keptSlots f_trace f_lastSeed f_text_letters f_text_length f_reader_place f_reader_greatestSource f_plan_chips f_plan_firstPins f_plan_firstPlaces f_plan_gates f_plan_inputs f_plan_registers f_plan_slowRegisters f_plan_kinds f_plan_firsts f_plan_seconds f_plan_clocks f_plan_sourceSets f_spare_chips f_spare_firstPins f_spare_firstPlaces f_spare_gates f_spare_inputs f_spare_registers f_spare_slowRegisters f_spare_kinds f_spare_firsts f_spare_seconds f_spare_clocks f_spare_sourceSets f_now_ones f_now_unknowns f_now_places f_now_pins f_now_count f_copy_ones f_copy_unknowns f_copy_places f_copy_pins f_copy_count w0 w2 w1 f_sched_available f_sched_wanted f_sched_coming f_sched_waiting f_sched_taken f_sched_sent f_sched_lastSent f_hist_next f_hist_held f_ring_cells f_kept_cells f_sight_steps f_sight_gates f_sight_values f_sight_truths f_sight_held X) ∧ Q r w0 w1 w2) := by
  refine CtI.of (by decide) rfl (Nat.le_of_ble_eq_true rfl) ?_
  intro p e s m args below meth c A Z E hret ls hl hw
  have E : gE p m c cX9_count 2 s args RX9 D [(cI, .int), (cZ, .boolean)] A := E
  have hx := E.1.1
  have hb := E.1.2.1
  have hl : lv_has ls 2 [(0, .ref (ad 33)), (1, .int p1)] := hl
  unfold wp_X9_count at h
  refine lv_iload_n hx hb dX9_count_0 rfl (lv_at hl 1 rfl) ?_
  by_cases c1 : p1 = 0
  · have h := h.1 c1
    refine lv_tableIn (tgt := 60) (off := 59) hx hb dX9_count_1 (by rw [c1]; decide) (by rw [c1]; decide) (by rw [c1]; rfl) (by decide) ?_
    refine lv_aload_n hx hb dX9_count_60 rfl (lv_at hl 0 rfl) ?_
    refine gC_X9_12_main E hw dX9_count_61 ?_
    refine gC_X9_96_text E hw dX9_count_64 ?_
    exact hret _ _ _ _ _ _ ⟨_, _, _, rfl, h⟩ hw dX9_count_67
  · have h := h.2 c1
    by_cases c2 : p1 = 1
    · have h := h.1 c2
      refine lv_tableIn (tgt := 68) (off := 67) hx hb dX9_count_1 (by rw [c2]; decide) (by rw [c2]; decide) (by rw [c2]; rfl) (by decide) ?_
      refine lv_aload_n hx hb dX9_count_68 rfl (lv_at hl 0 rfl) ?_
      refine gC_X9_26_main E hw dX9_count_69 ?_
      refine gC_X9_280_plan E hw dX9_count_72 ?_
      exact hret _ _ _ _ _ _ ⟨_, _, _, rfl, h⟩ hw dX9_count_75
    · have h := h.2 c2
      by_cases c3 : p1 = 2
      · have h := h.1 c3
        refine lv_tableIn (tgt := 76) (off := 75) hx hb dX9_count_1 (by rw [c3]; decide) (by rw [c3]; decide) (by rw [c3]; rfl) (by decide) ?_
        refine lv_aload_n hx hb dX9_count_76 rfl (lv_at hl 0 rfl) ?_
        refine gC_X9_26_main E hw dX9_count_77 ?_
        refine gC_X9_110_plan E hw dX9_count_80 ?_
        exact hret _ _ _ _ _ _ ⟨_, _, _, rfl, h⟩ hw dX9_count_83
      · have h := h.2 c3
        by_cases c4 : p1 = 3
        · have h := h.1 c4
          refine lv_tableIn (tgt := 84) (off := 83) hx hb dX9_count_1 (by rw [c4]; decide) (by rw [c4]; decide) (by rw [c4]; rfl) (by decide) ?_
          refine lv_aload_n hx hb dX9_count_84 rfl (lv_at hl 0 rfl) ?_
          refine gC_X9_36_main E hw dX9_count_85 ?_
          refine gC_X9_180_now E hw dX9_count_88 ?_
          exact hret _ _ _ _ _ _ ⟨_, _, _, rfl, h⟩ hw dX9_count_91
        · have h := h.2 c4
          by_cases c5 : p1 = 4
          · have h := h.1 c5
            refine lv_tableIn (tgt := 92) (off := 91) hx hb dX9_count_1 (by rw [c5]; decide) (by rw [c5]; decide) (by rw [c5]; rfl) (by decide) ?_
            refine lv_aload_n hx hb dX9_count_92 rfl (lv_at hl 0 rfl) ?_
            refine gC_X9_36_main E hw dX9_count_93 ?_
            refine gC_X9_151_now E hw dX9_count_96 ?_
            exact hret _ _ _ _ _ _ ⟨_, _, _, rfl, h⟩ hw dX9_count_99
          · have h := h.2 c5
            by_cases c6 : p1 = 5
            · have h := h.1 c6
              refine lv_tableIn (tgt := 100) (off := 99) hx hb dX9_count_1 (by rw [c6]; decide) (by rw [c6]; decide) (by rw [c6]; rfl) (by decide) ?_
              refine lv_aload_n hx hb dX9_count_100 rfl (lv_at hl 0 rfl) ?_
              refine gC_X9_26_main E hw dX9_count_101 ?_
              refine gC_X9_283_plan E hw dX9_count_104 ?_
              exact hret _ _ _ _ _ _ ⟨_, _, _, rfl, h⟩ hw dX9_count_107
            · have h := h.2 c6
              by_cases c7 : p1 = 6
              · have h := h.1 c7
                refine lv_tableIn (tgt := 108) (off := 107) hx hb dX9_count_1 (by rw [c7]; decide) (by rw [c7]; decide) (by rw [c7]; rfl) (by decide) ?_
                refine lv_aload_n hx hb dX9_count_108 rfl (lv_at hl 0 rfl) ?_
                refine gC_X9_26_main E hw dX9_count_109 ?_
                refine gC_X9_267_plan E hw dX9_count_112 ?_
                exact hret _ _ _ _ _ _ ⟨_, _, _, rfl, h⟩ hw dX9_count_115
              · have h := h.2 c7
                by_cases c8 : p1 = 7
                · have h := h.1 c8
                  refine lv_tableIn (tgt := 116) (off := 115) hx hb dX9_count_1 (by rw [c8]; decide) (by rw [c8]; decide) (by rw [c8]; rfl) (by decide) ?_
                  refine lv_aload_n hx hb dX9_count_116 rfl (lv_at hl 0 rfl) ?_
                  refine gC_X9_46_main E hw dX9_count_117 ?_
                  refine lv_aload_n hx hb dX9_count_120 rfl (lv_at hl 0 rfl) ?_
                  refine gC_X9_26_main E hw dX9_count_121 ?_
                  refine lv_aload_n hx hb dX9_count_124 rfl (lv_at hl 0 rfl) ?_
                  refine gC_X9_36_main E hw dX9_count_125 ?_
                  refine lv_bipush (v := -9) hx hb dX9_count_128 (by decide) ?_
                  refine g_aV E hw (g_rV E hw (c_X1_compute_plan_now h _) ym_X1_compute k_298 ⟨rfl, rfl⟩ ⟨Nat.le_of_ble_eq_true rfl, Nat.le_of_ble_eq_true rfl⟩ 15 rfl rfl rfl rfl hl.1 rfl (Nat.le_of_ble_eq_true rfl) ⟨Nat.zero_le _, Nat.zero_le _⟩ dX9_count_130) (fun u H locs hq hw => ?_)
                  obtain ⟨y10, y11, y12, hu, h⟩ := hq
                  rw [hu] at hw
                  refine lv_aload_n hx hb dX9_count_133 rfl (lv_at hl 0 rfl) ?_
                  refine gC_X9_46_main E hw dX9_count_134 ?_
                  refine gC_X9_290_logic E hw dX9_count_137 ?_
                  exact hret _ _ _ _ _ _ ⟨_, _, _, rfl, h⟩ hw dX9_count_140
                · have h := h.2 c8
                  by_cases c13 : p1 = 8
                  · have h := h.1 c13
                    refine lv_tableIn (tgt := 141) (off := 140) hx hb dX9_count_1 (by rw [c13]; decide) (by rw [c13]; decide) (by rw [c13]; rfl) (by decide) ?_
                    refine lv_aload_n hx hb dX9_count_141 rfl (lv_at hl 0 rfl) ?_
                    refine gC_X9_46_main E hw dX9_count_142 ?_
                    refine lv_aload_n hx hb dX9_count_145 rfl (lv_at hl 0 rfl) ?_
                    refine gC_X9_26_main E hw dX9_count_146 ?_
                    refine lv_aload_n hx hb dX9_count_149 rfl (lv_at hl 0 rfl) ?_
                    refine gC_X9_36_main E hw dX9_count_150 ?_
                    refine lv_bipush (v := -9) hx hb dX9_count_153 (by decide) ?_
                    refine g_aV E hw (g_rV E hw (c_X1_compute_plan_now h _) ym_X1_compute k_298 ⟨rfl, rfl⟩ ⟨Nat.le_of_ble_eq_true rfl, Nat.le_of_ble_eq_true rfl⟩ 15 rfl rfl rfl rfl hl.1 rfl (Nat.le_of_ble_eq_true rfl) ⟨Nat.zero_le _, Nat.zero_le _⟩ dX9_count_155) (fun u H locs hq hw => ?_)
                    obtain ⟨y15, y16, y17, hu, h⟩ := hq
                    rw [hu] at hw
                    refine lv_aload_n hx hb dX9_count_158 rfl (lv_at hl 0 rfl) ?_
                    refine gC_X9_46_main E hw dX9_count_159 ?_
                    refine gC_X9_291_logic E hw dX9_count_162 ?_
                    exact hret _ _ _ _ _ _ ⟨_, _, _, rfl, h⟩ hw dX9_count_165
                  · have h := h.2 c13
                    by_cases c18 : p1 = 9
                    · have h := h.1 c18
                      refine lv_tableIn (tgt := 166) (off := 165) hx hb dX9_count_1 (by rw [c18]; decide) (by rw [c18]; decide) (by rw [c18]; rfl) (by decide) ?_
                      refine lv_aload_n hx hb dX9_count_166 rfl (lv_at hl 0 rfl) ?_
                      refine gC_X9_60_main E hw dX9_count_167 ?_
                      refine gC_X9_183_hist E hw dX9_count_170 ?_
                      exact hret _ _ _ _ _ _ ⟨_, _, _, rfl, h⟩ hw dX9_count_173
                    · have h := h.2 c18
                      by_cases c19 : p1 = 10
                      · have h := h.1 c19
                        refine lv_tableIn (tgt := 174) (off := 173) hx hb dX9_count_1 (by rw [c19]; decide) (by rw [c19]; decide) (by rw [c19]; rfl) (by decide) ?_
                        refine lv_aload_n hx hb dX9_count_174 rfl (lv_at hl 0 rfl) ?_
                        refine gC_X9_80_main E hw dX9_count_175 ?_
                        refine gC_X9_237_sight E hw dX9_count_178 ?_
                        exact hret _ _ _ _ _ _ ⟨_, _, _, rfl, h⟩ hw dX9_count_181
                      · have h := h.2 c19
                        have nc1 := lv_neT c1 (a := 0) rfl
                        have nc2 := lv_neT c2 (a := 1) rfl
                        have nc3 := lv_neT c3 (a := 2) rfl
                        have nc4 := lv_neT c4 (a := 3) rfl
                        have nc5 := lv_neT c5 (a := 4) rfl
                        have nc6 := lv_neT c6 (a := 5) rfl
                        have nc7 := lv_neT c7 (a := 6) rfl
                        have nc8 := lv_neT c8 (a := 7) rfl
                        have nc13 := lv_neT c13 (a := 8) rfl
                        have nc18 := lv_neT c18 (a := 9) rfl
                        have nc19 := lv_neT c19 (a := 10) rfl
                        refine lv_tableOut (tgt := 182) hx hb dX9_count_1 (by omega) (by decide) ?_
                        refine lv_bipush (v := -2) hx hb dX9_count_182 (by decide) ?_
                        exact hret _ _ _ _ _ _ ⟨_, _, _, rfl, h⟩ hw dX9_count_184
