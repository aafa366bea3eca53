set_option maxRecDepth 100000 in
set_option maxHeartbeats 4000000 in
theorem c_X8_append {l : Launch} {D : va_G} {cI cZ : ClassId} {ad : Nat → Nat} {f_keptSlots : Int32} {f_trace : Nat → Int32} {f_lastSeed : Int64} {f_text_letters : Nat → Int32} {f_text_length : Int32} {f_reader_place : Int32} {f_reader_greatestSource : Int32} {f_plan_chips : Int32} {f_plan_firstPins : Int32} {f_plan_firstPlaces : Int32} {f_plan_gates : Int32} {f_plan_inputs : Int32} {f_plan_registers : Int32} {f_plan_slowRegisters : Int32} {f_plan_kinds : Nat → Int32} {f_plan_firsts : Nat → Int32} {f_plan_seconds : Nat → Int32} {f_plan_clocks : Nat → Int32} {f_plan_sourceSets : Nat → Int32} {f_spare_chips : Int32} {f_spare_firstPins : Int32} {f_spare_firstPlaces : Int32} {f_spare_gates : Int32} {f_spare_inputs : Int32} {f_spare_registers : Int32} {f_spare_slowRegisters : Int32} {f_spare_kinds : Nat → Int32} {f_spare_firsts : Nat → Int32} {f_spare_seconds : Nat → Int32} {f_spare_clocks : Nat → Int32} {f_spare_sourceSets : Nat → Int32} {f_now_ones : Int32} {f_now_unknowns : Int32} {f_now_places : Int32} {f_now_pins : Int32} {f_now_count : Int32} {f_copy_ones : Int32} {f_copy_unknowns : Int32} {f_copy_places : Int32} {f_copy_pins : Int32} {f_copy_count : Int32} {f_logic_ones : Int32} {f_logic_unknowns : Int32} {f_logic_settled : Int32} {f_sched_available : Nat → Int32} {f_sched_wanted : Nat → Int32} {f_sched_coming : Nat → Int32} {f_sched_waiting : Int32} {f_sched_taken : Int32} {f_sched_sent : Int32} {f_sched_lastSent : Int32} {f_hist_next : Int32} {f_hist_held : Int32} {f_ring_cells : Nat → Int32} {f_kept_cells : Nat → Int32} {f_sight_steps : Nat → Int32} {f_sight_gates : Nat → Int32} {f_sight_values : Nat → Int32} {f_sight_truths : Nat → Int32} {f_sight_held : Int32} {X : va_W} {p1 : Int32} {Q : Int32 → Int32 → (Nat → Int32) → Prop} (h : wp_X8_append f_text_length f_text_letters p1 Q) : CtI l yX8_append cX8_append 2 (some .boolean) ({ frames := 1, cells := 0, slots := 0, locals := 22 } : Room) D [(cI, .int), (cZ, .boolean)] [.ref (ad 32), .int p1] (wC ad cI cZ f_keptSlots f_trace f_lastSeed f_text_letters f_text_length f_reader_place f_reader_greatestSource f_plan_chips f_plan_firstPins f_plan_firstPlaces f_plan_gates f_plan_inputs f_plan_registers f_plan_slowRegisters f_plan_kinds f_plan_firsts f_plan_seconds f_plan_clocks f_plan_sourceSets f_spare_chips f_spare_firstPins f_spare_firstPlaces f_spare_gates f_spare_inputs f_spare_registers f_spare_slowRegisters f_spare_kinds f_spare_firsts f_spare_seconds f_spare_clocks f_spare_sourceSets f_now_ones f_now_unknowns f_now_places f_now_pins f_now_count f_copy_ones f_copy_unknowns f_copy_places f_copy_pins f_copy_count f_logic_ones f_logic_unknowns f_logic_settled f_sched_available f_sched_wanted f_sched_coming f_sched_waiting f_sched_taken f_sched_sent f_sched_lastSent f_hist_next f_hist_held f_ring_cells f_kept_cells f_sight_steps f_sight_gates f_sight_values f_sight_truths f_sight_held X) (fun r u => ∃ w0 w1, u = (wC ad cI cZ f_keptSlots f_trace f_lastSeed w1 w0 f_reader_place f_reader_greatestSource f_plan_chips f_plan_firstPins f_plan_firstPlaces f_plan_gates f_plan_inputs f_plan_registers f_plan_slowRegisters f_plan_kinds f_plan_firsts f_plan_seconds f_plan_clocks f_plan_sourceSets f_spare_chips f_spare_firstPins f_spare_firstPlaces f_spare_gates f_spare_inputs f_spare_registers f_spare_slowRegisters f_spare_kinds f_spare_firsts f_spare_seconds f_spare_clocks f_spare_sourceSets f_now_ones f_now_unknowns f_now_places f_now_pins f_now_count f_copy_ones f_copy_unknowns f_copy_places f_copy_pins f_copy_count f_logic_ones f_logic_unknowns f_logic_settled f_sched_available f_sched_wanted f_sched_coming f_sched_waiting f_sched_taken f_sched_sent f_sched_lastSent f_hist_next f_hist_held f_ring_cells f_kept_cells f_sight_steps f_sight_gates f_sight_values f_sight_truths f_sight_held X) ∧ Q r w0 w1) := by
  refine CtI.ofZ (by decide) rfl (Nat.le_of_ble_eq_true rfl) ?_
  intro p e s m args below meth c A Z E hret ls hl hw
  have E : gE p m c cX8_append 2 s args RX8 D [(cI, .int), (cZ, .boolean)] A := E
  have hx := E.1.1
  have hb := E.1.2.1
  have hl : lv_has ls 2 [(0, .ref (ad 32)), (1, .int p1)] := hl
  unfold wp_X8_append at h
  refine lv_aload_n hx hb dX8_append_0 rfl (lv_at hl 0 rfl) ?_
  refine gC_X8_15_text E hw dX8_append_1 ?_
  refine lv_bipush (v := 90) hx hb dX8_append_4 (by decide) ?_
  refine lv_icmp_lt (tgt := 11) hx hb dX8_append_6 (by decide) (fun c1 => ?_) (fun c1 => ?_)
  · have h := h.1 c1
    refine lv_aload_n hx hb dX8_append_11 rfl (lv_at hl 0 rfl) ?_
    refine gC_X8_9_text E hw dX8_append_12 ?_
    refine lv_aload_n hx hb dX8_append_15 rfl (lv_at hl 0 rfl) ?_
    refine gC_X8_15_text E hw dX8_append_16 ?_
    refine lv_iload_n hx hb dX8_append_19 rfl (lv_at hl 1 rfl) ?_
    refine g_aV E hw (g_rSN E hw (c_X9_setCell (q0 := 31) rfl h _) ym_X9_setCell km_8 ⟨rfl, rfl⟩ ⟨Nat.le_of_ble_eq_true rfl, Nat.le_of_ble_eq_true rfl⟩ rfl hl.1 rfl (Nat.le_of_ble_eq_true rfl) ⟨Nat.zero_le _, Nat.zero_le _⟩ dX8_append_20) (fun u H locs hq hw => ?_)
    obtain ⟨y3, hu, h⟩ := hq
    rw [hu] at hw
    have hw : gW D s A (wC ad cI cZ f_keptSlots f_trace f_lastSeed y3 f_text_length f_reader_place f_reader_greatestSource f_plan_chips f_plan_firstPins f_plan_firstPlaces f_plan_gates f_plan_inputs f_plan_registers f_plan_slowRegisters f_plan_kinds f_plan_firsts f_plan_seconds f_plan_clocks f_plan_sourceSets f_spare_chips f_spare_firstPins f_spare_firstPlaces f_spare_gates f_spare_inputs f_spare_registers f_spare_slowRegisters f_spare_kinds f_spare_firsts f_spare_seconds f_spare_clocks f_spare_sourceSets f_now_ones f_now_unknowns f_now_places f_now_pins f_now_count f_copy_ones f_copy_unknowns f_copy_places f_copy_pins f_copy_count f_logic_ones f_logic_unknowns f_logic_settled f_sched_available f_sched_wanted f_sched_coming f_sched_waiting f_sched_taken f_sched_sent f_sched_lastSent f_hist_next f_hist_held f_ring_cells f_kept_cells f_sight_steps f_sight_gates f_sight_values f_sight_truths f_sight_held X) _ _ := hw
    refine lv_aload_n hx hb dX8_append_23 rfl (lv_at hl 0 rfl) ?_
    refine lv_dup hx hb dX8_append_24 rfl ?_
    refine gC_X8_15_text E hw dX8_append_25 ?_
    refine lv_iconst (v := 1) hx hb dX8_append_28 (by decide) ?_
    refine lv_iadd hx hb dX8_append_29 ?_
    refine lv_topi (fun v4 ev4 => ?_)
    have h := h v4 ev4
    refine pC_X8_15_text E hw dX8_append_30 (fun H locs hw => ?_)
    refine lv_iconst (v := 1) hx hb dX8_append_33 (by decide) ?_
    exact hret _ _ _ _ _ _ (Or.inr rfl) ⟨_, _, rfl, h⟩ hw dX8_append_34
  · have h := h.2 c1
    refine lv_iconst (v := 0) hx hb dX8_append_9 (by decide) ?_
    exact hret _ _ _ _ _ _ (Or.inl rfl) ⟨_, _, rfl, h⟩ hw dX8_append_10
set_option maxRecDepth 100000 in
set_option maxHeartbeats 4000000 in
theorem c_X8_letterAt {l : Launch} {D : va_G} {cI cZ : ClassId} {ad : Nat → Nat} {f_keptSlots : Int32} {f_trace : Nat → Int32} {f_lastSeed : Int64} {f_text_letters : Nat → Int32} {f_text_length : Int32} {f_reader_place : Int32} {f_reader_greatestSource : Int32} {f_plan_chips : Int32} {f_plan_firstPins : Int32} {f_plan_firstPlaces : Int32} {f_plan_gates : Int32} {f_plan_inputs : Int32} {f_plan_registers : Int32} {f_plan_slowRegisters : Int32} {f_plan_kinds : Nat → Int32} {f_plan_firsts : Nat → Int32} {f_plan_seconds : Nat → Int32} {f_plan_clocks : Nat → Int32} {f_plan_sourceSets : Nat → Int32} {f_spare_chips : Int32} {f_spare_firstPins : Int32} {f_spare_firstPlaces : Int32} {f_spare_gates : Int32} {f_spare_inputs : Int32} {f_spare_registers : Int32} {f_spare_slowRegisters : Int32} {f_spare_kinds : Nat → Int32} {f_spare_firsts : Nat → Int32} {f_spare_seconds : Nat → Int32} {f_spare_clocks : Nat → Int32} {f_spare_sourceSets : Nat → Int32} {f_now_ones : Int32} {f_now_unknowns : Int32} {f_now_places : Int32} {f_now_pins : Int32} {f_now_count : Int32} {f_copy_ones : Int32} {f_copy_unknowns : Int32} {f_copy_places : Int32} {f_copy_pins : Int32} {f_copy_count : Int32} {f_logic_ones : Int32} {f_logic_unknowns : Int32} {f_logic_settled : Int32} {f_sched_available : Nat → Int32} {f_sched_wanted : Nat → Int32} {f_sched_coming : Nat → Int32} {f_sched_waiting : Int32} {f_sched_taken : Int32} {f_sched_sent : Int32} {f_sched_lastSent : Int32} {f_hist_next : Int32} {f_hist_held : Int32} {f_ring_cells : Nat → Int32} {f_kept_cells : Nat → Int32} {f_sight_steps : Nat → Int32} {f_sight_gates : Nat → Int32} {f_sight_values : Nat → Int32} {f_sight_truths : Nat → Int32} {f_sight_held : Int32} {X : va_W} {p1 : Int32} {Q : Int32 → Prop} (h : wp_X8_letterAt f_text_letters p1 Q) : CtI l yX8_letterAt cX8_letterAt 2 (some .int) ({ frames := 1, cells := 0, slots := 0, locals := 21 } : Room) D [(cI, .int), (cZ, .boolean)] [.ref (ad 32), .int p1] (wC ad cI cZ f_keptSlots f_trace f_lastSeed f_text_letters f_text_length f_reader_place f_reader_greatestSource f_plan_chips f_plan_firstPins f_plan_firstPlaces f_plan_gates f_plan_inputs f_plan_registers f_plan_slowRegisters f_plan_kinds f_plan_firsts f_plan_seconds f_plan_clocks f_plan_sourceSets f_spare_chips f_spare_firstPins f_spare_firstPlaces f_spare_gates f_spare_inputs f_spare_registers f_spare_slowRegisters f_spare_kinds f_spare_firsts f_spare_seconds f_spare_clocks f_spare_sourceSets f_now_ones f_now_unknowns f_now_places f_now_pins f_now_count f_copy_ones f_copy_unknowns f_copy_places f_copy_pins f_copy_count f_logic_ones f_logic_unknowns f_logic_settled f_sched_available f_sched_wanted f_sched_coming f_sched_waiting f_sched_taken f_sched_sent f_sched_lastSent f_hist_next f_hist_held f_ring_cells f_kept_cells f_sight_steps f_sight_gates f_sight_values f_sight_truths f_sight_held X) (fun r u => u = (wC ad cI cZ f_keptSlots f_trace f_lastSeed f_text_letters f_text_length f_reader_place f_reader_greatestSource f_plan_chips f_plan_firstPins f_plan_firstPlaces f_plan_gates f_plan_inputs f_plan_registers f_plan_slowRegisters f_plan_kinds f_plan_firsts f_plan_seconds f_plan_clocks f_plan_sourceSets f_spare_chips f_spare_firstPins f_spare_firstPlaces f_spare_gates f_spare_inputs f_spare_registers f_spare_slowRegisters f_spare_kinds f_spare_firsts f_spare_seconds f_spare_clocks f_spare_sourceSets f_now_ones f_now_unknowns f_now_places f_now_pins f_now_count f_copy_ones f_copy_unknowns f_copy_places f_copy_pins f_copy_count f_logic_ones f_logic_unknowns f_logic_settled f_sched_available f_sched_wanted f_sched_coming f_sched_waiting f_sched_taken f_sched_sent f_sched_lastSent f_hist_next f_hist_held f_ring_cells f_kept_cells f_sight_steps f_sight_gates f_sight_values f_sight_truths f_sight_held X) ∧ Q r) := by
  refine CtI.of (by decide) rfl (Nat.le_of_ble_eq_true rfl) ?_
  intro p e s m args below meth c A Z E hret ls hl hw
  have E : gE p m c cX8_letterAt 2 s args RX8 D [(cI, .int), (cZ, .boolean)] A := E
  have hx := E.1.1
  have hb := E.1.2.1
  have hl : lv_has ls 2 [(0, .ref (ad 32)), (1, .int p1)] := hl
  unfold wp_X8_letterAt at h
  refine lv_aload_n hx hb dX8_letterAt_0 rfl (lv_at hl 0 rfl) ?_
  refine gC_X8_9_text E hw dX8_letterAt_1 ?_
  refine lv_iload_n hx hb dX8_letterAt_4 rfl (lv_at hl 1 rfl) ?_
  refine g_aI E hw (g_rSN E hw (c_X9_cell (q0 := 31) rfl h _) ym_X9_cell km_9 ⟨rfl, rfl⟩ ⟨Nat.le_of_ble_eq_true rfl, Nat.le_of_ble_eq_true rfl⟩ rfl hl.1 rfl (Nat.le_of_ble_eq_true rfl) ⟨Nat.zero_le _, Nat.zero_le _⟩ dX8_letterAt_5) (fun r1 u H locs hq hw => ?_)
  obtain ⟨hu, h⟩ := hq
  rw [hu] at hw
  exact hret _ _ _ _ _ _ ⟨rfl, h⟩ hw dX8_letterAt_8
set_option maxRecDepth 100000 in
set_option maxHeartbeats 4000000 in
theorem c_X3_fits_spare {l : Launch} {D : va_G} {cI cZ : ClassId} {ad : Nat → Nat} {f_keptSlots : Int32} {f_trace : Nat → Int32} {f_lastSeed : Int64} {f_text_letters : Nat → Int32} {f_text_length : Int32} {f_reader_place : Int32} {f_reader_greatestSource : Int32} {f_plan_chips : Int32} {f_plan_firstPins : Int32} {f_plan_firstPlaces : Int32} {f_plan_gates : Int32} {f_plan_inputs : Int32} {f_plan_registers : Int32} {f_plan_slowRegisters : Int32} {f_plan_kinds : Nat → Int32} {f_plan_firsts : Nat → Int32} {f_plan_seconds : Nat → Int32} {f_plan_clocks : Nat → Int32} {f_plan_sourceSets : Nat → Int32} {f_spare_chips : Int32} {f_spare_firstPins : Int32} {f_spare_firstPlaces : Int32} {f_spare_gates : Int32} {f_spare_inputs : Int32} {f_spare_registers : Int32} {f_spare_slowRegisters : Int32} {f_spare_kinds : Nat → Int32} {f_spare_firsts : Nat → Int32} {f_spare_seconds : Nat → Int32} {f_spare_clocks : Nat → Int32} {f_spare_sourceSets : Nat → Int32} {f_now_ones : Int32} {f_now_unknowns : Int32} {f_now_places : Int32} {f_now_pins : Int32} {f_now_count : Int32} {f_copy_ones : Int32} {f_copy_unknowns : Int32} {f_copy_places : Int32} {f_copy_pins : Int32} {f_copy_count : Int32} {f_logic_ones : Int32} {f_logic_unknowns : Int32} {f_logic_settled : Int32} {f_sched_available : Nat → Int32} {f_sched_wanted : Nat → Int32} {f_sched_coming : Nat → Int32} {f_sched_waiting : Int32} {f_sched_taken : Int32} {f_sched_sent : Int32} {f_sched_lastSent : Int32} {f_hist_next : Int32} {f_hist_held : Int32} {f_ring_cells : Nat → Int32} {f_kept_cells : Nat → Int32} {f_sight_steps : Nat → Int32} {f_sight_gates : Nat → Int32} {f_sight_values : Nat → Int32} {f_sight_truths : Nat → Int32} {f_sight_held : Int32} {X : va_W} {p1 : Int32} {Q : Int32 → Prop} (h : wp_X3_fits f_reader_place f_spare_chips f_spare_gates p1 Q) : CtI l yX3_fits cX3_fits 4 (some .boolean) ({ frames := 1, cells := 0, slots := 0, locals := 20 } : Room) D [(cI, .int), (cZ, .boolean)] [.ref (ad 30), .int p1, .ref (ad 23)] (wC ad cI cZ f_keptSlots f_trace f_lastSeed f_text_letters f_text_length f_reader_place f_reader_greatestSource f_plan_chips f_plan_firstPins f_plan_firstPlaces f_plan_gates f_plan_inputs f_plan_registers f_plan_slowRegisters f_plan_kinds f_plan_firsts f_plan_seconds f_plan_clocks f_plan_sourceSets f_spare_chips f_spare_firstPins f_spare_firstPlaces f_spare_gates f_spare_inputs f_spare_registers f_spare_slowRegisters f_spare_kinds f_spare_firsts f_spare_seconds f_spare_clocks f_spare_sourceSets f_now_ones f_now_unknowns f_now_places f_now_pins f_now_count f_copy_ones f_copy_unknowns f_copy_places f_copy_pins f_copy_count f_logic_ones f_logic_unknowns f_logic_settled f_sched_available f_sched_wanted f_sched_coming f_sched_waiting f_sched_taken f_sched_sent f_sched_lastSent f_hist_next f_hist_held f_ring_cells f_kept_cells f_sight_steps f_sight_gates f_sight_values f_sight_truths f_sight_held X) (fun r u => u = (wC ad cI cZ f_keptSlots f_trace f_lastSeed f_text_letters f_text_length f_reader_place f_reader_greatestSource f_plan_chips f_plan_firstPins f_plan_firstPlaces f_plan_gates f_plan_inputs f_plan_registers f_plan_slowRegisters f_plan_kinds f_plan_firsts f_plan_seconds f_plan_clocks f_plan_sourceSets f_spare_chips f_spare_firstPins f_spare_firstPlaces f_spare_gates f_spare_inputs f_spare_registers f_spare_slowRegisters f_spare_kinds f_spare_firsts f_spare_seconds f_spare_clocks f_spare_sourceSets f_now_ones f_now_unknowns f_now_places f_now_pins f_now_count f_copy_ones f_copy_unknowns f_copy_places f_copy_pins f_copy_count f_logic_ones f_logic_unknowns f_logic_settled f_sched_available f_sched_wanted f_sched_coming f_sched_waiting f_sched_taken f_sched_sent f_sched_lastSent f_hist_next f_hist_held f_ring_cells f_kept_cells f_sight_steps f_sight_gates f_sight_values f_sight_truths f_sight_held X) ∧ Q r) := by
  refine CtI.ofZ (by decide) rfl (Nat.le_of_ble_eq_true rfl) ?_
  intro p e s m args below meth c A Z E hret ls hl hw
  have E : gE p m c cX3_fits 4 s args RX3 D [(cI, .int), (cZ, .boolean)] A := E
  have hx := E.1.1
  have hb := E.1.2.1
  have hl : lv_has ls 4 [(0, .ref (ad 30)), (1, .int p1), (2, .ref (ad 23))] := hl
  have J160 : ∀  (H : Heap) (locs : List Loc) (ls : Array Slot), wp_X3_fits_b160 f_reader_place f_spare_chips f_spare_gates p1 Q   → gW D s A (wC ad cI cZ f_keptSlots f_trace f_lastSeed f_text_letters f_text_length f_reader_place f_reader_greatestSource f_plan_chips f_plan_firstPins f_plan_firstPlaces f_plan_gates f_plan_inputs f_plan_registers f_plan_slowRegisters f_plan_kinds f_plan_firsts f_plan_seconds f_plan_clocks f_plan_sourceSets f_spare_chips f_spare_firstPins f_spare_firstPlaces f_spare_gates f_spare_inputs f_spare_registers f_spare_slowRegisters f_spare_kinds f_spare_firsts f_spare_seconds f_spare_clocks f_spare_sourceSets f_now_ones f_now_unknowns f_now_places f_now_pins f_now_count f_copy_ones f_copy_unknowns f_copy_places f_copy_pins f_copy_count f_logic_ones f_logic_unknowns f_logic_settled f_sched_available f_sched_wanted f_sched_coming f_sched_waiting f_sched_taken f_sched_sent f_sched_lastSent f_hist_next f_hist_held f_ring_cells f_kept_cells f_sight_steps f_sight_gates f_sight_values f_sight_truths f_sight_held X) H locs → lv_has ls 4 [] → W p l e ({ frames := 1, cells := 0, slots := 0, locals := 20 } : Room) s m args below meth c H locs 0 0 Z (F0 m 160 ls []) := by
    intro  H locs ls h hw hl
    unfold wp_X3_fits_b160 at h
    refine lv_iconst (v := 0) hx hb dX3_fits_160 (by decide) ?_
    exact hret _ _ _ _ _ _ (Or.inl rfl) ⟨rfl, h⟩ hw dX3_fits_161
  have J82 : ∀  (H : Heap) (locs : List Loc) (ls : Array Slot), wp_X3_fits_b82 f_reader_place f_spare_chips f_spare_gates p1 Q   → gW D s A (wC ad cI cZ f_keptSlots f_trace f_lastSeed f_text_letters f_text_length f_reader_place f_reader_greatestSource f_plan_chips f_plan_firstPins f_plan_firstPlaces f_plan_gates f_plan_inputs f_plan_registers f_plan_slowRegisters f_plan_kinds f_plan_firsts f_plan_seconds f_plan_clocks f_plan_sourceSets f_spare_chips f_spare_firstPins f_spare_firstPlaces f_spare_gates f_spare_inputs f_spare_registers f_spare_slowRegisters f_spare_kinds f_spare_firsts f_spare_seconds f_spare_clocks f_spare_sourceSets f_now_ones f_now_unknowns f_now_places f_now_pins f_now_count f_copy_ones f_copy_unknowns f_copy_places f_copy_pins f_copy_count f_logic_ones f_logic_unknowns f_logic_settled f_sched_available f_sched_wanted f_sched_coming f_sched_waiting f_sched_taken f_sched_sent f_sched_lastSent f_hist_next f_hist_held f_ring_cells f_kept_cells f_sight_steps f_sight_gates f_sight_values f_sight_truths f_sight_held X) H locs → lv_has ls 4 [] → W p l e ({ frames := 1, cells := 0, slots := 0, locals := 20 } : Room) s m args below meth c H locs 0 0 Z (F0 m 82 ls []) := by
    intro  H locs ls h hw hl
    unfold wp_X3_fits_b82 at h
    refine lv_iconst (v := 0) hx hb dX3_fits_82 (by decide) ?_
    exact hret _ _ _ _ _ _ (Or.inl rfl) ⟨rfl, h⟩ hw dX3_fits_83
  have J111 : ∀  (H : Heap) (locs : List Loc) (ls : Array Slot), wp_X3_fits_b111 f_reader_place f_spare_chips f_spare_gates p1 Q   → gW D s A (wC ad cI cZ f_keptSlots f_trace f_lastSeed f_text_letters f_text_length f_reader_place f_reader_greatestSource f_plan_chips f_plan_firstPins f_plan_firstPlaces f_plan_gates f_plan_inputs f_plan_registers f_plan_slowRegisters f_plan_kinds f_plan_firsts f_plan_seconds f_plan_clocks f_plan_sourceSets f_spare_chips f_spare_firstPins f_spare_firstPlaces f_spare_gates f_spare_inputs f_spare_registers f_spare_slowRegisters f_spare_kinds f_spare_firsts f_spare_seconds f_spare_clocks f_spare_sourceSets f_now_ones f_now_unknowns f_now_places f_now_pins f_now_count f_copy_ones f_copy_unknowns f_copy_places f_copy_pins f_copy_count f_logic_ones f_logic_unknowns f_logic_settled f_sched_available f_sched_wanted f_sched_coming f_sched_waiting f_sched_taken f_sched_sent f_sched_lastSent f_hist_next f_hist_held f_ring_cells f_kept_cells f_sight_steps f_sight_gates f_sight_values f_sight_truths f_sight_held X) H locs → lv_has ls 4 [] → W p l e ({ frames := 1, cells := 0, slots := 0, locals := 20 } : Room) s m args below meth c H locs 0 0 Z (F0 m 111 ls []) := by
    intro  H locs ls h hw hl
    unfold wp_X3_fits_b111 at h
    refine lv_iconst (v := 0) hx hb dX3_fits_111 (by decide) ?_
    exact hret _ _ _ _ _ _ (Or.inl rfl) ⟨rfl, h⟩ hw dX3_fits_112
  have J129 : ∀  (H : Heap) (locs : List Loc) (ls : Array Slot), wp_X3_fits_b129 f_reader_place f_spare_chips f_spare_gates p1 Q   → gW D s A (wC ad cI cZ f_keptSlots f_trace f_lastSeed f_text_letters f_text_length f_reader_place f_reader_greatestSource f_plan_chips f_plan_firstPins f_plan_firstPlaces f_plan_gates f_plan_inputs f_plan_registers f_plan_slowRegisters f_plan_kinds f_plan_firsts f_plan_seconds f_plan_clocks f_plan_sourceSets f_spare_chips f_spare_firstPins f_spare_firstPlaces f_spare_gates f_spare_inputs f_spare_registers f_spare_slowRegisters f_spare_kinds f_spare_firsts f_spare_seconds f_spare_clocks f_spare_sourceSets f_now_ones f_now_unknowns f_now_places f_now_pins f_now_count f_copy_ones f_copy_unknowns f_copy_places f_copy_pins f_copy_count f_logic_ones f_logic_unknowns f_logic_settled f_sched_available f_sched_wanted f_sched_coming f_sched_waiting f_sched_taken f_sched_sent f_sched_lastSent f_hist_next f_hist_held f_ring_cells f_kept_cells f_sight_steps f_sight_gates f_sight_values f_sight_truths f_sight_held X) H locs → lv_has ls 4 [] → W p l e ({ frames := 1, cells := 0, slots := 0, locals := 20 } : Room) s m args below meth c H locs 0 0 Z (F0 m 129 ls []) := by
    intro  H locs ls h hw hl
    unfold wp_X3_fits_b129 at h
    refine lv_iconst (v := 0) hx hb dX3_fits_129 (by decide) ?_
    exact hret _ _ _ _ _ _ (Or.inl rfl) ⟨rfl, h⟩ hw dX3_fits_130
  have J144 : ∀  (H : Heap) (locs : List Loc) (ls : Array Slot), wp_X3_fits_b144 f_reader_place f_spare_chips f_spare_gates p1 Q   → gW D s A (wC ad cI cZ f_keptSlots f_trace f_lastSeed f_text_letters f_text_length f_reader_place f_reader_greatestSource f_plan_chips f_plan_firstPins f_plan_firstPlaces f_plan_gates f_plan_inputs f_plan_registers f_plan_slowRegisters f_plan_kinds f_plan_firsts f_plan_seconds f_plan_clocks f_plan_sourceSets f_spare_chips f_spare_firstPins f_spare_firstPlaces f_spare_gates f_spare_inputs f_spare_registers f_spare_slowRegisters f_spare_kinds f_spare_firsts f_spare_seconds f_spare_clocks f_spare_sourceSets f_now_ones f_now_unknowns f_now_places f_now_pins f_now_count f_copy_ones f_copy_unknowns f_copy_places f_copy_pins f_copy_count f_logic_ones f_logic_unknowns f_logic_settled f_sched_available f_sched_wanted f_sched_coming f_sched_waiting f_sched_taken f_sched_sent f_sched_lastSent f_hist_next f_hist_held f_ring_cells f_kept_cells f_sight_steps f_sight_gates f_sight_values f_sight_truths f_sight_held X) H locs → lv_has ls 4 [] → W p l e ({ frames := 1, cells := 0, slots := 0, locals := 20 } : Room) s m args below meth c H locs 0 0 Z (F0 m 144 ls []) := by
    intro  H locs ls h hw hl
    unfold wp_X3_fits_b144 at h
    refine lv_iconst (v := 0) hx hb dX3_fits_144 (by decide) ?_
    exact hret _ _ _ _ _ _ (Or.inl rfl) ⟨rfl, h⟩ hw dX3_fits_145
  unfold wp_X3_fits at h
  refine lv_iload_n hx hb dX3_fits_0 rfl (lv_at hl 1 rfl) ?_
  refine lv_bipush (v := 48) hx hb dX3_fits_1 (by decide) ?_
  refine lv_isub hx hb dX3_fits_3 ?_
  refine lv_topi (fun v1 ev1 => ?_)
  have h := h v1 ev1
  refine lv_istore_n (lv' := [(3, .int v1), (0, .ref (ad 30)), (1, .int p1), (2, .ref (ad 23))]) hx hb dX3_fits_4 rfl hl (by decide) rfl (fun ls hl => ?_)
  refine lv_aload_n hx hb dX3_fits_5 rfl (lv_at hl 1 rfl) ?_
  refine gC_X3_11_reader E hw dX3_fits_6 ?_
  by_cases c2 : f_reader_place = 0
  · have h := h.1 c2
    refine lv_tableIn (tgt := 56) (off := 47) hx hb dX3_fits_9 (by rw [c2]; decide) (by rw [c2]; decide) (by rw [c2]; rfl) (by decide) ?_
    refine lv_iload_n hx hb dX3_fits_56 rfl (lv_at hl 2 rfl) ?_
    refine lv_bipush (v := 66) hx hb dX3_fits_57 (by decide) ?_
    refine lv_icmp_ne (tgt := 66) hx hb dX3_fits_59 (by decide) (fun c3 => ?_) (fun c3 => ?_)
    · have h := h.1 c3
      refine lv_iconst (v := 0) hx hb dX3_fits_66 (by decide) ?_
      exact hret _ _ _ _ _ _ (Or.inl rfl) ⟨rfl, h⟩ hw dX3_fits_67
    · have h := h.2 c3
      refine lv_iconst (v := 1) hx hb dX3_fits_62 (by decide) ?_
      refine lv_goto (tgt := 67) hx hb dX3_fits_63 (by decide) ?_
      exact hret _ _ _ _ _ _ (Or.inr rfl) ⟨rfl, h⟩ hw dX3_fits_67
  · have h := h.2 c2
    by_cases c4 : f_reader_place = 1
    · have h := h.1 c4
      refine lv_tableIn (tgt := 68) (off := 59) hx hb dX3_fits_9 (by rw [c4]; decide) (by rw [c4]; decide) (by rw [c4]; rfl) (by decide) ?_
      refine lv_iload_n hx hb dX3_fits_68 rfl (lv_at hl 0 rfl) ?_
      refine lv_iconst (v := 1) hx hb dX3_fits_69 (by decide) ?_
      refine lv_icmp_lt (tgt := 82) hx hb dX3_fits_70 (by decide) (fun c5 => ?_) (fun c5 => ?_)
      · have h := h.1 c5
        exact J82  _ _ _ h hw (lv_sub hl [] rfl)
      · have h := h.2 c5
        refine lv_iload_n hx hb dX3_fits_73 rfl (lv_at hl 0 rfl) ?_
        refine lv_iconst (v := 4) hx hb dX3_fits_74 (by decide) ?_
        refine lv_icmp_gt (tgt := 82) hx hb dX3_fits_75 (by decide) (fun c6 => ?_) (fun c6 => ?_)
        · have h := h.1 c6
          exact J82  _ _ _ h hw (lv_sub hl [] rfl)
        · have h := h.2 c6
          refine lv_iconst (v := 1) hx hb dX3_fits_78 (by decide) ?_
          refine lv_goto (tgt := 83) hx hb dX3_fits_79 (by decide) ?_
          exact hret _ _ _ _ _ _ (Or.inr rfl) ⟨rfl, h⟩ hw dX3_fits_83
    · have h := h.2 c4
      by_cases c7 : f_reader_place = 2
      · have h := h.1 c7
        refine lv_tableIn (tgt := 84) (off := 75) hx hb dX3_fits_9 (by rw [c7]; decide) (by rw [c7]; decide) (by rw [c7]; rfl) (by decide) ?_
        refine lv_iload_n hx hb dX3_fits_84 rfl (lv_at hl 0 rfl) ?_
        refine g_aI E hw (g_rSN E hw (c_X9_isPins h _) ym_X9_isPins km_10 ⟨rfl, rfl⟩ ⟨Nat.le_of_ble_eq_true rfl, Nat.le_of_ble_eq_true rfl⟩ rfl hl.1 rfl (Nat.le_of_ble_eq_true rfl) ⟨Nat.zero_le _, Nat.zero_le _⟩ dX3_fits_85) (fun r8 u H locs hq hw => ?_)
        obtain ⟨hu, h⟩ := hq
        rw [hu] at hw
        exact hret _ _ _ _ _ _ h.1 ⟨rfl, h.2⟩ hw dX3_fits_88
      · have h := h.2 c7
        by_cases c9 : f_reader_place = 3
        · have h := h.1 c9
          refine lv_tableIn (tgt := 89) (off := 80) hx hb dX3_fits_9 (by rw [c9]; decide) (by rw [c9]; decide) (by rw [c9]; rfl) (by decide) ?_
          refine lv_iload_n hx hb dX3_fits_89 rfl (lv_at hl 2 rfl) ?_
          refine g_aI E hw (g_rS E hw (c_X3_kindOfLetter h _) ym_X3_kindOfLetter k_214 ⟨rfl, rfl⟩ ⟨Nat.le_of_ble_eq_true rfl, Nat.le_of_ble_eq_true rfl⟩ rfl hl.1 rfl (Nat.le_of_ble_eq_true rfl) ⟨Nat.zero_le _, Nat.zero_le _⟩ dX3_fits_90) (fun r10 u H locs hq hw => ?_)
          obtain ⟨hu, h⟩ := hq
          rw [hu] at hw
          refine lv_bipush (v := -9) hx hb dX3_fits_93 (by decide) ?_
          refine lv_icmp_eq (tgt := 111) hx hb dX3_fits_95 (by decide) (fun c11 => ?_) (fun c11 => ?_)
          · have h := h.1 c11
            exact J111  _ _ _ h hw (lv_sub hl [] rfl)
          · have h := h.2 c11
            refine lv_aload_n hx hb dX3_fits_98 rfl (lv_at hl 3 rfl) ?_
            refine gC_X3_40_spare E hw dX3_fits_99 ?_
            refine lv_bipush (v := 10) hx hb dX3_fits_102 (by decide) ?_
            refine lv_icmp_ge (tgt := 111) hx hb dX3_fits_104 (by decide) (fun c12 => ?_) (fun c12 => ?_)
            · have h := h.1 c12
              exact J111  _ _ _ h hw (lv_sub hl [] rfl)
            · have h := h.2 c12
              refine lv_iconst (v := 1) hx hb dX3_fits_107 (by decide) ?_
              refine lv_goto (tgt := 112) hx hb dX3_fits_108 (by decide) ?_
              exact hret _ _ _ _ _ _ (Or.inr rfl) ⟨rfl, h⟩ hw dX3_fits_112
        · have h := h.2 c9
          by_cases c13 : f_reader_place = 4
          · have h := h.1 c13
            refine lv_tableIn (tgt := 113) (off := 104) hx hb dX3_fits_9 (by rw [c13]; decide) (by rw [c13]; decide) (by rw [c13]; rfl) (by decide) ?_
            refine lv_iload_n hx hb dX3_fits_113 rfl (lv_at hl 0 rfl) ?_
            refine lv_if_lt (tgt := 129) hx hb dX3_fits_114 (by decide) (fun c14 => ?_) (fun c14 => ?_)
            · have h := h.1 c14
              exact J129  _ _ _ h hw (lv_sub hl [] rfl)
            · have h := h.2 c14
              refine lv_iload_n hx hb dX3_fits_117 rfl (lv_at hl 0 rfl) ?_
              refine lv_aload_n hx hb dX3_fits_118 rfl (lv_at hl 3 rfl) ?_
              refine gC_X3_50_spare E hw dX3_fits_119 ?_
              refine lv_icmp_ge (tgt := 129) hx hb dX3_fits_122 (by decide) (fun c15 => ?_) (fun c15 => ?_)
              · have h := h.1 c15
                exact J129  _ _ _ h hw (lv_sub hl [] rfl)
              · have h := h.2 c15
                refine lv_iconst (v := 1) hx hb dX3_fits_125 (by decide) ?_
                refine lv_goto (tgt := 130) hx hb dX3_fits_126 (by decide) ?_
                exact hret _ _ _ _ _ _ (Or.inr rfl) ⟨rfl, h⟩ hw dX3_fits_130
          · have h := h.2 c13
            by_cases c16 : f_reader_place = 5
            · have h := h.1 c16
              refine lv_tableIn (tgt := 146) (off := 137) hx hb dX3_fits_9 (by rw [c16]; decide) (by rw [c16]; decide) (by rw [c16]; rfl) (by decide) ?_
              refine lv_iload_n hx hb dX3_fits_146 rfl (lv_at hl 0 rfl) ?_
              refine lv_if_lt (tgt := 160) hx hb dX3_fits_147 (by decide) (fun c17 => ?_) (fun c17 => ?_)
              · have h := h.1 c17
                exact J160  _ _ _ h hw (lv_sub hl [] rfl)
              · have h := h.2 c17
                refine lv_iload_n hx hb dX3_fits_150 rfl (lv_at hl 0 rfl) ?_
                refine lv_bipush (v := 9) hx hb dX3_fits_151 (by decide) ?_
                refine lv_icmp_gt (tgt := 160) hx hb dX3_fits_153 (by decide) (fun c18 => ?_) (fun c18 => ?_)
                · have h := h.1 c18
                  exact J160  _ _ _ h hw (lv_sub hl [] rfl)
                · have h := h.2 c18
                  refine lv_iconst (v := 1) hx hb dX3_fits_156 (by decide) ?_
                  refine lv_goto (tgt := 161) hx hb dX3_fits_157 (by decide) ?_
                  exact hret _ _ _ _ _ _ (Or.inr rfl) ⟨rfl, h⟩ hw dX3_fits_161
            · have h := h.2 c16
              by_cases c19 : f_reader_place = 6
              · have h := h.1 c19
                refine lv_tableIn (tgt := 146) (off := 137) hx hb dX3_fits_9 (by rw [c19]; decide) (by rw [c19]; decide) (by rw [c19]; rfl) (by decide) ?_
                refine lv_iload_n hx hb dX3_fits_146 rfl (lv_at hl 0 rfl) ?_
                refine lv_if_lt (tgt := 160) hx hb dX3_fits_147 (by decide) (fun c20 => ?_) (fun c20 => ?_)
                · have h := h.1 c20
                  exact J160  _ _ _ h hw (lv_sub hl [] rfl)
                · have h := h.2 c20
                  refine lv_iload_n hx hb dX3_fits_150 rfl (lv_at hl 0 rfl) ?_
                  refine lv_bipush (v := 9) hx hb dX3_fits_151 (by decide) ?_
                  refine lv_icmp_gt (tgt := 160) hx hb dX3_fits_153 (by decide) (fun c21 => ?_) (fun c21 => ?_)
                  · have h := h.1 c21
                    exact J160  _ _ _ h hw (lv_sub hl [] rfl)
                  · have h := h.2 c21
                    refine lv_iconst (v := 1) hx hb dX3_fits_156 (by decide) ?_
                    refine lv_goto (tgt := 161) hx hb dX3_fits_157 (by decide) ?_
                    exact hret _ _ _ _ _ _ (Or.inr rfl) ⟨rfl, h⟩ hw dX3_fits_161
              · have h := h.2 c19
                by_cases c22 : f_reader_place = 7
                · have h := h.1 c22
                  refine lv_tableIn (tgt := 131) (off := 122) hx hb dX3_fits_9 (by rw [c22]; decide) (by rw [c22]; decide) (by rw [c22]; rfl) (by decide) ?_
                  refine lv_iload_n hx hb dX3_fits_131 rfl (lv_at hl 0 rfl) ?_
                  refine lv_if_lt (tgt := 144) hx hb dX3_fits_132 (by decide) (fun c23 => ?_) (fun c23 => ?_)
                  · have h := h.1 c23
                    exact J144  _ _ _ h hw (lv_sub hl [] rfl)
                  · have h := h.2 c23
                    refine lv_iload_n hx hb dX3_fits_135 rfl (lv_at hl 0 rfl) ?_
                    refine lv_iconst (v := 1) hx hb dX3_fits_136 (by decide) ?_
                    refine lv_icmp_gt (tgt := 144) hx hb dX3_fits_137 (by decide) (fun c24 => ?_) (fun c24 => ?_)
                    · have h := h.1 c24
                      exact J144  _ _ _ h hw (lv_sub hl [] rfl)
                    · have h := h.2 c24
                      refine lv_iconst (v := 1) hx hb dX3_fits_140 (by decide) ?_
                      refine lv_goto (tgt := 145) hx hb dX3_fits_141 (by decide) ?_
                      exact hret _ _ _ _ _ _ (Or.inr rfl) ⟨rfl, h⟩ hw dX3_fits_145
                · have h := h.2 c22
                  have nc2 := lv_neT c2 (a := 0) rfl
                  have nc4 := lv_neT c4 (a := 1) rfl
                  have nc7 := lv_neT c7 (a := 2) rfl
                  have nc9 := lv_neT c9 (a := 3) rfl
                  have nc13 := lv_neT c13 (a := 4) rfl
                  have nc16 := lv_neT c16 (a := 5) rfl
                  have nc19 := lv_neT c19 (a := 6) rfl
                  have nc22 := lv_neT c22 (a := 7) rfl
                  refine lv_tableOut (tgt := 146) hx hb dX3_fits_9 (by omega) (by decide) ?_
                  refine lv_iload_n hx hb dX3_fits_146 rfl (lv_at hl 0 rfl) ?_
                  refine lv_if_lt (tgt := 160) hx hb dX3_fits_147 (by decide) (fun c25 => ?_) (fun c25 => ?_)
                  · have h := h.1 c25
                    exact J160  _ _ _ h hw (lv_sub hl [] rfl)
                  · have h := h.2 c25
                    refine lv_iload_n hx hb dX3_fits_150 rfl (lv_at hl 0 rfl) ?_
                    refine lv_bipush (v := 9) hx hb dX3_fits_151 (by decide) ?_
                    refine lv_icmp_gt (tgt := 160) hx hb dX3_fits_153 (by decide) (fun c26 => ?_) (fun c26 => ?_)
                    · have h := h.1 c26
                      exact J160  _ _ _ h hw (lv_sub hl [] rfl)
                    · have h := h.2 c26
                      refine lv_iconst (v := 1) hx hb dX3_fits_156 (by decide) ?_
                      refine lv_goto (tgt := 161) hx hb dX3_fits_157 (by decide) ?_
                      exact hret _ _ _ _ _ _ (Or.inr rfl) ⟨rfl, h⟩ hw dX3_fits_161
set_option maxRecDepth 100000 in
set_option maxHeartbeats 4000000 in
theorem c_X2_addGate_spare {l : Launch} {D : va_G} {cI cZ : ClassId} {ad : Nat → Nat} {f_keptSlots : Int32} {f_trace : Nat → Int32} {f_lastSeed : Int64} {f_text_letters : Nat → Int32} {f_text_length : Int32} {f_reader_place : Int32} {f_reader_greatestSource : Int32} {f_plan_chips : Int32} {f_plan_firstPins : Int32} {f_plan_firstPlaces : Int32} {f_plan_gates : Int32} {f_plan_inputs : Int32} {f_plan_registers : Int32} {f_plan_slowRegisters : Int32} {f_plan_kinds : Nat → Int32} {f_plan_firsts : Nat → Int32} {f_plan_seconds : Nat → Int32} {f_plan_clocks : Nat → Int32} {f_plan_sourceSets : Nat → Int32} {f_spare_chips : Int32} {f_spare_firstPins : Int32} {f_spare_firstPlaces : Int32} {f_spare_gates : Int32} {f_spare_inputs : Int32} {f_spare_registers : Int32} {f_spare_slowRegisters : Int32} {f_spare_kinds : Nat → Int32} {f_spare_firsts : Nat → Int32} {f_spare_seconds : Nat → Int32} {f_spare_clocks : Nat → Int32} {f_spare_sourceSets : Nat → Int32} {f_now_ones : Int32} {f_now_unknowns : Int32} {f_now_places : Int32} {f_now_pins : Int32} {f_now_count : Int32} {f_copy_ones : Int32} {f_copy_unknowns : Int32} {f_copy_places : Int32} {f_copy_pins : Int32} {f_copy_count : Int32} {f_logic_ones : Int32} {f_logic_unknowns : Int32} {f_logic_settled : Int32} {f_sched_available : Nat → Int32} {f_sched_wanted : Nat → Int32} {f_sched_coming : Nat → Int32} {f_sched_waiting : Int32} {f_sched_taken : Int32} {f_sched_sent : Int32} {f_sched_lastSent : Int32} {f_hist_next : Int32} {f_hist_held : Int32} {f_ring_cells : Nat → Int32} {f_kept_cells : Nat → Int32} {f_sight_steps : Nat → Int32} {f_sight_gates : Nat → Int32} {f_sight_values : Nat → Int32} {f_sight_truths : Nat → Int32} {f_sight_held : Int32} {X : va_W} {p1 : Int32} {Q : (Nat → Int32) → (Nat → Int32) → Int32 → Int32 → (Nat → Int32) → Int32 → (Nat → Int32) → (Nat → Int32) → Prop} (h : wp_X2_addGate f_spare_clocks f_spare_firsts f_spare_gates f_spare_inputs f_spare_kinds f_spare_registers f_spare_seconds f_spare_sourceSets p1 Q) : CtV l yX2_addGate cX2_addGate 2 none ({ frames := 1, cells := 0, slots := 0, locals := 22 } : Room) D [(cI, .int), (cZ, .boolean)] [.ref (ad 23), .int p1] (wC ad cI cZ f_keptSlots f_trace f_lastSeed f_text_letters f_text_length f_reader_place f_reader_greatestSource f_plan_chips f_plan_firstPins f_plan_firstPlaces f_plan_gates f_plan_inputs f_plan_registers f_plan_slowRegisters f_plan_kinds f_plan_firsts f_plan_seconds f_plan_clocks f_plan_sourceSets f_spare_chips f_spare_firstPins f_spare_firstPlaces f_spare_gates f_spare_inputs f_spare_registers f_spare_slowRegisters f_spare_kinds f_spare_firsts f_spare_seconds f_spare_clocks f_spare_sourceSets f_now_ones f_now_unknowns f_now_places f_now_pins f_now_count f_copy_ones f_copy_unknowns f_copy_places f_copy_pins f_copy_count f_logic_ones f_logic_unknowns f_logic_settled f_sched_available f_sched_wanted f_sched_coming f_sched_waiting f_sched_taken f_sched_sent f_sched_lastSent f_hist_next f_hist_held f_ring_cells f_kept_cells f_sight_steps f_sight_gates f_sight_values f_sight_truths f_sight_held X) (fun  u => ∃ w0 w1 w2 w3 w4 w5 w6 w7, u = (wC ad cI cZ f_keptSlots f_trace f_lastSeed f_text_letters f_text_length f_reader_place f_reader_greatestSource f_plan_chips f_plan_firstPins f_plan_firstPlaces f_plan_gates f_plan_inputs f_plan_registers f_plan_slowRegisters f_plan_kinds f_plan_firsts f_plan_seconds f_plan_clocks f_plan_sourceSets f_spare_chips f_spare_firstPins f_spare_firstPlaces w2 w3 w5 f_spare_slowRegisters w4 w1 w6 w0 w7 f_now_ones f_now_unknowns f_now_places f_now_pins f_now_count f_copy_ones f_copy_unknowns f_copy_places f_copy_pins f_copy_count f_logic_ones f_logic_unknowns f_logic_settled f_sched_available f_sched_wanted f_sched_coming f_sched_waiting f_sched_taken f_sched_sent f_sched_lastSent f_hist_next f_hist_held f_ring_cells f_kept_cells f_sight_steps f_sight_gates f_sight_values f_sight_truths f_sight_held X) ∧ Q w0 w1 w2 w3 w4 w5 w6 w7) := by
  refine CtV.of (by decide) rfl (Nat.le_of_ble_eq_true rfl) ?_
  intro p e s m args below meth c A Z E hret ls hl hw
  have E : gE p m c cX2_addGate 2 s args RX2 D [(cI, .int), (cZ, .boolean)] A := E
  have hx := E.1.1
  have hb := E.1.2.1
  have hl : lv_has ls 2 [(0, .ref (ad 23)), (1, .int p1)] := hl
  have J114 : ∀ (f_spare_clocks : Nat → Int32) (f_spare_firsts : Nat → Int32) (f_spare_gates : Int32) (f_spare_inputs : Int32) (f_spare_kinds : Nat → Int32) (f_spare_registers : Int32) (f_spare_seconds : Nat → Int32) (f_spare_sourceSets : Nat → Int32) (H : Heap) (locs : List Loc) (ls : Array Slot), wp_X2_addGate_b114 p1 Q  f_spare_clocks f_spare_firsts f_spare_gates f_spare_inputs f_spare_kinds f_spare_registers f_spare_seconds f_spare_sourceSets → gW D s A (wC ad cI cZ f_keptSlots f_trace f_lastSeed f_text_letters f_text_length f_reader_place f_reader_greatestSource f_plan_chips f_plan_firstPins f_plan_firstPlaces f_plan_gates f_plan_inputs f_plan_registers f_plan_slowRegisters f_plan_kinds f_plan_firsts f_plan_seconds f_plan_clocks f_plan_sourceSets f_spare_chips f_spare_firstPins f_spare_firstPlaces f_spare_gates f_spare_inputs f_spare_registers f_spare_slowRegisters f_spare_kinds f_spare_firsts f_spare_seconds f_spare_clocks f_spare_sourceSets f_now_ones f_now_unknowns f_now_places f_now_pins f_now_count f_copy_ones f_copy_unknowns f_copy_places f_copy_pins f_copy_count f_logic_ones f_logic_unknowns f_logic_settled f_sched_available f_sched_wanted f_sched_coming f_sched_waiting f_sched_taken f_sched_sent f_sched_lastSent f_hist_next f_hist_held f_ring_cells f_kept_cells f_sight_steps f_sight_gates f_sight_values f_sight_truths f_sight_held X) H locs → lv_has ls 2 [(0, .ref (ad 23))] → W p l e ({ frames := 1, cells := 0, slots := 0, locals := 22 } : Room) s m args below meth c H locs 0 0 Z (F0 m 114 ls []) := by
    intro f_spare_clocks f_spare_firsts f_spare_gates f_spare_inputs f_spare_kinds f_spare_registers f_spare_seconds f_spare_sourceSets H locs ls h hw hl
    unfold wp_X2_addGate_b114 at h
    refine lv_aload_n hx hb dX2_addGate_114 rfl (lv_at hl 0 rfl) ?_
    refine lv_dup hx hb dX2_addGate_115 rfl ?_
    refine gC_X2_21_spare E hw dX2_addGate_116 ?_
    refine lv_iconst (v := 1) hx hb dX2_addGate_119 (by decide) ?_
    refine lv_iadd hx hb dX2_addGate_120 ?_
    refine lv_topi (fun v1 ev1 => ?_)
    have h := h v1 ev1
    refine pC_X2_21_spare E hw dX2_addGate_121 (fun H locs hw => ?_)
    exact hret _ _ _ _ _ ⟨_, _, _, _, _, _, _, _, rfl, h⟩ hw dX2_addGate_124
  have J93 : ∀ (f_spare_clocks : Nat → Int32) (f_spare_firsts : Nat → Int32) (f_spare_gates : Int32) (f_spare_inputs : Int32) (f_spare_kinds : Nat → Int32) (f_spare_registers : Int32) (f_spare_seconds : Nat → Int32) (f_spare_sourceSets : Nat → Int32) (H : Heap) (locs : List Loc) (ls : Array Slot), wp_X2_addGate_b93 p1 Q  f_spare_clocks f_spare_firsts f_spare_gates f_spare_inputs f_spare_kinds f_spare_registers f_spare_seconds f_spare_sourceSets → gW D s A (wC ad cI cZ f_keptSlots f_trace f_lastSeed f_text_letters f_text_length f_reader_place f_reader_greatestSource f_plan_chips f_plan_firstPins f_plan_firstPlaces f_plan_gates f_plan_inputs f_plan_registers f_plan_slowRegisters f_plan_kinds f_plan_firsts f_plan_seconds f_plan_clocks f_plan_sourceSets f_spare_chips f_spare_firstPins f_spare_firstPlaces f_spare_gates f_spare_inputs f_spare_registers f_spare_slowRegisters f_spare_kinds f_spare_firsts f_spare_seconds f_spare_clocks f_spare_sourceSets f_now_ones f_now_unknowns f_now_places f_now_pins f_now_count f_copy_ones f_copy_unknowns f_copy_places f_copy_pins f_copy_count f_logic_ones f_logic_unknowns f_logic_settled f_sched_available f_sched_wanted f_sched_coming f_sched_waiting f_sched_taken f_sched_sent f_sched_lastSent f_hist_next f_hist_held f_ring_cells f_kept_cells f_sight_steps f_sight_gates f_sight_values f_sight_truths f_sight_held X) H locs → lv_has ls 2 [(0, .ref (ad 23)), (1, .int p1)] → W p l e ({ frames := 1, cells := 0, slots := 0, locals := 22 } : Room) s m args below meth c H locs 0 0 Z (F0 m 93 ls []) := by
    intro f_spare_clocks f_spare_firsts f_spare_gates f_spare_inputs f_spare_kinds f_spare_registers f_spare_seconds f_spare_sourceSets H locs ls h hw hl
    unfold wp_X2_addGate_b93 at h
    refine lv_iload_n hx hb dX2_addGate_93 rfl (lv_at hl 1 rfl) ?_
    refine lv_iconst (v := 5) hx hb dX2_addGate_94 (by decide) ?_
    refine lv_icmp_ne (tgt := 114) hx hb dX2_addGate_95 (by decide) (fun c2 => ?_) (fun c2 => ?_)
    · have h := h.1 c2
      exact J114 f_spare_clocks f_spare_firsts f_spare_gates f_spare_inputs f_spare_kinds f_spare_registers f_spare_seconds f_spare_sourceSets _ _ _ h hw (lv_sub hl [0] rfl)
    · have h := h.2 c2
      refine lv_aload_n hx hb dX2_addGate_98 rfl (lv_at hl 0 rfl) ?_
      refine lv_dup hx hb dX2_addGate_99 rfl ?_
      refine gC_X2_27_spare E hw dX2_addGate_100 ?_
      refine lv_aload_n hx hb dX2_addGate_103 rfl (lv_at hl 0 rfl) ?_
      refine gC_X2_21_spare E hw dX2_addGate_104 ?_
      refine g_aI E hw (g_rSN E hw (c_X9_bit h _) ym_X9_bit km_12 ⟨rfl, rfl⟩ ⟨Nat.le_of_ble_eq_true rfl, Nat.le_of_ble_eq_true rfl⟩ rfl hl.1 rfl (Nat.le_of_ble_eq_true rfl) ⟨Nat.zero_le _, Nat.zero_le _⟩ dX2_addGate_107) (fun r3 u H locs hq hw => ?_)
      obtain ⟨hu, h⟩ := hq
      rw [hu] at hw
      refine lv_ior hx hb dX2_addGate_110 ?_
      refine lv_topi (fun v4 ev4 => ?_)
      have h := h v4 ev4
      refine pC_X2_27_spare E hw dX2_addGate_111 (fun H locs hw => ?_)
      exact J114 f_spare_clocks f_spare_firsts f_spare_gates f_spare_inputs f_spare_kinds v4 f_spare_seconds f_spare_sourceSets _ _ _ h hw (lv_sub hl [0] rfl)
  unfold wp_X2_addGate at h
  refine lv_aload_n hx hb dX2_addGate_0 rfl (lv_at hl 0 rfl) ?_
  refine gC_X2_21_spare E hw dX2_addGate_1 ?_
  refine lv_bipush (v := 10) hx hb dX2_addGate_4 (by decide) ?_
  refine lv_icmp_lt (tgt := 10) hx hb dX2_addGate_6 (by decide) (fun c5 => ?_) (fun c5 => ?_)
  · have h := h.1 c5
    refine lv_aload_n hx hb dX2_addGate_10 rfl (lv_at hl 0 rfl) ?_
    refine gC_X2_33_spare E hw dX2_addGate_11 ?_
    refine lv_aload_n hx hb dX2_addGate_14 rfl (lv_at hl 0 rfl) ?_
    refine gC_X2_21_spare E hw dX2_addGate_15 ?_
    refine lv_iload_n hx hb dX2_addGate_18 rfl (lv_at hl 1 rfl) ?_
    refine g_aV E hw (g_rSN E hw (c_X9_setCell (q0 := 22) rfl h _) ym_X9_setCell km_11 ⟨rfl, rfl⟩ ⟨Nat.le_of_ble_eq_true rfl, Nat.le_of_ble_eq_true rfl⟩ rfl hl.1 rfl (Nat.le_of_ble_eq_true rfl) ⟨Nat.zero_le _, Nat.zero_le _⟩ dX2_addGate_19) (fun u H locs hq hw => ?_)
    obtain ⟨y7, hu, h⟩ := hq
    rw [hu] at hw
    have hw : gW D s A (wC ad cI cZ f_keptSlots f_trace f_lastSeed f_text_letters f_text_length f_reader_place f_reader_greatestSource f_plan_chips f_plan_firstPins f_plan_firstPlaces f_plan_gates f_plan_inputs f_plan_registers f_plan_slowRegisters f_plan_kinds f_plan_firsts f_plan_seconds f_plan_clocks f_plan_sourceSets f_spare_chips f_spare_firstPins f_spare_firstPlaces f_spare_gates f_spare_inputs f_spare_registers f_spare_slowRegisters y7 f_spare_firsts f_spare_seconds f_spare_clocks f_spare_sourceSets f_now_ones f_now_unknowns f_now_places f_now_pins f_now_count f_copy_ones f_copy_unknowns f_copy_places f_copy_pins f_copy_count f_logic_ones f_logic_unknowns f_logic_settled f_sched_available f_sched_wanted f_sched_coming f_sched_waiting f_sched_taken f_sched_sent f_sched_lastSent f_hist_next f_hist_held f_ring_cells f_kept_cells f_sight_steps f_sight_gates f_sight_values f_sight_truths f_sight_held X) _ _ := hw
    refine lv_aload_n hx hb dX2_addGate_22 rfl (lv_at hl 0 rfl) ?_
    refine gC_X2_37_spare E hw dX2_addGate_23 ?_
    refine lv_aload_n hx hb dX2_addGate_26 rfl (lv_at hl 0 rfl) ?_
    refine gC_X2_21_spare E hw dX2_addGate_27 ?_
    refine lv_bipush (v := -9) hx hb dX2_addGate_30 (by decide) ?_
    refine g_aV E hw (g_rSN E hw (c_X9_setCell (q0 := 21) rfl h _) ym_X9_setCell km_11 ⟨rfl, rfl⟩ ⟨Nat.le_of_ble_eq_true rfl, Nat.le_of_ble_eq_true rfl⟩ rfl hl.1 rfl (Nat.le_of_ble_eq_true rfl) ⟨Nat.zero_le _, Nat.zero_le _⟩ dX2_addGate_32) (fun u H locs hq hw => ?_)
    obtain ⟨y9, hu, h⟩ := hq
    rw [hu] at hw
    have hw : gW D s A (wC ad cI cZ f_keptSlots f_trace f_lastSeed f_text_letters f_text_length f_reader_place f_reader_greatestSource f_plan_chips f_plan_firstPins f_plan_firstPlaces f_plan_gates f_plan_inputs f_plan_registers f_plan_slowRegisters f_plan_kinds f_plan_firsts f_plan_seconds f_plan_clocks f_plan_sourceSets f_spare_chips f_spare_firstPins f_spare_firstPlaces f_spare_gates f_spare_inputs f_spare_registers f_spare_slowRegisters y7 y9 f_spare_seconds f_spare_clocks f_spare_sourceSets f_now_ones f_now_unknowns f_now_places f_now_pins f_now_count f_copy_ones f_copy_unknowns f_copy_places f_copy_pins f_copy_count f_logic_ones f_logic_unknowns f_logic_settled f_sched_available f_sched_wanted f_sched_coming f_sched_waiting f_sched_taken f_sched_sent f_sched_lastSent f_hist_next f_hist_held f_ring_cells f_kept_cells f_sight_steps f_sight_gates f_sight_values f_sight_truths f_sight_held X) _ _ := hw
    refine lv_aload_n hx hb dX2_addGate_35 rfl (lv_at hl 0 rfl) ?_
    refine gC_X2_40_spare E hw dX2_addGate_36 ?_
    refine lv_aload_n hx hb dX2_addGate_39 rfl (lv_at hl 0 rfl) ?_
    refine gC_X2_21_spare E hw dX2_addGate_40 ?_
    refine lv_bipush (v := -9) hx hb dX2_addGate_43 (by decide) ?_
    refine g_aV E hw (g_rSN E hw (c_X9_setCell (q0 := 20) rfl h _) ym_X9_setCell km_11 ⟨rfl, rfl⟩ ⟨Nat.le_of_ble_eq_true rfl, Nat.le_of_ble_eq_true rfl⟩ rfl hl.1 rfl (Nat.le_of_ble_eq_true rfl) ⟨Nat.zero_le _, Nat.zero_le _⟩ dX2_addGate_45) (fun u H locs hq hw => ?_)
    obtain ⟨y11, hu, h⟩ := hq
    rw [hu] at hw
    have hw : gW D s A (wC ad cI cZ f_keptSlots f_trace f_lastSeed f_text_letters f_text_length f_reader_place f_reader_greatestSource f_plan_chips f_plan_firstPins f_plan_firstPlaces f_plan_gates f_plan_inputs f_plan_registers f_plan_slowRegisters f_plan_kinds f_plan_firsts f_plan_seconds f_plan_clocks f_plan_sourceSets f_spare_chips f_spare_firstPins f_spare_firstPlaces f_spare_gates f_spare_inputs f_spare_registers f_spare_slowRegisters y7 y9 y11 f_spare_clocks f_spare_sourceSets f_now_ones f_now_unknowns f_now_places f_now_pins f_now_count f_copy_ones f_copy_unknowns f_copy_places f_copy_pins f_copy_count f_logic_ones f_logic_unknowns f_logic_settled f_sched_available f_sched_wanted f_sched_coming f_sched_waiting f_sched_taken f_sched_sent f_sched_lastSent f_hist_next f_hist_held f_ring_cells f_kept_cells f_sight_steps f_sight_gates f_sight_values f_sight_truths f_sight_held X) _ _ := hw
    refine lv_aload_n hx hb dX2_addGate_48 rfl (lv_at hl 0 rfl) ?_
    refine gC_X2_43_spare E hw dX2_addGate_49 ?_
    refine lv_aload_n hx hb dX2_addGate_52 rfl (lv_at hl 0 rfl) ?_
    refine gC_X2_21_spare E hw dX2_addGate_53 ?_
    refine lv_bipush (v := -9) hx hb dX2_addGate_56 (by decide) ?_
    refine g_aV E hw (g_rSN E hw (c_X9_setCell (q0 := 19) rfl h _) ym_X9_setCell km_11 ⟨rfl, rfl⟩ ⟨Nat.le_of_ble_eq_true rfl, Nat.le_of_ble_eq_true rfl⟩ rfl hl.1 rfl (Nat.le_of_ble_eq_true rfl) ⟨Nat.zero_le _, Nat.zero_le _⟩ dX2_addGate_58) (fun u H locs hq hw => ?_)
    obtain ⟨y13, hu, h⟩ := hq
    rw [hu] at hw
    have hw : gW D s A (wC ad cI cZ f_keptSlots f_trace f_lastSeed f_text_letters f_text_length f_reader_place f_reader_greatestSource f_plan_chips f_plan_firstPins f_plan_firstPlaces f_plan_gates f_plan_inputs f_plan_registers f_plan_slowRegisters f_plan_kinds f_plan_firsts f_plan_seconds f_plan_clocks f_plan_sourceSets f_spare_chips f_spare_firstPins f_spare_firstPlaces f_spare_gates f_spare_inputs f_spare_registers f_spare_slowRegisters y7 y9 y11 y13 f_spare_sourceSets f_now_ones f_now_unknowns f_now_places f_now_pins f_now_count f_copy_ones f_copy_unknowns f_copy_places f_copy_pins f_copy_count f_logic_ones f_logic_unknowns f_logic_settled f_sched_available f_sched_wanted f_sched_coming f_sched_waiting f_sched_taken f_sched_sent f_sched_lastSent f_hist_next f_hist_held f_ring_cells f_kept_cells f_sight_steps f_sight_gates f_sight_values f_sight_truths f_sight_held X) _ _ := hw
    refine lv_aload_n hx hb dX2_addGate_61 rfl (lv_at hl 0 rfl) ?_
    refine gC_X2_46_spare E hw dX2_addGate_62 ?_
    refine lv_aload_n hx hb dX2_addGate_65 rfl (lv_at hl 0 rfl) ?_
    refine gC_X2_21_spare E hw dX2_addGate_66 ?_
    refine lv_iconst (v := 0) hx hb dX2_addGate_69 (by decide) ?_
    refine g_aV E hw (g_rSN E hw (c_X9_setCell (q0 := 18) rfl h _) ym_X9_setCell km_11 ⟨rfl, rfl⟩ ⟨Nat.le_of_ble_eq_true rfl, Nat.le_of_ble_eq_true rfl⟩ rfl hl.1 rfl (Nat.le_of_ble_eq_true rfl) ⟨Nat.zero_le _, Nat.zero_le _⟩ dX2_addGate_70) (fun u H locs hq hw => ?_)
    obtain ⟨y15, hu, h⟩ := hq
    rw [hu] at hw
    have hw : gW D s A (wC ad cI cZ f_keptSlots f_trace f_lastSeed f_text_letters f_text_length f_reader_place f_reader_greatestSource f_plan_chips f_plan_firstPins f_plan_firstPlaces f_plan_gates f_plan_inputs f_plan_registers f_plan_slowRegisters f_plan_kinds f_plan_firsts f_plan_seconds f_plan_clocks f_plan_sourceSets f_spare_chips f_spare_firstPins f_spare_firstPlaces f_spare_gates f_spare_inputs f_spare_registers f_spare_slowRegisters y7 y9 y11 y13 y15 f_now_ones f_now_unknowns f_now_places f_now_pins f_now_count f_copy_ones f_copy_unknowns f_copy_places f_copy_pins f_copy_count f_logic_ones f_logic_unknowns f_logic_settled f_sched_available f_sched_wanted f_sched_coming f_sched_waiting f_sched_taken f_sched_sent f_sched_lastSent f_hist_next f_hist_held f_ring_cells f_kept_cells f_sight_steps f_sight_gates f_sight_values f_sight_truths f_sight_held X) _ _ := hw
    refine lv_iload_n hx hb dX2_addGate_73 rfl (lv_at hl 1 rfl) ?_
    refine lv_if_ne (tgt := 93) hx hb dX2_addGate_74 (by decide) (fun c16 => ?_) (fun c16 => ?_)
    · have h := h.1 c16
      exact J93 y13 y9 f_spare_gates f_spare_inputs y7 f_spare_registers y11 y15 _ _ _ h hw (lv_sub hl [0, 1] rfl)
    · have h := h.2 c16
      refine lv_aload_n hx hb dX2_addGate_77 rfl (lv_at hl 0 rfl) ?_
      refine lv_dup hx hb dX2_addGate_78 rfl ?_
      refine gC_X2_24_spare E hw dX2_addGate_79 ?_
      refine lv_aload_n hx hb dX2_addGate_82 rfl (lv_at hl 0 rfl) ?_
      refine gC_X2_21_spare E hw dX2_addGate_83 ?_
      refine g_aI E hw (g_rSN E hw (c_X9_bit h _) ym_X9_bit km_12 ⟨rfl, rfl⟩ ⟨Nat.le_of_ble_eq_true rfl, Nat.le_of_ble_eq_true rfl⟩ rfl hl.1 rfl (Nat.le_of_ble_eq_true rfl) ⟨Nat.zero_le _, Nat.zero_le _⟩ dX2_addGate_86) (fun r17 u H locs hq hw => ?_)
      obtain ⟨hu, h⟩ := hq
      rw [hu] at hw
      refine lv_ior hx hb dX2_addGate_89 ?_
      refine lv_topi (fun v18 ev18 => ?_)
      have h := h v18 ev18
      refine pC_X2_24_spare E hw dX2_addGate_90 (fun H locs hw => ?_)
      exact J93 y13 y9 f_spare_gates v18 y7 f_spare_registers y11 y15 _ _ _ h hw (lv_sub hl [0, 1] rfl)
  · have h := h.2 c5
    exact hret _ _ _ _ _ ⟨_, _, _, _, _, _, _, _, rfl, h⟩ hw dX2_addGate_9
set_option maxRecDepth 100000 in
set_option maxHeartbeats 4000000 in
theorem c_X2_placeLast_spare {l : Launch} {D : va_G} {cI cZ : ClassId} {ad : Nat → Nat} {f_keptSlots : Int32} {f_trace : Nat → Int32} {f_lastSeed : Int64} {f_text_letters : Nat → Int32} {f_text_length : Int32} {f_reader_place : Int32} {f_reader_greatestSource : Int32} {f_plan_chips : Int32} {f_plan_firstPins : Int32} {f_plan_firstPlaces : Int32} {f_plan_gates : Int32} {f_plan_inputs : Int32} {f_plan_registers : Int32} {f_plan_slowRegisters : Int32} {f_plan_kinds : Nat → Int32} {f_plan_firsts : Nat → Int32} {f_plan_seconds : Nat → Int32} {f_plan_clocks : Nat → Int32} {f_plan_sourceSets : Nat → Int32} {f_spare_chips : Int32} {f_spare_firstPins : Int32} {f_spare_firstPlaces : Int32} {f_spare_gates : Int32} {f_spare_inputs : Int32} {f_spare_registers : Int32} {f_spare_slowRegisters : Int32} {f_spare_kinds : Nat → Int32} {f_spare_firsts : Nat → Int32} {f_spare_seconds : Nat → Int32} {f_spare_clocks : Nat → Int32} {f_spare_sourceSets : Nat → Int32} {f_now_ones : Int32} {f_now_unknowns : Int32} {f_now_places : Int32} {f_now_pins : Int32} {f_now_count : Int32} {f_copy_ones : Int32} {f_copy_unknowns : Int32} {f_copy_places : Int32} {f_copy_pins : Int32} {f_copy_count : Int32} {f_logic_ones : Int32} {f_logic_unknowns : Int32} {f_logic_settled : Int32} {f_sched_available : Nat → Int32} {f_sched_wanted : Nat → Int32} {f_sched_coming : Nat → Int32} {f_sched_waiting : Int32} {f_sched_taken : Int32} {f_sched_sent : Int32} {f_sched_lastSent : Int32} {f_hist_next : Int32} {f_hist_held : Int32} {f_ring_cells : Nat → Int32} {f_kept_cells : Nat → Int32} {f_sight_steps : Nat → Int32} {f_sight_gates : Nat → Int32} {f_sight_values : Nat → Int32} {f_sight_truths : Nat → Int32} {f_sight_held : Int32} {X : va_W} {p1 : Int32} {Q : Int32 → Prop} (h : wp_X2_placeLast f_spare_firstPlaces f_spare_gates p1 Q) : CtV l yX2_placeLast cX2_placeLast 2 none ({ frames := 1, cells := 0, slots := 0, locals := 22 } : Room) D [(cI, .int), (cZ, .boolean)] [.ref (ad 23), .int p1] (wC ad cI cZ f_keptSlots f_trace f_lastSeed f_text_letters f_text_length f_reader_place f_reader_greatestSource f_plan_chips f_plan_firstPins f_plan_firstPlaces f_plan_gates f_plan_inputs f_plan_registers f_plan_slowRegisters f_plan_kinds f_plan_firsts f_plan_seconds f_plan_clocks f_plan_sourceSets f_spare_chips f_spare_firstPins f_spare_firstPlaces f_spare_gates f_spare_inputs f_spare_registers f_spare_slowRegisters f_spare_kinds f_spare_firsts f_spare_seconds f_spare_clocks f_spare_sourceSets f_now_ones f_now_unknowns f_now_places f_now_pins f_now_count f_copy_ones f_copy_unknowns f_copy_places f_copy_pins f_copy_count f_logic_ones f_logic_unknowns f_logic_settled f_sched_available f_sched_wanted f_sched_coming f_sched_waiting f_sched_taken f_sched_sent f_sched_lastSent f_hist_next f_hist_held f_ring_cells f_kept_cells f_sight_steps f_sight_gates f_sight_values f_sight_truths f_sight_held X) (fun  u => ∃ w0, u = (wC ad cI cZ f_keptSlots f_trace f_lastSeed f_text_letters f_text_length f_reader_place f_reader_greatestSource f_plan_chips f_plan_firstPins f_plan_firstPlaces f_plan_gates f_plan_inputs f_plan_registers f_plan_slowRegisters f_plan_kinds f_plan_firsts f_plan_seconds f_plan_clocks f_plan_sourceSets f_spare_chips f_spare_firstPins w0 f_spare_gates f_spare_inputs f_spare_registers f_spare_slowRegisters f_spare_kinds f_spare_firsts f_spare_seconds f_spare_clocks f_spare_sourceSets f_now_ones f_now_unknowns f_now_places f_now_pins f_now_count f_copy_ones f_copy_unknowns f_copy_places f_copy_pins f_copy_count f_logic_ones f_logic_unknowns f_logic_settled f_sched_available f_sched_wanted f_sched_coming f_sched_waiting f_sched_taken f_sched_sent f_sched_lastSent f_hist_next f_hist_held f_ring_cells f_kept_cells f_sight_steps f_sight_gates f_sight_values f_sight_truths f_sight_held X) ∧ Q w0) := by
  refine CtV.of (by decide) rfl (Nat.le_of_ble_eq_true rfl) ?_
  intro p e s m args below meth c A Z E hret ls hl hw
  have E : gE p m c cX2_placeLast 2 s args RX2 D [(cI, .int), (cZ, .boolean)] A := E
  have hx := E.1.1
  have hb := E.1.2.1
  have hl : lv_has ls 2 [(0, .ref (ad 23)), (1, .int p1)] := hl
  unfold wp_X2_placeLast at h
  refine lv_aload_n hx hb dX2_placeLast_0 rfl (lv_at hl 0 rfl) ?_
  refine lv_aload_n hx hb dX2_placeLast_1 rfl (lv_at hl 0 rfl) ?_
  refine gC_X2_18_spare E hw dX2_placeLast_2 ?_
  refine lv_aload_n hx hb dX2_placeLast_5 rfl (lv_at hl 0 rfl) ?_
  refine gC_X2_21_spare E hw dX2_placeLast_6 ?_
  refine lv_iconst (v := 1) hx hb dX2_placeLast_9 (by decide) ?_
  refine lv_isub hx hb dX2_placeLast_10 ?_
  refine lv_iload_n hx hb dX2_placeLast_11 rfl (lv_at hl 1 rfl) ?_
  refine g_aI E hw (g_rSN E hw (c_X9_placed h _) ym_X9_placed km_13 ⟨rfl, rfl⟩ ⟨Nat.le_of_ble_eq_true rfl, Nat.le_of_ble_eq_true rfl⟩ rfl hl.1 rfl (Nat.le_of_ble_eq_true rfl) ⟨Nat.zero_le _, Nat.zero_le _⟩ dX2_placeLast_12) (fun r1 u H locs hq hw => ?_)
  obtain ⟨hu, h⟩ := hq
  rw [hu] at hw
  refine pC_X2_18_spare E hw dX2_placeLast_15 (fun H locs hw => ?_)
  exact hret _ _ _ _ _ ⟨_, rfl, h⟩ hw dX2_placeLast_18
set_option maxRecDepth 100000 in
set_option maxHeartbeats 4000000 in
theorem c_X2_kindOf_spare {l : Launch} {D : va_G} {cI cZ : ClassId} {ad : Nat → Nat} {f_keptSlots : Int32} {f_trace : Nat → Int32} {f_lastSeed : Int64} {f_text_letters : Nat → Int32} {f_text_length : Int32} {f_reader_place : Int32} {f_reader_greatestSource : Int32} {f_plan_chips : Int32} {f_plan_firstPins : Int32} {f_plan_firstPlaces : Int32} {f_plan_gates : Int32} {f_plan_inputs : Int32} {f_plan_registers : Int32} {f_plan_slowRegisters : Int32} {f_plan_kinds : Nat → Int32} {f_plan_firsts : Nat → Int32} {f_plan_seconds : Nat → Int32} {f_plan_clocks : Nat → Int32} {f_plan_sourceSets : Nat → Int32} {f_spare_chips : Int32} {f_spare_firstPins : Int32} {f_spare_firstPlaces : Int32} {f_spare_gates : Int32} {f_spare_inputs : Int32} {f_spare_registers : Int32} {f_spare_slowRegisters : Int32} {f_spare_kinds : Nat → Int32} {f_spare_firsts : Nat → Int32} {f_spare_seconds : Nat → Int32} {f_spare_clocks : Nat → Int32} {f_spare_sourceSets : Nat → Int32} {f_now_ones : Int32} {f_now_unknowns : Int32} {f_now_places : Int32} {f_now_pins : Int32} {f_now_count : Int32} {f_copy_ones : Int32} {f_copy_unknowns : Int32} {f_copy_places : Int32} {f_copy_pins : Int32} {f_copy_count : Int32} {f_logic_ones : Int32} {f_logic_unknowns : Int32} {f_logic_settled : Int32} {f_sched_available : Nat → Int32} {f_sched_wanted : Nat → Int32} {f_sched_coming : Nat → Int32} {f_sched_waiting : Int32} {f_sched_taken : Int32} {f_sched_sent : Int32} {f_sched_lastSent : Int32} {f_hist_next : Int32} {f_hist_held : Int32} {f_ring_cells : Nat → Int32} {f_kept_cells : Nat → Int32} {f_sight_steps : Nat → Int32} {f_sight_gates : Nat → Int32} {f_sight_values : Nat → Int32} {f_sight_truths : Nat → Int32} {f_sight_held : Int32} {X : va_W} {p1 : Int32} {Q : Int32 → Prop} (h : wp_X2_kindOf f_spare_kinds p1 Q) : CtI l yX2_kindOf cX2_kindOf 2 (some .int) ({ frames := 1, cells := 0, slots := 0, locals := 21 } : Room) D [(cI, .int), (cZ, .boolean)] [.ref (ad 23), .int p1] (wC ad cI cZ f_keptSlots f_trace f_lastSeed f_text_letters f_text_length f_reader_place f_reader_greatestSource f_plan_chips f_plan_firstPins f_plan_firstPlaces f_plan_gates f_plan_inputs f_plan_registers f_plan_slowRegisters f_plan_kinds f_plan_firsts f_plan_seconds f_plan_clocks f_plan_sourceSets f_spare_chips f_spare_firstPins f_spare_firstPlaces f_spare_gates f_spare_inputs f_spare_registers f_spare_slowRegisters f_spare_kinds f_spare_firsts f_spare_seconds f_spare_clocks f_spare_sourceSets f_now_ones f_now_unknowns f_now_places f_now_pins f_now_count f_copy_ones f_copy_unknowns f_copy_places f_copy_pins f_copy_count f_logic_ones f_logic_unknowns f_logic_settled f_sched_available f_sched_wanted f_sched_coming f_sched_waiting f_sched_taken f_sched_sent f_sched_lastSent f_hist_next f_hist_held f_ring_cells f_kept_cells f_sight_steps f_sight_gates f_sight_values f_sight_truths f_sight_held X) (fun r u => u = (wC ad cI cZ f_keptSlots f_trace f_lastSeed f_text_letters f_text_length f_reader_place f_reader_greatestSource f_plan_chips f_plan_firstPins f_plan_firstPlaces f_plan_gates f_plan_inputs f_plan_registers f_plan_slowRegisters f_plan_kinds f_plan_firsts f_plan_seconds f_plan_clocks f_plan_sourceSets f_spare_chips f_spare_firstPins f_spare_firstPlaces f_spare_gates f_spare_inputs f_spare_registers f_spare_slowRegisters f_spare_kinds f_spare_firsts f_spare_seconds f_spare_clocks f_spare_sourceSets f_now_ones f_now_unknowns f_now_places f_now_pins f_now_count f_copy_ones f_copy_unknowns f_copy_places f_copy_pins f_copy_count f_logic_ones f_logic_unknowns f_logic_settled f_sched_available f_sched_wanted f_sched_coming f_sched_waiting f_sched_taken f_sched_sent f_sched_lastSent f_hist_next f_hist_held f_ring_cells f_kept_cells f_sight_steps f_sight_gates f_sight_values f_sight_truths f_sight_held X) ∧ Q r) := by
  refine CtI.of (by decide) rfl (Nat.le_of_ble_eq_true rfl) ?_
  intro p e s m args below meth c A Z E hret ls hl hw
  have E : gE p m c cX2_kindOf 2 s args RX2 D [(cI, .int), (cZ, .boolean)] A := E
  have hx := E.1.1
  have hb := E.1.2.1
  have hl : lv_has ls 2 [(0, .ref (ad 23)), (1, .int p1)] := hl
  unfold wp_X2_kindOf at h
  refine lv_aload_n hx hb dX2_kindOf_0 rfl (lv_at hl 0 rfl) ?_
  refine gC_X2_33_spare E hw dX2_kindOf_1 ?_
  refine lv_iload_n hx hb dX2_kindOf_4 rfl (lv_at hl 1 rfl) ?_
  refine g_aI E hw (g_rSN E hw (c_X9_cell (q0 := 22) rfl h _) ym_X9_cell km_14 ⟨rfl, rfl⟩ ⟨Nat.le_of_ble_eq_true rfl, Nat.le_of_ble_eq_true rfl⟩ rfl hl.1 rfl (Nat.le_of_ble_eq_true rfl) ⟨Nat.zero_le _, Nat.zero_le _⟩ dX2_kindOf_5) (fun r1 u H locs hq hw => ?_)
  obtain ⟨hu, h⟩ := hq
  rw [hu] at hw
  exact hret _ _ _ _ _ _ ⟨rfl, h⟩ hw dX2_kindOf_8
set_option maxRecDepth 100000 in
set_option maxHeartbeats 4000000 in
theorem c_X2_lastKind_spare {l : Launch} {D : va_G} {cI cZ : ClassId} {ad : Nat → Nat} {f_keptSlots : Int32} {f_trace : Nat → Int32} {f_lastSeed : Int64} {f_text_letters : Nat → Int32} {f_text_length : Int32} {f_reader_place : Int32} {f_reader_greatestSource : Int32} {f_plan_chips : Int32} {f_plan_firstPins : Int32} {f_plan_firstPlaces : Int32} {f_plan_gates : Int32} {f_plan_inputs : Int32} {f_plan_registers : Int32} {f_plan_slowRegisters : Int32} {f_plan_kinds : Nat → Int32} {f_plan_firsts : Nat → Int32} {f_plan_seconds : Nat → Int32} {f_plan_clocks : Nat → Int32} {f_plan_sourceSets : Nat → Int32} {f_spare_chips : Int32} {f_spare_firstPins : Int32} {f_spare_firstPlaces : Int32} {f_spare_gates : Int32} {f_spare_inputs : Int32} {f_spare_registers : Int32} {f_spare_slowRegisters : Int32} {f_spare_kinds : Nat → Int32} {f_spare_firsts : Nat → Int32} {f_spare_seconds : Nat → Int32} {f_spare_clocks : Nat → Int32} {f_spare_sourceSets : Nat → Int32} {f_now_ones : Int32} {f_now_unknowns : Int32} {f_now_places : Int32} {f_now_pins : Int32} {f_now_count : Int32} {f_copy_ones : Int32} {f_copy_unknowns : Int32} {f_copy_places : Int32} {f_copy_pins : Int32} {f_copy_count : Int32} {f_logic_ones : Int32} {f_logic_unknowns : Int32} {f_logic_settled : Int32} {f_sched_available : Nat → Int32} {f_sched_wanted : Nat → Int32} {f_sched_coming : Nat → Int32} {f_sched_waiting : Int32} {f_sched_taken : Int32} {f_sched_sent : Int32} {f_sched_lastSent : Int32} {f_hist_next : Int32} {f_hist_held : Int32} {f_ring_cells : Nat → Int32} {f_kept_cells : Nat → Int32} {f_sight_steps : Nat → Int32} {f_sight_gates : Nat → Int32} {f_sight_values : Nat → Int32} {f_sight_truths : Nat → Int32} {f_sight_held : Int32} {X : va_W} {Q : Int32 → Prop} (h : wp_X2_lastKind f_spare_gates f_spare_kinds Q) : CtI l yX2_lastKind cX2_lastKind 1 (some .int) ({ frames := 2, cells := 0, slots := 0, locals := 42 } : Room) D [(cI, .int), (cZ, .boolean)] [.ref (ad 23)] (wC ad cI cZ f_keptSlots f_trace f_lastSeed f_text_letters f_text_length f_reader_place f_reader_greatestSource f_plan_chips f_plan_firstPins f_plan_firstPlaces f_plan_gates f_plan_inputs f_plan_registers f_plan_slowRegisters f_plan_kinds f_plan_firsts f_plan_seconds f_plan_clocks f_plan_sourceSets f_spare_chips f_spare_firstPins f_spare_firstPlaces f_spare_gates f_spare_inputs f_spare_registers f_spare_slowRegisters f_spare_kinds f_spare_firsts f_spare_seconds f_spare_clocks f_spare_sourceSets f_now_ones f_now_unknowns f_now_places f_now_pins f_now_count f_copy_ones f_copy_unknowns f_copy_places f_copy_pins f_copy_count f_logic_ones f_logic_unknowns f_logic_settled f_sched_available f_sched_wanted f_sched_coming f_sched_waiting f_sched_taken f_sched_sent f_sched_lastSent f_hist_next f_hist_held f_ring_cells f_kept_cells f_sight_steps f_sight_gates f_sight_values f_sight_truths f_sight_held X) (fun r u => u = (wC ad cI cZ f_keptSlots f_trace f_lastSeed f_text_letters f_text_length f_reader_place f_reader_greatestSource f_plan_chips f_plan_firstPins f_plan_firstPlaces f_plan_gates f_plan_inputs f_plan_registers f_plan_slowRegisters f_plan_kinds f_plan_firsts f_plan_seconds f_plan_clocks f_plan_sourceSets f_spare_chips f_spare_firstPins f_spare_firstPlaces f_spare_gates f_spare_inputs f_spare_registers f_spare_slowRegisters f_spare_kinds f_spare_firsts f_spare_seconds f_spare_clocks f_spare_sourceSets f_now_ones f_now_unknowns f_now_places f_now_pins f_now_count f_copy_ones f_copy_unknowns f_copy_places f_copy_pins f_copy_count f_logic_ones f_logic_unknowns f_logic_settled f_sched_available f_sched_wanted f_sched_coming f_sched_waiting f_sched_taken f_sched_sent f_sched_lastSent f_hist_next f_hist_held f_ring_cells f_kept_cells f_sight_steps f_sight_gates f_sight_values f_sight_truths f_sight_held X) ∧ Q r) := by
  refine CtI.of (by decide) rfl (Nat.le_of_ble_eq_true rfl) ?_
  intro p e s m args below meth c A Z E hret ls hl hw
  have E : gE p m c cX2_lastKind 1 s args RX2 D [(cI, .int), (cZ, .boolean)] A := E
  have hx := E.1.1
  have hb := E.1.2.1
  have hl : lv_has ls 1 [(0, .ref (ad 23))] := hl
  unfold wp_X2_lastKind at h
  refine lv_aload_n hx hb dX2_lastKind_0 rfl (lv_at hl 0 rfl) ?_
  refine lv_aload_n hx hb dX2_lastKind_1 rfl (lv_at hl 0 rfl) ?_
  refine gC_X2_21_spare E hw dX2_lastKind_2 ?_
  refine lv_iconst (v := 1) hx hb dX2_lastKind_5 (by decide) ?_
  refine lv_isub hx hb dX2_lastKind_6 ?_
  refine g_aI E hw (g_rV E hw (c_X2_kindOf_spare h _) ym_X2_kindOf k_236 ⟨rfl, rfl⟩ ⟨Nat.le_of_ble_eq_true rfl, Nat.le_of_ble_eq_true rfl⟩ 23 rfl rfl rfl rfl hl.1 rfl (Nat.le_of_ble_eq_true rfl) ⟨Nat.zero_le _, Nat.zero_le _⟩ dX2_lastKind_7) (fun r1 u H locs hq hw => ?_)
  obtain ⟨hu, h⟩ := hq
  rw [hu] at hw
  exact hret _ _ _ _ _ _ ⟨rfl, h⟩ hw dX2_lastKind_10
set_option maxRecDepth 100000 in
set_option maxHeartbeats 4000000 in
theorem c_X2_setFirst_spare {l : Launch} {D : va_G} {cI cZ : ClassId} {ad : Nat → Nat} {f_keptSlots : Int32} {f_trace : Nat → Int32} {f_lastSeed : Int64} {f_text_letters : Nat → Int32} {f_text_length : Int32} {f_reader_place : Int32} {f_reader_greatestSource : Int32} {f_plan_chips : Int32} {f_plan_firstPins : Int32} {f_plan_firstPlaces : Int32} {f_plan_gates : Int32} {f_plan_inputs : Int32} {f_plan_registers : Int32} {f_plan_slowRegisters : Int32} {f_plan_kinds : Nat → Int32} {f_plan_firsts : Nat → Int32} {f_plan_seconds : Nat → Int32} {f_plan_clocks : Nat → Int32} {f_plan_sourceSets : Nat → Int32} {f_spare_chips : Int32} {f_spare_firstPins : Int32} {f_spare_firstPlaces : Int32} {f_spare_gates : Int32} {f_spare_inputs : Int32} {f_spare_registers : Int32} {f_spare_slowRegisters : Int32} {f_spare_kinds : Nat → Int32} {f_spare_firsts : Nat → Int32} {f_spare_seconds : Nat → Int32} {f_spare_clocks : Nat → Int32} {f_spare_sourceSets : Nat → Int32} {f_now_ones : Int32} {f_now_unknowns : Int32} {f_now_places : Int32} {f_now_pins : Int32} {f_now_count : Int32} {f_copy_ones : Int32} {f_copy_unknowns : Int32} {f_copy_places : Int32} {f_copy_pins : Int32} {f_copy_count : Int32} {f_logic_ones : Int32} {f_logic_unknowns : Int32} {f_logic_settled : Int32} {f_sched_available : Nat → Int32} {f_sched_wanted : Nat → Int32} {f_sched_coming : Nat → Int32} {f_sched_waiting : Int32} {f_sched_taken : Int32} {f_sched_sent : Int32} {f_sched_lastSent : Int32} {f_hist_next : Int32} {f_hist_held : Int32} {f_ring_cells : Nat → Int32} {f_kept_cells : Nat → Int32} {f_sight_steps : Nat → Int32} {f_sight_gates : Nat → Int32} {f_sight_values : Nat → Int32} {f_sight_truths : Nat → Int32} {f_sight_held : Int32} {X : va_W} {p1 : Int32} {Q : (Nat → Int32) → (Nat → Int32) → Prop} (h : wp_X2_setFirst f_spare_firsts f_spare_gates f_spare_sourceSets p1 Q) : CtV l yX2_setFirst cX2_setFirst 2 none ({ frames := 1, cells := 0, slots := 0, locals := 22 } : Room) D [(cI, .int), (cZ, .boolean)] [.ref (ad 23), .int p1] (wC ad cI cZ f_keptSlots f_trace f_lastSeed f_text_letters f_text_length f_reader_place f_reader_greatestSource f_plan_chips f_plan_firstPins f_plan_firstPlaces f_plan_gates f_plan_inputs f_plan_registers f_plan_slowRegisters f_plan_kinds f_plan_firsts f_plan_seconds f_plan_clocks f_plan_sourceSets f_spare_chips f_spare_firstPins f_spare_firstPlaces f_spare_gates f_spare_inputs f_spare_registers f_spare_slowRegisters f_spare_kinds f_spare_firsts f_spare_seconds f_spare_clocks f_spare_sourceSets f_now_ones f_now_unknowns f_now_places f_now_pins f_now_count f_copy_ones f_copy_unknowns f_copy_places f_copy_pins f_copy_count f_logic_ones f_logic_unknowns f_logic_settled f_sched_available f_sched_wanted f_sched_coming f_sched_waiting f_sched_taken f_sched_sent f_sched_lastSent f_hist_next f_hist_held f_ring_cells f_kept_cells f_sight_steps f_sight_gates f_sight_values f_sight_truths f_sight_held X) (fun  u => ∃ w0 w1, u = (wC ad cI cZ f_keptSlots f_trace f_lastSeed f_text_letters f_text_length f_reader_place f_reader_greatestSource f_plan_chips f_plan_firstPins f_plan_firstPlaces f_plan_gates f_plan_inputs f_plan_registers f_plan_slowRegisters f_plan_kinds f_plan_firsts f_plan_seconds f_plan_clocks f_plan_sourceSets f_spare_chips f_spare_firstPins f_spare_firstPlaces f_spare_gates f_spare_inputs f_spare_registers f_spare_slowRegisters f_spare_kinds w0 f_spare_seconds f_spare_clocks w1 f_now_ones f_now_unknowns f_now_places f_now_pins f_now_count f_copy_ones f_copy_unknowns f_copy_places f_copy_pins f_copy_count f_logic_ones f_logic_unknowns f_logic_settled f_sched_available f_sched_wanted f_sched_coming f_sched_waiting f_sched_taken f_sched_sent f_sched_lastSent f_hist_next f_hist_held f_ring_cells f_kept_cells f_sight_steps f_sight_gates f_sight_values f_sight_truths f_sight_held X) ∧ Q w0 w1) := by
  refine CtV.of (by decide) rfl (Nat.le_of_ble_eq_true rfl) ?_
  intro p e s m args below meth c A Z E hret ls hl hw
  have E : gE p m c cX2_setFirst 2 s args RX2 D [(cI, .int), (cZ, .boolean)] A := E
  have hx := E.1.1
  have hb := E.1.2.1
  have hl : lv_has ls 2 [(0, .ref (ad 23)), (1, .int p1)] := hl
  unfold wp_X2_setFirst at h
  refine lv_aload_n hx hb dX2_setFirst_0 rfl (lv_at hl 0 rfl) ?_
  refine gC_X2_37_spare E hw dX2_setFirst_1 ?_
  refine lv_aload_n hx hb dX2_setFirst_4 rfl (lv_at hl 0 rfl) ?_
  refine gC_X2_21_spare E hw dX2_setFirst_5 ?_
  refine lv_iconst (v := 1) hx hb dX2_setFirst_8 (by decide) ?_
  refine lv_isub hx hb dX2_setFirst_9 ?_
  refine lv_iload_n hx hb dX2_setFirst_10 rfl (lv_at hl 1 rfl) ?_
  refine g_aV E hw (g_rSN E hw (c_X9_setCell (q0 := 21) rfl h _) ym_X9_setCell km_11 ⟨rfl, rfl⟩ ⟨Nat.le_of_ble_eq_true rfl, Nat.le_of_ble_eq_true rfl⟩ rfl hl.1 rfl (Nat.le_of_ble_eq_true rfl) ⟨Nat.zero_le _, Nat.zero_le _⟩ dX2_setFirst_11) (fun u H locs hq hw => ?_)
  obtain ⟨y2, hu, h⟩ := hq
  rw [hu] at hw
  have hw : gW D s A (wC ad cI cZ f_keptSlots f_trace f_lastSeed f_text_letters f_text_length f_reader_place f_reader_greatestSource f_plan_chips f_plan_firstPins f_plan_firstPlaces f_plan_gates f_plan_inputs f_plan_registers f_plan_slowRegisters f_plan_kinds f_plan_firsts f_plan_seconds f_plan_clocks f_plan_sourceSets f_spare_chips f_spare_firstPins f_spare_firstPlaces f_spare_gates f_spare_inputs f_spare_registers f_spare_slowRegisters f_spare_kinds y2 f_spare_seconds f_spare_clocks f_spare_sourceSets f_now_ones f_now_unknowns f_now_places f_now_pins f_now_count f_copy_ones f_copy_unknowns f_copy_places f_copy_pins f_copy_count f_logic_ones f_logic_unknowns f_logic_settled f_sched_available f_sched_wanted f_sched_coming f_sched_waiting f_sched_taken f_sched_sent f_sched_lastSent f_hist_next f_hist_held f_ring_cells f_kept_cells f_sight_steps f_sight_gates f_sight_values f_sight_truths f_sight_held X) _ _ := hw
  refine lv_aload_n hx hb dX2_setFirst_14 rfl (lv_at hl 0 rfl) ?_
  refine gC_X2_46_spare E hw dX2_setFirst_15 ?_
  refine lv_aload_n hx hb dX2_setFirst_18 rfl (lv_at hl 0 rfl) ?_
  refine gC_X2_21_spare E hw dX2_setFirst_19 ?_
  refine lv_iconst (v := 1) hx hb dX2_setFirst_22 (by decide) ?_
  refine lv_isub hx hb dX2_setFirst_23 ?_
  refine lv_iload_n hx hb dX2_setFirst_24 rfl (lv_at hl 1 rfl) ?_
  refine g_aI E hw (g_rSN E hw (c_X9_bit h _) ym_X9_bit km_12 ⟨rfl, rfl⟩ ⟨Nat.le_of_ble_eq_true rfl, Nat.le_of_ble_eq_true rfl⟩ rfl hl.1 rfl (Nat.le_of_ble_eq_true rfl) ⟨Nat.zero_le _, Nat.zero_le _⟩ dX2_setFirst_25) (fun r3 u H locs hq hw => ?_)
  obtain ⟨hu, h⟩ := hq
  rw [hu] at hw
  refine g_aV E hw (g_rSN E hw (c_X9_setCell (q0 := 18) rfl h _) ym_X9_setCell km_11 ⟨rfl, rfl⟩ ⟨Nat.le_of_ble_eq_true rfl, Nat.le_of_ble_eq_true rfl⟩ rfl hl.1 rfl (Nat.le_of_ble_eq_true rfl) ⟨Nat.zero_le _, Nat.zero_le _⟩ dX2_setFirst_28) (fun u H locs hq hw => ?_)
  obtain ⟨y5, hu, h⟩ := hq
  rw [hu] at hw
  have hw : gW D s A (wC ad cI cZ f_keptSlots f_trace f_lastSeed f_text_letters f_text_length f_reader_place f_reader_greatestSource f_plan_chips f_plan_firstPins f_plan_firstPlaces f_plan_gates f_plan_inputs f_plan_registers f_plan_slowRegisters f_plan_kinds f_plan_firsts f_plan_seconds f_plan_clocks f_plan_sourceSets f_spare_chips f_spare_firstPins f_spare_firstPlaces f_spare_gates f_spare_inputs f_spare_registers f_spare_slowRegisters f_spare_kinds y2 f_spare_seconds f_spare_clocks y5 f_now_ones f_now_unknowns f_now_places f_now_pins f_now_count f_copy_ones f_copy_unknowns f_copy_places f_copy_pins f_copy_count f_logic_ones f_logic_unknowns f_logic_settled f_sched_available f_sched_wanted f_sched_coming f_sched_waiting f_sched_taken f_sched_sent f_sched_lastSent f_hist_next f_hist_held f_ring_cells f_kept_cells f_sight_steps f_sight_gates f_sight_values f_sight_truths f_sight_held X) _ _ := hw
  exact hret _ _ _ _ _ ⟨_, _, rfl, h⟩ hw dX2_setFirst_31
set_option maxRecDepth 100000 in
set_option maxHeartbeats 4000000 in
theorem c_X2_sourcesOf_spare {l : Launch} {D : va_G} {cI cZ : ClassId} {ad : Nat → Nat} {f_keptSlots : Int32} {f_trace : Nat → Int32} {f_lastSeed : Int64} {f_text_letters : Nat → Int32} {f_text_length : Int32} {f_reader_place : Int32} {f_reader_greatestSource : Int32} {f_plan_chips : Int32} {f_plan_firstPins : Int32} {f_plan_firstPlaces : Int32} {f_plan_gates : Int32} {f_plan_inputs : Int32} {f_plan_registers : Int32} {f_plan_slowRegisters : Int32} {f_plan_kinds : Nat → Int32} {f_plan_firsts : Nat → Int32} {f_plan_seconds : Nat → Int32} {f_plan_clocks : Nat → Int32} {f_plan_sourceSets : Nat → Int32} {f_spare_chips : Int32} {f_spare_firstPins : Int32} {f_spare_firstPlaces : Int32} {f_spare_gates : Int32} {f_spare_inputs : Int32} {f_spare_registers : Int32} {f_spare_slowRegisters : Int32} {f_spare_kinds : Nat → Int32} {f_spare_firsts : Nat → Int32} {f_spare_seconds : Nat → Int32} {f_spare_clocks : Nat → Int32} {f_spare_sourceSets : Nat → Int32} {f_now_ones : Int32} {f_now_unknowns : Int32} {f_now_places : Int32} {f_now_pins : Int32} {f_now_count : Int32} {f_copy_ones : Int32} {f_copy_unknowns : Int32} {f_copy_places : Int32} {f_copy_pins : Int32} {f_copy_count : Int32} {f_logic_ones : Int32} {f_logic_unknowns : Int32} {f_logic_settled : Int32} {f_sched_available : Nat → Int32} {f_sched_wanted : Nat → Int32} {f_sched_coming : Nat → Int32} {f_sched_waiting : Int32} {f_sched_taken : Int32} {f_sched_sent : Int32} {f_sched_lastSent : Int32} {f_hist_next : Int32} {f_hist_held : Int32} {f_ring_cells : Nat → Int32} {f_kept_cells : Nat → Int32} {f_sight_steps : Nat → Int32} {f_sight_gates : Nat → Int32} {f_sight_values : Nat → Int32} {f_sight_truths : Nat → Int32} {f_sight_held : Int32} {X : va_W} {p1 : Int32} {Q : Int32 → Prop} (h : wp_X2_sourcesOf f_spare_sourceSets p1 Q) : CtI l yX2_sourcesOf cX2_sourcesOf 2 (some .int) ({ frames := 1, cells := 0, slots := 0, locals := 21 } : Room) D [(cI, .int), (cZ, .boolean)] [.ref (ad 23), .int p1] (wC ad cI cZ f_keptSlots f_trace f_lastSeed f_text_letters f_text_length f_reader_place f_reader_greatestSource f_plan_chips f_plan_firstPins f_plan_firstPlaces f_plan_gates f_plan_inputs f_plan_registers f_plan_slowRegisters f_plan_kinds f_plan_firsts f_plan_seconds f_plan_clocks f_plan_sourceSets f_spare_chips f_spare_firstPins f_spare_firstPlaces f_spare_gates f_spare_inputs f_spare_registers f_spare_slowRegisters f_spare_kinds f_spare_firsts f_spare_seconds f_spare_clocks f_spare_sourceSets f_now_ones f_now_unknowns f_now_places f_now_pins f_now_count f_copy_ones f_copy_unknowns f_copy_places f_copy_pins f_copy_count f_logic_ones f_logic_unknowns f_logic_settled f_sched_available f_sched_wanted f_sched_coming f_sched_waiting f_sched_taken f_sched_sent f_sched_lastSent f_hist_next f_hist_held f_ring_cells f_kept_cells f_sight_steps f_sight_gates f_sight_values f_sight_truths f_sight_held X) (fun r u => u = (wC ad cI cZ f_keptSlots f_trace f_lastSeed f_text_letters f_text_length f_reader_place f_reader_greatestSource f_plan_chips f_plan_firstPins f_plan_firstPlaces f_plan_gates f_plan_inputs f_plan_registers f_plan_slowRegisters f_plan_kinds f_plan_firsts f_plan_seconds f_plan_clocks f_plan_sourceSets f_spare_chips f_spare_firstPins f_spare_firstPlaces f_spare_gates f_spare_inputs f_spare_registers f_spare_slowRegisters f_spare_kinds f_spare_firsts f_spare_seconds f_spare_clocks f_spare_sourceSets f_now_ones f_now_unknowns f_now_places f_now_pins f_now_count f_copy_ones f_copy_unknowns f_copy_places f_copy_pins f_copy_count f_logic_ones f_logic_unknowns f_logic_settled f_sched_available f_sched_wanted f_sched_coming f_sched_waiting f_sched_taken f_sched_sent f_sched_lastSent f_hist_next f_hist_held f_ring_cells f_kept_cells f_sight_steps f_sight_gates f_sight_values f_sight_truths f_sight_held X) ∧ Q r) := by
  refine CtI.of (by decide) rfl (Nat.le_of_ble_eq_true rfl) ?_
  intro p e s m args below meth c A Z E hret ls hl hw
  have E : gE p m c cX2_sourcesOf 2 s args RX2 D [(cI, .int), (cZ, .boolean)] A := E
  have hx := E.1.1
  have hb := E.1.2.1
  have hl : lv_has ls 2 [(0, .ref (ad 23)), (1, .int p1)] := hl
  unfold wp_X2_sourcesOf at h
  refine lv_aload_n hx hb dX2_sourcesOf_0 rfl (lv_at hl 0 rfl) ?_
  refine gC_X2_46_spare E hw dX2_sourcesOf_1 ?_
  refine lv_iload_n hx hb dX2_sourcesOf_4 rfl (lv_at hl 1 rfl) ?_
  refine g_aI E hw (g_rSN E hw (c_X9_cell (q0 := 18) rfl h _) ym_X9_cell km_14 ⟨rfl, rfl⟩ ⟨Nat.le_of_ble_eq_true rfl, Nat.le_of_ble_eq_true rfl⟩ rfl hl.1 rfl (Nat.le_of_ble_eq_true rfl) ⟨Nat.zero_le _, Nat.zero_le _⟩ dX2_sourcesOf_5) (fun r1 u H locs hq hw => ?_)
  obtain ⟨hu, h⟩ := hq
  rw [hu] at hw
  exact hret _ _ _ _ _ _ ⟨rfl, h⟩ hw dX2_sourcesOf_8
set_option maxRecDepth 100000 in
set_option maxHeartbeats 4000000 in
theorem c_X2_setSecond_spare {l : Launch} {D : va_G} {cI cZ : ClassId} {ad : Nat → Nat} {f_keptSlots : Int32} {f_trace : Nat → Int32} {f_lastSeed : Int64} {f_text_letters : Nat → Int32} {f_text_length : Int32} {f_reader_place : Int32} {f_reader_greatestSource : Int32} {f_plan_chips : Int32} {f_plan_firstPins : Int32} {f_plan_firstPlaces : Int32} {f_plan_gates : Int32} {f_plan_inputs : Int32} {f_plan_registers : Int32} {f_plan_slowRegisters : Int32} {f_plan_kinds : Nat → Int32} {f_plan_firsts : Nat → Int32} {f_plan_seconds : Nat → Int32} {f_plan_clocks : Nat → Int32} {f_plan_sourceSets : Nat → Int32} {f_spare_chips : Int32} {f_spare_firstPins : Int32} {f_spare_firstPlaces : Int32} {f_spare_gates : Int32} {f_spare_inputs : Int32} {f_spare_registers : Int32} {f_spare_slowRegisters : Int32} {f_spare_kinds : Nat → Int32} {f_spare_firsts : Nat → Int32} {f_spare_seconds : Nat → Int32} {f_spare_clocks : Nat → Int32} {f_spare_sourceSets : Nat → Int32} {f_now_ones : Int32} {f_now_unknowns : Int32} {f_now_places : Int32} {f_now_pins : Int32} {f_now_count : Int32} {f_copy_ones : Int32} {f_copy_unknowns : Int32} {f_copy_places : Int32} {f_copy_pins : Int32} {f_copy_count : Int32} {f_logic_ones : Int32} {f_logic_unknowns : Int32} {f_logic_settled : Int32} {f_sched_available : Nat → Int32} {f_sched_wanted : Nat → Int32} {f_sched_coming : Nat → Int32} {f_sched_waiting : Int32} {f_sched_taken : Int32} {f_sched_sent : Int32} {f_sched_lastSent : Int32} {f_hist_next : Int32} {f_hist_held : Int32} {f_ring_cells : Nat → Int32} {f_kept_cells : Nat → Int32} {f_sight_steps : Nat → Int32} {f_sight_gates : Nat → Int32} {f_sight_values : Nat → Int32} {f_sight_truths : Nat → Int32} {f_sight_held : Int32} {X : va_W} {p1 : Int32} {Q : (Nat → Int32) → (Nat → Int32) → Prop} (h : wp_X2_setSecond f_spare_gates f_spare_seconds f_spare_sourceSets p1 Q) : CtV l yX2_setSecond cX2_setSecond 2 none ({ frames := 2, cells := 0, slots := 0, locals := 42 } : Room) D [(cI, .int), (cZ, .boolean)] [.ref (ad 23), .int p1] (wC ad cI cZ f_keptSlots f_trace f_lastSeed f_text_letters f_text_length f_reader_place f_reader_greatestSource f_plan_chips f_plan_firstPins f_plan_firstPlaces f_plan_gates f_plan_inputs f_plan_registers f_plan_slowRegisters f_plan_kinds f_plan_firsts f_plan_seconds f_plan_clocks f_plan_sourceSets f_spare_chips f_spare_firstPins f_spare_firstPlaces f_spare_gates f_spare_inputs f_spare_registers f_spare_slowRegisters f_spare_kinds f_spare_firsts f_spare_seconds f_spare_clocks f_spare_sourceSets f_now_ones f_now_unknowns f_now_places f_now_pins f_now_count f_copy_ones f_copy_unknowns f_copy_places f_copy_pins f_copy_count f_logic_ones f_logic_unknowns f_logic_settled f_sched_available f_sched_wanted f_sched_coming f_sched_waiting f_sched_taken f_sched_sent f_sched_lastSent f_hist_next f_hist_held f_ring_cells f_kept_cells f_sight_steps f_sight_gates f_sight_values f_sight_truths f_sight_held X) (fun  u => ∃ w0 w1, u = (wC ad cI cZ f_keptSlots f_trace f_lastSeed f_text_letters f_text_length f_reader_place f_reader_greatestSource f_plan_chips f_plan_firstPins f_plan_firstPlaces f_plan_gates f_plan_inputs f_plan_registers f_plan_slowRegisters f_plan_kinds f_plan_firsts f_plan_seconds f_plan_clocks f_plan_sourceSets f_spare_chips f_spare_firstPins f_spare_firstPlaces f_spare_gates f_spare_inputs f_spare_registers f_spare_slowRegisters f_spare_kinds f_spare_firsts w0 f_spare_clocks w1 f_now_ones f_now_unknowns f_now_places f_now_pins f_now_count f_copy_ones f_copy_unknowns f_copy_places f_copy_pins f_copy_count f_logic_ones f_logic_unknowns f_logic_settled f_sched_available f_sched_wanted f_sched_coming f_sched_waiting f_sched_taken f_sched_sent f_sched_lastSent f_hist_next f_hist_held f_ring_cells f_kept_cells f_sight_steps f_sight_gates f_sight_values f_sight_truths f_sight_held X) ∧ Q w0 w1) := by
  refine CtV.of (by decide) rfl (Nat.le_of_ble_eq_true rfl) ?_
  intro p e s m args below meth c A Z E hret ls hl hw
  have E : gE p m c cX2_setSecond 2 s args RX2 D [(cI, .int), (cZ, .boolean)] A := E
  have hx := E.1.1
  have hb := E.1.2.1
  have hl : lv_has ls 2 [(0, .ref (ad 23)), (1, .int p1)] := hl
  unfold wp_X2_setSecond at h
  refine lv_aload_n hx hb dX2_setSecond_0 rfl (lv_at hl 0 rfl) ?_
  refine gC_X2_40_spare E hw dX2_setSecond_1 ?_
  refine lv_aload_n hx hb dX2_setSecond_4 rfl (lv_at hl 0 rfl) ?_
  refine gC_X2_21_spare E hw dX2_setSecond_5 ?_
  refine lv_iconst (v := 1) hx hb dX2_setSecond_8 (by decide) ?_
  refine lv_isub hx hb dX2_setSecond_9 ?_
  refine lv_iload_n hx hb dX2_setSecond_10 rfl (lv_at hl 1 rfl) ?_
  refine g_aV E hw (g_rSN E hw (c_X9_setCell (q0 := 20) rfl h _) ym_X9_setCell km_11 ⟨rfl, rfl⟩ ⟨Nat.le_of_ble_eq_true rfl, Nat.le_of_ble_eq_true rfl⟩ rfl hl.1 rfl (Nat.le_of_ble_eq_true rfl) ⟨Nat.zero_le _, Nat.zero_le _⟩ dX2_setSecond_11) (fun u H locs hq hw => ?_)
  obtain ⟨y2, hu, h⟩ := hq
  rw [hu] at hw
  have hw : gW D s A (wC ad cI cZ f_keptSlots f_trace f_lastSeed f_text_letters f_text_length f_reader_place f_reader_greatestSource f_plan_chips f_plan_firstPins f_plan_firstPlaces f_plan_gates f_plan_inputs f_plan_registers f_plan_slowRegisters f_plan_kinds f_plan_firsts f_plan_seconds f_plan_clocks f_plan_sourceSets f_spare_chips f_spare_firstPins f_spare_firstPlaces f_spare_gates f_spare_inputs f_spare_registers f_spare_slowRegisters f_spare_kinds f_spare_firsts y2 f_spare_clocks f_spare_sourceSets f_now_ones f_now_unknowns f_now_places f_now_pins f_now_count f_copy_ones f_copy_unknowns f_copy_places f_copy_pins f_copy_count f_logic_ones f_logic_unknowns f_logic_settled f_sched_available f_sched_wanted f_sched_coming f_sched_waiting f_sched_taken f_sched_sent f_sched_lastSent f_hist_next f_hist_held f_ring_cells f_kept_cells f_sight_steps f_sight_gates f_sight_values f_sight_truths f_sight_held X) _ _ := hw
  refine lv_aload_n hx hb dX2_setSecond_14 rfl (lv_at hl 0 rfl) ?_
  refine gC_X2_46_spare E hw dX2_setSecond_15 ?_
  refine lv_aload_n hx hb dX2_setSecond_18 rfl (lv_at hl 0 rfl) ?_
  refine gC_X2_21_spare E hw dX2_setSecond_19 ?_
  refine lv_iconst (v := 1) hx hb dX2_setSecond_22 (by decide) ?_
  refine lv_isub hx hb dX2_setSecond_23 ?_
  refine lv_aload_n hx hb dX2_setSecond_24 rfl (lv_at hl 0 rfl) ?_
  refine lv_aload_n hx hb dX2_setSecond_25 rfl (lv_at hl 0 rfl) ?_
  refine gC_X2_21_spare E hw dX2_setSecond_26 ?_
  refine lv_iconst (v := 1) hx hb dX2_setSecond_29 (by decide) ?_
  refine lv_isub hx hb dX2_setSecond_30 ?_
  refine g_aI E hw (g_rV E hw (c_X2_sourcesOf_spare h _) ym_X2_sourcesOf k_252 ⟨rfl, rfl⟩ ⟨Nat.le_of_ble_eq_true rfl, Nat.le_of_ble_eq_true rfl⟩ 23 rfl rfl rfl rfl hl.1 rfl (Nat.le_of_ble_eq_true rfl) ⟨Nat.zero_le _, Nat.zero_le _⟩ dX2_setSecond_31) (fun r3 u H locs hq hw => ?_)
  obtain ⟨hu, h⟩ := hq
  rw [hu] at hw
  refine lv_iload_n hx hb dX2_setSecond_34 rfl (lv_at hl 1 rfl) ?_
  refine g_aI E hw (g_rSN E hw (c_X9_bit h _) ym_X9_bit km_12 ⟨rfl, rfl⟩ ⟨Nat.le_of_ble_eq_true rfl, Nat.le_of_ble_eq_true rfl⟩ rfl hl.1 rfl (Nat.le_of_ble_eq_true rfl) ⟨Nat.zero_le _, Nat.zero_le _⟩ dX2_setSecond_35) (fun r4 u H locs hq hw => ?_)
  obtain ⟨hu, h⟩ := hq
  rw [hu] at hw
  refine lv_ior hx hb dX2_setSecond_38 ?_
  refine g_aV E hw (g_rSN E hw (c_X9_setCell (q0 := 18) rfl h _) ym_X9_setCell km_11 ⟨rfl, rfl⟩ ⟨Nat.le_of_ble_eq_true rfl, Nat.le_of_ble_eq_true rfl⟩ rfl hl.1 rfl (Nat.le_of_ble_eq_true rfl) ⟨Nat.zero_le _, Nat.zero_le _⟩ dX2_setSecond_39) (fun u H locs hq hw => ?_)
  obtain ⟨y6, hu, h⟩ := hq
  rw [hu] at hw
  have hw : gW D s A (wC ad cI cZ f_keptSlots f_trace f_lastSeed f_text_letters f_text_length f_reader_place f_reader_greatestSource f_plan_chips f_plan_firstPins f_plan_firstPlaces f_plan_gates f_plan_inputs f_plan_registers f_plan_slowRegisters f_plan_kinds f_plan_firsts f_plan_seconds f_plan_clocks f_plan_sourceSets f_spare_chips f_spare_firstPins f_spare_firstPlaces f_spare_gates f_spare_inputs f_spare_registers f_spare_slowRegisters f_spare_kinds f_spare_firsts y2 f_spare_clocks y6 f_now_ones f_now_unknowns f_now_places f_now_pins f_now_count f_copy_ones f_copy_unknowns f_copy_places f_copy_pins f_copy_count f_logic_ones f_logic_unknowns f_logic_settled f_sched_available f_sched_wanted f_sched_coming f_sched_waiting f_sched_taken f_sched_sent f_sched_lastSent f_hist_next f_hist_held f_ring_cells f_kept_cells f_sight_steps f_sight_gates f_sight_values f_sight_truths f_sight_held X) _ _ := hw
  exact hret _ _ _ _ _ ⟨_, _, rfl, h⟩ hw dX2_setSecond_42
set_option maxRecDepth 100000 in
set_option maxHeartbeats 4000000 in
theorem c_X2_setClock_spare {l : Launch} {D : va_G} {cI cZ : ClassId} {ad : Nat → Nat} {f_keptSlots : Int32} {f_trace : Nat → Int32} {f_lastSeed : Int64} {f_text_letters : Nat → Int32} {f_text_length : Int32} {f_reader_place : Int32} {f_reader_greatestSource : Int32} {f_plan_chips : Int32} {f_plan_firstPins : Int32} {f_plan_firstPlaces : Int32} {f_plan_gates : Int32} {f_plan_inputs : Int32} {f_plan_registers : Int32} {f_plan_slowRegisters : Int32} {f_plan_kinds : Nat → Int32} {f_plan_firsts : Nat → Int32} {f_plan_seconds : Nat → Int32} {f_plan_clocks : Nat → Int32} {f_plan_sourceSets : Nat → Int32} {f_spare_chips : Int32} {f_spare_firstPins : Int32} {f_spare_firstPlaces : Int32} {f_spare_gates : Int32} {f_spare_inputs : Int32} {f_spare_registers : Int32} {f_spare_slowRegisters : Int32} {f_spare_kinds : Nat → Int32} {f_spare_firsts : Nat → Int32} {f_spare_seconds : Nat → Int32} {f_spare_clocks : Nat → Int32} {f_spare_sourceSets : Nat → Int32} {f_now_ones : Int32} {f_now_unknowns : Int32} {f_now_places : Int32} {f_now_pins : Int32} {f_now_count : Int32} {f_copy_ones : Int32} {f_copy_unknowns : Int32} {f_copy_places : Int32} {f_copy_pins : Int32} {f_copy_count : Int32} {f_logic_ones : Int32} {f_logic_unknowns : Int32} {f_logic_settled : Int32} {f_sched_available : Nat → Int32} {f_sched_wanted : Nat → Int32} {f_sched_coming : Nat → Int32} {f_sched_waiting : Int32} {f_sched_taken : Int32} {f_sched_sent : Int32} {f_sched_lastSent : Int32} {f_hist_next : Int32} {f_hist_held : Int32} {f_ring_cells : Nat → Int32} {f_kept_cells : Nat → Int32} {f_sight_steps : Nat → Int32} {f_sight_gates : Nat → Int32} {f_sight_values : Nat → Int32} {f_sight_truths : Nat → Int32} {f_sight_held : Int32} {X : va_W} {p1 : Int32} {Q : (Nat → Int32) → Int32 → Prop} (h : wp_X2_setClock f_spare_clocks f_spare_gates f_spare_slowRegisters p1 Q) : CtV l yX2_setClock cX2_setClock 2 none ({ frames := 1, cells := 0, slots := 0, locals := 22 } : Room) D [(cI, .int), (cZ, .boolean)] [.ref (ad 23), .int p1] (wC ad cI cZ f_keptSlots f_trace f_lastSeed f_text_letters f_text_length f_reader_place f_reader_greatestSource f_plan_chips f_plan_firstPins f_plan_firstPlaces f_plan_gates f_plan_inputs f_plan_registers f_plan_slowRegisters f_plan_kinds f_plan_firsts f_plan_seconds f_plan_clocks f_plan_sourceSets f_spare_chips f_spare_firstPins f_spare_firstPlaces f_spare_gates f_spare_inputs f_spare_registers f_spare_slowRegisters f_spare_kinds f_spare_firsts f_spare_seconds f_spare_clocks f_spare_sourceSets f_now_ones f_now_unknowns f_now_places f_now_pins f_now_count f_copy_ones f_copy_unknowns f_copy_places f_copy_pins f_copy_count f_logic_ones f_logic_unknowns f_logic_settled f_sched_available f_sched_wanted f_sched_coming f_sched_waiting f_sched_taken f_sched_sent f_sched_lastSent f_hist_next f_hist_held f_ring_cells f_kept_cells f_sight_steps f_sight_gates f_sight_values f_sight_truths f_sight_held X) (fun  u => ∃ w0 w1, u = (wC ad cI cZ f_keptSlots f_trace f_lastSeed f_text_letters f_text_length f_reader_place f_reader_greatestSource f_plan_chips f_plan_firstPins f_plan_firstPlaces f_plan_gates f_plan_inputs f_plan_registers f_plan_slowRegisters f_plan_kinds f_plan_firsts f_plan_seconds f_plan_clocks f_plan_sourceSets f_spare_chips f_spare_firstPins f_spare_firstPlaces f_spare_gates f_spare_inputs f_spare_registers w1 f_spare_kinds f_spare_firsts f_spare_seconds w0 f_spare_sourceSets f_now_ones f_now_unknowns f_now_places f_now_pins f_now_count f_copy_ones f_copy_unknowns f_copy_places f_copy_pins f_copy_count f_logic_ones f_logic_unknowns f_logic_settled f_sched_available f_sched_wanted f_sched_coming f_sched_waiting f_sched_taken f_sched_sent f_sched_lastSent f_hist_next f_hist_held f_ring_cells f_kept_cells f_sight_steps f_sight_gates f_sight_values f_sight_truths f_sight_held X) ∧ Q w0 w1) := by
  refine CtV.of (by decide) rfl (Nat.le_of_ble_eq_true rfl) ?_
  intro p e s m args below meth c A Z E hret ls hl hw
  have E : gE p m c cX2_setClock 2 s args RX2 D [(cI, .int), (cZ, .boolean)] A := E
  have hx := E.1.1
  have hb := E.1.2.1
  have hl : lv_has ls 2 [(0, .ref (ad 23)), (1, .int p1)] := hl
  unfold wp_X2_setClock at h
  refine lv_aload_n hx hb dX2_setClock_0 rfl (lv_at hl 0 rfl) ?_
  refine gC_X2_43_spare E hw dX2_setClock_1 ?_
  refine lv_aload_n hx hb dX2_setClock_4 rfl (lv_at hl 0 rfl) ?_
  refine gC_X2_21_spare E hw dX2_setClock_5 ?_
  refine lv_iconst (v := 1) hx hb dX2_setClock_8 (by decide) ?_
  refine lv_isub hx hb dX2_setClock_9 ?_
  refine lv_iload_n hx hb dX2_setClock_10 rfl (lv_at hl 1 rfl) ?_
  refine g_aV E hw (g_rSN E hw (c_X9_setCell (q0 := 19) rfl h _) ym_X9_setCell km_11 ⟨rfl, rfl⟩ ⟨Nat.le_of_ble_eq_true rfl, Nat.le_of_ble_eq_true rfl⟩ rfl hl.1 rfl (Nat.le_of_ble_eq_true rfl) ⟨Nat.zero_le _, Nat.zero_le _⟩ dX2_setClock_11) (fun u H locs hq hw => ?_)
  obtain ⟨y2, hu, h⟩ := hq
  rw [hu] at hw
  have hw : gW D s A (wC ad cI cZ f_keptSlots f_trace f_lastSeed f_text_letters f_text_length f_reader_place f_reader_greatestSource f_plan_chips f_plan_firstPins f_plan_firstPlaces f_plan_gates f_plan_inputs f_plan_registers f_plan_slowRegisters f_plan_kinds f_plan_firsts f_plan_seconds f_plan_clocks f_plan_sourceSets f_spare_chips f_spare_firstPins f_spare_firstPlaces f_spare_gates f_spare_inputs f_spare_registers f_spare_slowRegisters f_spare_kinds f_spare_firsts f_spare_seconds y2 f_spare_sourceSets f_now_ones f_now_unknowns f_now_places f_now_pins f_now_count f_copy_ones f_copy_unknowns f_copy_places f_copy_pins f_copy_count f_logic_ones f_logic_unknowns f_logic_settled f_sched_available f_sched_wanted f_sched_coming f_sched_waiting f_sched_taken f_sched_sent f_sched_lastSent f_hist_next f_hist_held f_ring_cells f_kept_cells f_sight_steps f_sight_gates f_sight_values f_sight_truths f_sight_held X) _ _ := hw
  refine lv_iload_n hx hb dX2_setClock_14 rfl (lv_at hl 1 rfl) ?_
  refine lv_iconst (v := 1) hx hb dX2_setClock_15 (by decide) ?_
  refine lv_icmp_ne (tgt := 37) hx hb dX2_setClock_16 (by decide) (fun c3 => ?_) (fun c3 => ?_)
  · have h := h.1 c3
    exact hret _ _ _ _ _ ⟨_, _, rfl, h⟩ hw dX2_setClock_37
  · have h := h.2 c3
    refine lv_aload_n hx hb dX2_setClock_19 rfl (lv_at hl 0 rfl) ?_
    refine lv_dup hx hb dX2_setClock_20 rfl ?_
    refine gC_X2_30_spare E hw dX2_setClock_21 ?_
    refine lv_aload_n hx hb dX2_setClock_24 rfl (lv_at hl 0 rfl) ?_
    refine gC_X2_21_spare E hw dX2_setClock_25 ?_
    refine lv_iconst (v := 1) hx hb dX2_setClock_28 (by decide) ?_
    refine lv_isub hx hb dX2_setClock_29 ?_
    refine g_aI E hw (g_rSN E hw (c_X9_bit h _) ym_X9_bit km_12 ⟨rfl, rfl⟩ ⟨Nat.le_of_ble_eq_true rfl, Nat.le_of_ble_eq_true rfl⟩ rfl hl.1 rfl (Nat.le_of_ble_eq_true rfl) ⟨Nat.zero_le _, Nat.zero_le _⟩ dX2_setClock_30) (fun r4 u H locs hq hw => ?_)
    obtain ⟨hu, h⟩ := hq
    rw [hu] at hw
    refine lv_ior hx hb dX2_setClock_33 ?_
    refine lv_topi (fun v5 ev5 => ?_)
    have h := h v5 ev5
    refine pC_X2_30_spare E hw dX2_setClock_34 (fun H locs hw => ?_)
    exact hret _ _ _ _ _ ⟨_, _, rfl, h⟩ hw dX2_setClock_37
set_option maxRecDepth 100000 in
set_option maxHeartbeats 4000000 in
theorem c_X3_take_spare {l : Launch} {D : va_G} {cI cZ : ClassId} {ad : Nat → Nat} {f_keptSlots : Int32} {f_trace : Nat → Int32} {f_lastSeed : Int64} {f_text_letters : Nat → Int32} {f_text_length : Int32} {f_reader_place : Int32} {f_reader_greatestSource : Int32} {f_plan_chips : Int32} {f_plan_firstPins : Int32} {f_plan_firstPlaces : Int32} {f_plan_gates : Int32} {f_plan_inputs : Int32} {f_plan_registers : Int32} {f_plan_slowRegisters : Int32} {f_plan_kinds : Nat → Int32} {f_plan_firsts : Nat → Int32} {f_plan_seconds : Nat → Int32} {f_plan_clocks : Nat → Int32} {f_plan_sourceSets : Nat → Int32} {f_spare_chips : Int32} {f_spare_firstPins : Int32} {f_spare_firstPlaces : Int32} {f_spare_gates : Int32} {f_spare_inputs : Int32} {f_spare_registers : Int32} {f_spare_slowRegisters : Int32} {f_spare_kinds : Nat → Int32} {f_spare_firsts : Nat → Int32} {f_spare_seconds : Nat → Int32} {f_spare_clocks : Nat → Int32} {f_spare_sourceSets : Nat → Int32} {f_now_ones : Int32} {f_now_unknowns : Int32} {f_now_places : Int32} {f_now_pins : Int32} {f_now_count : Int32} {f_copy_ones : Int32} {f_copy_unknowns : Int32} {f_copy_places : Int32} {f_copy_pins : Int32} {f_copy_count : Int32} {f_logic_ones : Int32} {f_logic_unknowns : Int32} {f_logic_settled : Int32} {f_sched_available : Nat → Int32} {f_sched_wanted : Nat → Int32} {f_sched_coming : Nat → Int32} {f_sched_waiting : Int32} {f_sched_taken : Int32} {f_sched_sent : Int32} {f_sched_lastSent : Int32} {f_hist_next : Int32} {f_hist_held : Int32} {f_ring_cells : Nat → Int32} {f_kept_cells : Nat → Int32} {f_sight_steps : Nat → Int32} {f_sight_gates : Nat → Int32} {f_sight_values : Nat → Int32} {f_sight_truths : Nat → Int32} {f_sight_held : Int32} {X : va_W} {p1 : Int32} {Q : Int32 → Int32 → Int32 → (Nat → Int32) → Int32 → Int32 → (Nat → Int32) → Int32 → Int32 → (Nat → Int32) → Int32 → (Nat → Int32) → Int32 → (Nat → Int32) → Prop} (h : wp_X3_take f_reader_greatestSource f_reader_place f_spare_chips f_spare_clocks f_spare_firstPins f_spare_firstPlaces f_spare_firsts f_spare_gates f_spare_inputs f_spare_kinds f_spare_registers f_spare_seconds f_spare_slowRegisters f_spare_sourceSets p1 Q) : CtV l yX3_take cX3_take 4 none ({ frames := 3, cells := 0, slots := 0, locals := 63 } : Room) D [(cI, .int), (cZ, .boolean)] [.ref (ad 30), .int p1, .ref (ad 23)] (wC ad cI cZ f_keptSlots f_trace f_lastSeed f_text_letters f_text_length f_reader_place f_reader_greatestSource f_plan_chips f_plan_firstPins f_plan_firstPlaces f_plan_gates f_plan_inputs f_plan_registers f_plan_slowRegisters f_plan_kinds f_plan_firsts f_plan_seconds f_plan_clocks f_plan_sourceSets f_spare_chips f_spare_firstPins f_spare_firstPlaces f_spare_gates f_spare_inputs f_spare_registers f_spare_slowRegisters f_spare_kinds f_spare_firsts f_spare_seconds f_spare_clocks f_spare_sourceSets f_now_ones f_now_unknowns f_now_places f_now_pins f_now_count f_copy_ones f_copy_unknowns f_copy_places f_copy_pins f_copy_count f_logic_ones f_logic_unknowns f_logic_settled f_sched_available f_sched_wanted f_sched_coming f_sched_waiting f_sched_taken f_sched_sent f_sched_lastSent f_hist_next f_hist_held f_ring_cells f_kept_cells f_sight_steps f_sight_gates f_sight_values f_sight_truths f_sight_held X) (fun  u => ∃ w0 w1 w2 w3 w4 w5 w6 w7 w8 w9 w10 w11 w12 w13, u = (wC ad cI cZ f_keptSlots f_trace f_lastSeed f_text_letters f_text_length w1 w0 f_plan_chips f_plan_firstPins f_plan_firstPlaces f_plan_gates f_plan_inputs f_plan_registers f_plan_slowRegisters f_plan_kinds f_plan_firsts f_plan_seconds f_plan_clocks f_plan_sourceSets w2 w4 w5 w7 w8 w10 w12 w9 w6 w11 w3 w13 f_now_ones f_now_unknowns f_now_places f_now_pins f_now_count f_copy_ones f_copy_unknowns f_copy_places f_copy_pins f_copy_count f_logic_ones f_logic_unknowns f_logic_settled f_sched_available f_sched_wanted f_sched_coming f_sched_waiting f_sched_taken f_sched_sent f_sched_lastSent f_hist_next f_hist_held f_ring_cells f_kept_cells f_sight_steps f_sight_gates f_sight_values f_sight_truths f_sight_held X) ∧ Q w0 w1 w2 w3 w4 w5 w6 w7 w8 w9 w10 w11 w12 w13) := by
  refine CtV.of (by decide) rfl (Nat.le_of_ble_eq_true rfl) ?_
  intro p e s m args below meth c A Z E hret ls hl hw
  have E : gE p m c cX3_take 4 s args RX3 D [(cI, .int), (cZ, .boolean)] A := E
  have hx := E.1.1
  have hb := E.1.2.1
  have hl : lv_has ls 4 [(0, .ref (ad 30)), (1, .int p1), (2, .ref (ad 23))] := hl
  have J120 : ∀ (s1 : Int32) (f_reader_greatestSource : Int32) (f_reader_place : Int32) (f_spare_chips : Int32) (f_spare_clocks : Nat → Int32) (f_spare_firstPins : Int32) (f_spare_firstPlaces : Int32) (f_spare_firsts : Nat → Int32) (f_spare_gates : Int32) (f_spare_inputs : Int32) (f_spare_kinds : Nat → Int32) (f_spare_registers : Int32) (f_spare_seconds : Nat → Int32) (f_spare_slowRegisters : Int32) (f_spare_sourceSets : Nat → Int32) (H : Heap) (locs : List Loc) (ls : Array Slot), wp_X3_take_b120 p1 Q  s1 f_reader_greatestSource f_reader_place f_spare_chips f_spare_clocks f_spare_firstPins f_spare_firstPlaces f_spare_firsts f_spare_gates f_spare_inputs f_spare_kinds f_spare_registers f_spare_seconds f_spare_slowRegisters f_spare_sourceSets → gW D s A (wC ad cI cZ f_keptSlots f_trace f_lastSeed f_text_letters f_text_length f_reader_place f_reader_greatestSource f_plan_chips f_plan_firstPins f_plan_firstPlaces f_plan_gates f_plan_inputs f_plan_registers f_plan_slowRegisters f_plan_kinds f_plan_firsts f_plan_seconds f_plan_clocks f_plan_sourceSets f_spare_chips f_spare_firstPins f_spare_firstPlaces f_spare_gates f_spare_inputs f_spare_registers f_spare_slowRegisters f_spare_kinds f_spare_firsts f_spare_seconds f_spare_clocks f_spare_sourceSets f_now_ones f_now_unknowns f_now_places f_now_pins f_now_count f_copy_ones f_copy_unknowns f_copy_places f_copy_pins f_copy_count f_logic_ones f_logic_unknowns f_logic_settled f_sched_available f_sched_wanted f_sched_coming f_sched_waiting f_sched_taken f_sched_sent f_sched_lastSent f_hist_next f_hist_held f_ring_cells f_kept_cells f_sight_steps f_sight_gates f_sight_values f_sight_truths f_sight_held X) H locs → lv_has ls 4 [] → W p l e ({ frames := 3, cells := 0, slots := 0, locals := 63 } : Room) s m args below meth c H locs 0 0 Z (F0 m 120 ls [.int s1, .ref (ad 30)]) := by
    intro s1 f_reader_greatestSource f_reader_place f_spare_chips f_spare_clocks f_spare_firstPins f_spare_firstPlaces f_spare_firsts f_spare_gates f_spare_inputs f_spare_kinds f_spare_registers f_spare_seconds f_spare_slowRegisters f_spare_sourceSets H locs ls h hw hl
    unfold wp_X3_take_b120 at h
    refine pC_X3_11_reader E hw dX3_take_120 (fun H locs hw => ?_)
    refine lv_goto (tgt := 192) hx hb dX3_take_123 (by decide) ?_
    exact hret _ _ _ _ _ ⟨_, _, _, _, _, _, _, _, _, _, _, _, _, _, rfl, h⟩ hw dX3_take_192
  unfold wp_X3_take at h
  refine lv_iload_n hx hb dX3_take_0 rfl (lv_at hl 1 rfl) ?_
  refine lv_bipush (v := 48) hx hb dX3_take_1 (by decide) ?_
  refine lv_isub hx hb dX3_take_3 ?_
  refine lv_topi (fun v1 ev1 => ?_)
  have h := h v1 ev1
  refine lv_istore_n (lv' := [(3, .int v1), (0, .ref (ad 30)), (1, .int p1), (2, .ref (ad 23))]) hx hb dX3_take_4 rfl hl (by decide) rfl (fun ls hl => ?_)
  refine lv_aload_n hx hb dX3_take_5 rfl (lv_at hl 1 rfl) ?_
  refine gC_X3_11_reader E hw dX3_take_6 ?_
  by_cases c2 : f_reader_place = 0
  · have h := h.1 c2
    refine lv_tableIn (tgt := 52) (off := 43) hx hb dX3_take_9 (by rw [c2]; decide) (by rw [c2]; decide) (by rw [c2]; rfl) (by decide) ?_
    refine lv_aload_n hx hb dX3_take_52 rfl (lv_at hl 1 rfl) ?_
    refine lv_iconst (v := 1) hx hb dX3_take_53 (by decide) ?_
    refine pC_X3_11_reader E hw dX3_take_54 (fun H locs hw => ?_)
    refine lv_goto (tgt := 192) hx hb dX3_take_57 (by decide) ?_
    exact hret _ _ _ _ _ ⟨_, _, _, _, _, _, _, _, _, _, _, _, _, _, rfl, h⟩ hw dX3_take_192
  · have h := h.2 c2
    by_cases c3 : f_reader_place = 1
    · have h := h.1 c3
      refine lv_tableIn (tgt := 60) (off := 51) hx hb dX3_take_9 (by rw [c3]; decide) (by rw [c3]; decide) (by rw [c3]; rfl) (by decide) ?_
      refine lv_aload_n hx hb dX3_take_60 rfl (lv_at hl 3 rfl) ?_
      refine lv_iload_n hx hb dX3_take_61 rfl (lv_at hl 0 rfl) ?_
      refine pC_X3_50_spare E hw dX3_take_62 (fun H locs hw => ?_)
      refine lv_aload_n hx hb dX3_take_65 rfl (lv_at hl 1 rfl) ?_
      refine lv_iconst (v := 2) hx hb dX3_take_66 (by decide) ?_
      refine pC_X3_11_reader E hw dX3_take_67 (fun H locs hw => ?_)
      refine lv_goto (tgt := 192) hx hb dX3_take_70 (by decide) ?_
      exact hret _ _ _ _ _ ⟨_, _, _, _, _, _, _, _, _, _, _, _, _, _, rfl, h⟩ hw dX3_take_192
    · have h := h.2 c3
      by_cases c4 : f_reader_place = 2
      · have h := h.1 c4
        refine lv_tableIn (tgt := 73) (off := 64) hx hb dX3_take_9 (by rw [c4]; decide) (by rw [c4]; decide) (by rw [c4]; rfl) (by decide) ?_
        refine lv_aload_n hx hb dX3_take_73 rfl (lv_at hl 3 rfl) ?_
        refine lv_iload_n hx hb dX3_take_74 rfl (lv_at hl 0 rfl) ?_
        refine pC_X3_53_spare E hw dX3_take_75 (fun H locs hw => ?_)
        refine lv_aload_n hx hb dX3_take_78 rfl (lv_at hl 1 rfl) ?_
        refine lv_iconst (v := 3) hx hb dX3_take_79 (by decide) ?_
        refine pC_X3_11_reader E hw dX3_take_80 (fun H locs hw => ?_)
        refine lv_goto (tgt := 192) hx hb dX3_take_83 (by decide) ?_
        exact hret _ _ _ _ _ ⟨_, _, _, _, _, _, _, _, _, _, _, _, _, _, rfl, h⟩ hw dX3_take_192
      · have h := h.2 c4
        by_cases c5 : f_reader_place = 3
        · have h := h.1 c5
          refine lv_tableIn (tgt := 86) (off := 77) hx hb dX3_take_9 (by rw [c5]; decide) (by rw [c5]; decide) (by rw [c5]; rfl) (by decide) ?_
          refine lv_aload_n hx hb dX3_take_86 rfl (lv_at hl 3 rfl) ?_
          refine lv_iload_n hx hb dX3_take_87 rfl (lv_at hl 2 rfl) ?_
          refine g_aI E hw (g_rS E hw (c_X3_kindOfLetter h _) ym_X3_kindOfLetter k_214 ⟨rfl, rfl⟩ ⟨Nat.le_of_ble_eq_true rfl, Nat.le_of_ble_eq_true rfl⟩ rfl hl.1 rfl (Nat.le_of_ble_eq_true rfl) ⟨Nat.zero_le _, Nat.zero_le _⟩ dX3_take_88) (fun r6 u H locs hq hw => ?_)
          obtain ⟨hu, h⟩ := hq
          rw [hu] at hw
          refine g_aV E hw (g_rV E hw (c_X2_addGate_spare h _) ym_X2_addGate k_220 ⟨rfl, rfl⟩ ⟨Nat.le_of_ble_eq_true rfl, Nat.le_of_ble_eq_true rfl⟩ 23 rfl rfl rfl rfl hl.1 rfl (Nat.le_of_ble_eq_true rfl) ⟨Nat.zero_le _, Nat.zero_le _⟩ dX3_take_91) (fun u H locs hq hw => ?_)
          obtain ⟨y8, y9, y10, y11, y12, y13, y14, y15, hu, h⟩ := hq
          rw [hu] at hw
          refine lv_aload_n hx hb dX3_take_94 rfl (lv_at hl 1 rfl) ?_
          refine lv_iconst (v := 4) hx hb dX3_take_95 (by decide) ?_
          refine pC_X3_11_reader E hw dX3_take_96 (fun H locs hw => ?_)
          refine lv_goto (tgt := 192) hx hb dX3_take_99 (by decide) ?_
          exact hret _ _ _ _ _ ⟨_, _, _, _, _, _, _, _, _, _, _, _, _, _, rfl, h⟩ hw dX3_take_192
        · have h := h.2 c5
          by_cases c16 : f_reader_place = 4
          · have h := h.1 c16
            refine lv_tableIn (tgt := 102) (off := 93) hx hb dX3_take_9 (by rw [c16]; decide) (by rw [c16]; decide) (by rw [c16]; rfl) (by decide) ?_
            refine lv_aload_n hx hb dX3_take_102 rfl (lv_at hl 3 rfl) ?_
            refine lv_iload_n hx hb dX3_take_103 rfl (lv_at hl 0 rfl) ?_
            refine g_aV E hw (g_rV E hw (c_X2_placeLast_spare h _) ym_X2_placeLast k_226 ⟨rfl, rfl⟩ ⟨Nat.le_of_ble_eq_true rfl, Nat.le_of_ble_eq_true rfl⟩ 23 rfl rfl rfl rfl hl.1 rfl (Nat.le_of_ble_eq_true rfl) ⟨Nat.zero_le _, Nat.zero_le _⟩ dX3_take_104) (fun u H locs hq hw => ?_)
            obtain ⟨y18, hu, h⟩ := hq
            rw [hu] at hw
            refine lv_aload_n hx hb dX3_take_107 rfl (lv_at hl 1 rfl) ?_
            refine lv_aload_n hx hb dX3_take_108 rfl (lv_at hl 3 rfl) ?_
            refine g_aI E hw (g_rV E hw (c_X2_lastKind_spare h _) ym_X2_lastKind k_232 ⟨rfl, rfl⟩ ⟨Nat.le_of_ble_eq_true rfl, Nat.le_of_ble_eq_true rfl⟩ 23 rfl rfl rfl rfl hl.1 rfl (Nat.le_of_ble_eq_true rfl) ⟨Nat.zero_le _, Nat.zero_le _⟩ dX3_take_109) (fun r19 u H locs hq hw => ?_)
            obtain ⟨hu, h⟩ := hq
            rw [hu] at hw
            refine lv_if_ne (tgt := 119) hx hb dX3_take_112 (by decide) (fun c20 => ?_) (fun c20 => ?_)
            · have h := h.1 c20
              refine lv_iconst (v := 5) hx hb dX3_take_119 (by decide) ?_
              exact J120 (5 : Int32) f_reader_greatestSource f_reader_place f_spare_chips f_spare_clocks f_spare_firstPins y18 f_spare_firsts f_spare_gates f_spare_inputs f_spare_kinds f_spare_registers f_spare_seconds f_spare_slowRegisters f_spare_sourceSets _ _ _ h hw (lv_sub hl [] rfl)
            · have h := h.2 c20
              refine lv_iconst (v := 3) hx hb dX3_take_115 (by decide) ?_
              refine lv_goto (tgt := 120) hx hb dX3_take_116 (by decide) ?_
              exact J120 (3 : Int32) f_reader_greatestSource f_reader_place f_spare_chips f_spare_clocks f_spare_firstPins y18 f_spare_firsts f_spare_gates f_spare_inputs f_spare_kinds f_spare_registers f_spare_seconds f_spare_slowRegisters f_spare_sourceSets _ _ _ h hw (lv_sub hl [] rfl)
          · have h := h.2 c16
            by_cases c21 : f_reader_place = 5
            · have h := h.1 c21
              refine lv_tableIn (tgt := 126) (off := 117) hx hb dX3_take_9 (by rw [c21]; decide) (by rw [c21]; decide) (by rw [c21]; rfl) (by decide) ?_
              refine lv_aload_n hx hb dX3_take_126 rfl (lv_at hl 3 rfl) ?_
              refine lv_iload_n hx hb dX3_take_127 rfl (lv_at hl 0 rfl) ?_
              refine g_aV E hw (g_rV E hw (c_X2_setFirst_spare h _) ym_X2_setFirst k_240 ⟨rfl, rfl⟩ ⟨Nat.le_of_ble_eq_true rfl, Nat.le_of_ble_eq_true rfl⟩ 23 rfl rfl rfl rfl hl.1 rfl (Nat.le_of_ble_eq_true rfl) ⟨Nat.zero_le _, Nat.zero_le _⟩ dX3_take_128) (fun u H locs hq hw => ?_)
              obtain ⟨y23, y24, hu, h⟩ := hq
              rw [hu] at hw
              refine lv_aload_n hx hb dX3_take_131 rfl (lv_at hl 1 rfl) ?_
              refine lv_aload_n hx hb dX3_take_132 rfl (lv_at hl 1 rfl) ?_
              refine gC_X3_15_reader E hw dX3_take_133 ?_
              refine lv_iload_n hx hb dX3_take_136 rfl (lv_at hl 0 rfl) ?_
              refine va_mmax hx hb (E.1.2.2.1.trans hl.1.symm) E.1.2.2.2.1 (E.1.2.2.2.2 _ k_244) (E.1.2.2.2.2 _ k_145) (E.1.2.2.2.2 _ k_59) (E.1.2.2.2.2 _ k_146) (Nat.le_of_ble_eq_true rfl) (Nat.le_of_ble_eq_true rfl) (Nat.zero_le _) (Nat.zero_le _) dX3_take_137 ?_
              refine lv_topi (fun v25 ev25 => ?_)
              have h := h v25 ev25
              refine pC_X3_15_reader E hw dX3_take_140 (fun H locs hw => ?_)
              refine lv_aload_n hx hb dX3_take_143 rfl (lv_at hl 1 rfl) ?_
              refine lv_aload_n hx hb dX3_take_144 rfl (lv_at hl 3 rfl) ?_
              refine g_aI E hw (g_rV E hw (c_X2_lastKind_spare h _) ym_X2_lastKind k_232 ⟨rfl, rfl⟩ ⟨Nat.le_of_ble_eq_true rfl, Nat.le_of_ble_eq_true rfl⟩ 23 rfl rfl rfl rfl hl.1 rfl (Nat.le_of_ble_eq_true rfl) ⟨Nat.zero_le _, Nat.zero_le _⟩ dX3_take_145) (fun r26 u H locs hq hw => ?_)
              obtain ⟨hu, h⟩ := hq
              rw [hu] at hw
              refine g_aI E hw (g_rS E hw (c_X3_behindFirst h _) ym_X3_behindFirst k_245 ⟨rfl, rfl⟩ ⟨Nat.le_of_ble_eq_true rfl, Nat.le_of_ble_eq_true rfl⟩ rfl hl.1 rfl (Nat.le_of_ble_eq_true rfl) ⟨Nat.zero_le _, Nat.zero_le _⟩ dX3_take_148) (fun r27 u H locs hq hw => ?_)
              obtain ⟨hu, h⟩ := hq
              rw [hu] at hw
              refine pC_X3_11_reader E hw dX3_take_151 (fun H locs hw => ?_)
              refine lv_goto (tgt := 192) hx hb dX3_take_154 (by decide) ?_
              exact hret _ _ _ _ _ ⟨_, _, _, _, _, _, _, _, _, _, _, _, _, _, rfl, h⟩ hw dX3_take_192
            · have h := h.2 c21
              by_cases c28 : f_reader_place = 6
              · have h := h.1 c28
                refine lv_tableIn (tgt := 157) (off := 148) hx hb dX3_take_9 (by rw [c28]; decide) (by rw [c28]; decide) (by rw [c28]; rfl) (by decide) ?_
                refine lv_aload_n hx hb dX3_take_157 rfl (lv_at hl 3 rfl) ?_
                refine lv_iload_n hx hb dX3_take_158 rfl (lv_at hl 0 rfl) ?_
                refine g_aV E hw (g_rV E hw (c_X2_setSecond_spare h _) ym_X2_setSecond k_248 ⟨rfl, rfl⟩ ⟨Nat.le_of_ble_eq_true rfl, Nat.le_of_ble_eq_true rfl⟩ 23 rfl rfl rfl rfl hl.1 rfl (Nat.le_of_ble_eq_true rfl) ⟨Nat.zero_le _, Nat.zero_le _⟩ dX3_take_159) (fun u H locs hq hw => ?_)
                obtain ⟨y30, y31, hu, h⟩ := hq
                rw [hu] at hw
                refine lv_aload_n hx hb dX3_take_162 rfl (lv_at hl 1 rfl) ?_
                refine lv_aload_n hx hb dX3_take_163 rfl (lv_at hl 1 rfl) ?_
                refine gC_X3_15_reader E hw dX3_take_164 ?_
                refine lv_iload_n hx hb dX3_take_167 rfl (lv_at hl 0 rfl) ?_
                refine va_mmax hx hb (E.1.2.2.1.trans hl.1.symm) E.1.2.2.2.1 (E.1.2.2.2.2 _ k_244) (E.1.2.2.2.2 _ k_145) (E.1.2.2.2.2 _ k_59) (E.1.2.2.2.2 _ k_146) (Nat.le_of_ble_eq_true rfl) (Nat.le_of_ble_eq_true rfl) (Nat.zero_le _) (Nat.zero_le _) dX3_take_168 ?_
                refine lv_topi (fun v32 ev32 => ?_)
                have h := h v32 ev32
                refine pC_X3_15_reader E hw dX3_take_171 (fun H locs hw => ?_)
                refine lv_aload_n hx hb dX3_take_174 rfl (lv_at hl 1 rfl) ?_
                refine lv_iconst (v := 3) hx hb dX3_take_175 (by decide) ?_
                refine pC_X3_11_reader E hw dX3_take_176 (fun H locs hw => ?_)
                refine lv_goto (tgt := 192) hx hb dX3_take_179 (by decide) ?_
                exact hret _ _ _ _ _ ⟨_, _, _, _, _, _, _, _, _, _, _, _, _, _, rfl, h⟩ hw dX3_take_192
              · have h := h.2 c28
                have nc2 := lv_neT c2 (a := 0) rfl
                have nc3 := lv_neT c3 (a := 1) rfl
                have nc4 := lv_neT c4 (a := 2) rfl
                have nc5 := lv_neT c5 (a := 3) rfl
                have nc16 := lv_neT c16 (a := 4) rfl
                have nc21 := lv_neT c21 (a := 5) rfl
                have nc28 := lv_neT c28 (a := 6) rfl
                refine lv_tableOut (tgt := 182) hx hb dX3_take_9 (by omega) (by decide) ?_
                refine lv_aload_n hx hb dX3_take_182 rfl (lv_at hl 3 rfl) ?_
                refine lv_iload_n hx hb dX3_take_183 rfl (lv_at hl 0 rfl) ?_
                refine g_aV E hw (g_rV E hw (c_X2_setClock_spare h _) ym_X2_setClock k_256 ⟨rfl, rfl⟩ ⟨Nat.le_of_ble_eq_true rfl, Nat.le_of_ble_eq_true rfl⟩ 23 rfl rfl rfl rfl hl.1 rfl (Nat.le_of_ble_eq_true rfl) ⟨Nat.zero_le _, Nat.zero_le _⟩ dX3_take_184) (fun u H locs hq hw => ?_)
                obtain ⟨y34, y35, hu, h⟩ := hq
                rw [hu] at hw
                refine lv_aload_n hx hb dX3_take_187 rfl (lv_at hl 1 rfl) ?_
                refine lv_iconst (v := 3) hx hb dX3_take_188 (by decide) ?_
                refine pC_X3_11_reader E hw dX3_take_189 (fun H locs hw => ?_)
                exact hret _ _ _ _ _ ⟨_, _, _, _, _, _, _, _, _, _, _, _, _, _, rfl, h⟩ hw dX3_take_192
set_option maxRecDepth 100000 in
set_option maxHeartbeats 4000000 in
theorem c_X2_clear_spare {l : Launch} {D : va_G} {cI cZ : ClassId} {ad : Nat → Nat} {f_keptSlots : Int32} {f_trace : Nat → Int32} {f_lastSeed : Int64} {f_text_letters : Nat → Int32} {f_text_length : Int32} {f_reader_place : Int32} {f_reader_greatestSource : Int32} {f_plan_chips : Int32} {f_plan_firstPins : Int32} {f_plan_firstPlaces : Int32} {f_plan_gates : Int32} {f_plan_inputs : Int32} {f_plan_registers : Int32} {f_plan_slowRegisters : Int32} {f_plan_kinds : Nat → Int32} {f_plan_firsts : Nat → Int32} {f_plan_seconds : Nat → Int32} {f_plan_clocks : Nat → Int32} {f_plan_sourceSets : Nat → Int32} {f_spare_chips : Int32} {f_spare_firstPins : Int32} {f_spare_firstPlaces : Int32} {f_spare_gates : Int32} {f_spare_inputs : Int32} {f_spare_registers : Int32} {f_spare_slowRegisters : Int32} {f_spare_kinds : Nat → Int32} {f_spare_firsts : Nat → Int32} {f_spare_seconds : Nat → Int32} {f_spare_clocks : Nat → Int32} {f_spare_sourceSets : Nat → Int32} {f_now_ones : Int32} {f_now_unknowns : Int32} {f_now_places : Int32} {f_now_pins : Int32} {f_now_count : Int32} {f_copy_ones : Int32} {f_copy_unknowns : Int32} {f_copy_places : Int32} {f_copy_pins : Int32} {f_copy_count : Int32} {f_logic_ones : Int32} {f_logic_unknowns : Int32} {f_logic_settled : Int32} {f_sched_available : Nat → Int32} {f_sched_wanted : Nat → Int32} {f_sched_coming : Nat → Int32} {f_sched_waiting : Int32} {f_sched_taken : Int32} {f_sched_sent : Int32} {f_sched_lastSent : Int32} {f_hist_next : Int32} {f_hist_held : Int32} {f_ring_cells : Nat → Int32} {f_kept_cells : Nat → Int32} {f_sight_steps : Nat → Int32} {f_sight_gates : Nat → Int32} {f_sight_values : Nat → Int32} {f_sight_truths : Nat → Int32} {f_sight_held : Int32} {X : va_W} {Q : Int32 → Int32 → Int32 → Int32 → Int32 → Int32 → Int32 → Prop} (h : wp_X2_clear f_spare_chips f_spare_firstPins f_spare_firstPlaces f_spare_gates f_spare_inputs f_spare_registers f_spare_slowRegisters Q) : CtV l yX2_clear cX2_clear 1 none ({ frames := 0, cells := 0, slots := 0, locals := 0 } : Room) D [(cI, .int), (cZ, .boolean)] [.ref (ad 23)] (wC ad cI cZ f_keptSlots f_trace f_lastSeed f_text_letters f_text_length f_reader_place f_reader_greatestSource f_plan_chips f_plan_firstPins f_plan_firstPlaces f_plan_gates f_plan_inputs f_plan_registers f_plan_slowRegisters f_plan_kinds f_plan_firsts f_plan_seconds f_plan_clocks f_plan_sourceSets f_spare_chips f_spare_firstPins f_spare_firstPlaces f_spare_gates f_spare_inputs f_spare_registers f_spare_slowRegisters f_spare_kinds f_spare_firsts f_spare_seconds f_spare_clocks f_spare_sourceSets f_now_ones f_now_unknowns f_now_places f_now_pins f_now_count f_copy_ones f_copy_unknowns f_copy_places f_copy_pins f_copy_count f_logic_ones f_logic_unknowns f_logic_settled f_sched_available f_sched_wanted f_sched_coming f_sched_waiting f_sched_taken f_sched_sent f_sched_lastSent f_hist_next f_hist_held f_ring_cells f_kept_cells f_sight_steps f_sight_gates f_sight_values f_sight_truths f_sight_held X) (fun  u => ∃ w0 w1 w2 w3 w4 w5 w6, u = (wC ad cI cZ f_keptSlots f_trace f_lastSeed f_text_letters f_text_length f_reader_place f_reader_greatestSource f_plan_chips f_plan_firstPins f_plan_firstPlaces f_plan_gates f_plan_inputs f_plan_registers f_plan_slowRegisters f_plan_kinds f_plan_firsts f_plan_seconds f_plan_clocks f_plan_sourceSets w0 w1 w2 w3 w4 w5 w6 f_spare_kinds f_spare_firsts f_spare_seconds f_spare_clocks f_spare_sourceSets f_now_ones f_now_unknowns f_now_places f_now_pins f_now_count f_copy_ones f_copy_unknowns f_copy_places f_copy_pins f_copy_count f_logic_ones f_logic_unknowns f_logic_settled f_sched_available f_sched_wanted f_sched_coming f_sched_waiting f_sched_taken f_sched_sent f_sched_lastSent f_hist_next f_hist_held f_ring_cells f_kept_cells f_sight_steps f_sight_gates f_sight_values f_sight_truths f_sight_held X) ∧ Q w0 w1 w2 w3 w4 w5 w6) := by
  refine CtV.of (by decide) rfl (Nat.le_of_ble_eq_true rfl) ?_
  intro p e s m args below meth c A Z E hret ls hl hw
  have E : gE p m c cX2_clear 1 s args RX2 D [(cI, .int), (cZ, .boolean)] A := E
  have hx := E.1.1
  have hb := E.1.2.1
  have hl : lv_has ls 1 [(0, .ref (ad 23))] := hl
  unfold wp_X2_clear at h
  refine lv_aload_n hx hb dX2_clear_0 rfl (lv_at hl 0 rfl) ?_
  refine lv_iconst (v := 1) hx hb dX2_clear_1 (by decide) ?_
  refine pC_X2_9_spare E hw dX2_clear_2 (fun H locs hw => ?_)
  refine lv_aload_n hx hb dX2_clear_5 rfl (lv_at hl 0 rfl) ?_
  refine lv_iconst (v := 1) hx hb dX2_clear_6 (by decide) ?_
  refine pC_X2_15_spare E hw dX2_clear_7 (fun H locs hw => ?_)
  refine lv_aload_n hx hb dX2_clear_10 rfl (lv_at hl 0 rfl) ?_
  refine lv_iconst (v := 0) hx hb dX2_clear_11 (by decide) ?_
  refine pC_X2_18_spare E hw dX2_clear_12 (fun H locs hw => ?_)
  refine lv_aload_n hx hb dX2_clear_15 rfl (lv_at hl 0 rfl) ?_
  refine lv_iconst (v := 0) hx hb dX2_clear_16 (by decide) ?_
  refine pC_X2_21_spare E hw dX2_clear_17 (fun H locs hw => ?_)
  refine lv_aload_n hx hb dX2_clear_20 rfl (lv_at hl 0 rfl) ?_
  refine lv_iconst (v := 0) hx hb dX2_clear_21 (by decide) ?_
  refine pC_X2_24_spare E hw dX2_clear_22 (fun H locs hw => ?_)
  refine lv_aload_n hx hb dX2_clear_25 rfl (lv_at hl 0 rfl) ?_
  refine lv_iconst (v := 0) hx hb dX2_clear_26 (by decide) ?_
  refine pC_X2_27_spare E hw dX2_clear_27 (fun H locs hw => ?_)
  refine lv_aload_n hx hb dX2_clear_30 rfl (lv_at hl 0 rfl) ?_
  refine lv_iconst (v := 0) hx hb dX2_clear_31 (by decide) ?_
  refine pC_X2_30_spare E hw dX2_clear_32 (fun H locs hw => ?_)
  exact hret _ _ _ _ _ ⟨_, _, _, _, _, _, _, rfl, h⟩ hw dX2_clear_35
set_option maxRecDepth 100000 in
set_option maxHeartbeats 4000000 in
theorem c_X3_read_text_spare {l : Launch} {D : va_G} {cI cZ : ClassId} {ad : Nat → Nat} {f_keptSlots : Int32} {f_trace : Nat → Int32} {f_lastSeed : Int64} {f_text_letters : Nat → Int32} {f_text_length : Int32} {f_reader_place : Int32} {f_reader_greatestSource : Int32} {f_plan_chips : Int32} {f_plan_firstPins : Int32} {f_plan_firstPlaces : Int32} {f_plan_gates : Int32} {f_plan_inputs : Int32} {f_plan_registers : Int32} {f_plan_slowRegisters : Int32} {f_plan_kinds : Nat → Int32} {f_plan_firsts : Nat → Int32} {f_plan_seconds : Nat → Int32} {f_plan_clocks : Nat → Int32} {f_plan_sourceSets : Nat → Int32} {f_spare_chips : Int32} {f_spare_firstPins : Int32} {f_spare_firstPlaces : Int32} {f_spare_gates : Int32} {f_spare_inputs : Int32} {f_spare_registers : Int32} {f_spare_slowRegisters : Int32} {f_spare_kinds : Nat → Int32} {f_spare_firsts : Nat → Int32} {f_spare_seconds : Nat → Int32} {f_spare_clocks : Nat → Int32} {f_spare_sourceSets : Nat → Int32} {f_now_ones : Int32} {f_now_unknowns : Int32} {f_now_places : Int32} {f_now_pins : Int32} {f_now_count : Int32} {f_copy_ones : Int32} {f_copy_unknowns : Int32} {f_copy_places : Int32} {f_copy_pins : Int32} {f_copy_count : Int32} {f_logic_ones : Int32} {f_logic_unknowns : Int32} {f_logic_settled : Int32} {f_sched_available : Nat → Int32} {f_sched_wanted : Nat → Int32} {f_sched_coming : Nat → Int32} {f_sched_waiting : Int32} {f_sched_taken : Int32} {f_sched_sent : Int32} {f_sched_lastSent : Int32} {f_hist_next : Int32} {f_hist_held : Int32} {f_ring_cells : Nat → Int32} {f_kept_cells : Nat → Int32} {f_sight_steps : Nat → Int32} {f_sight_gates : Nat → Int32} {f_sight_values : Nat → Int32} {f_sight_truths : Nat → Int32} {f_sight_held : Int32} {X : va_W} {Q : Int32 → Int32 → Int32 → Int32 → (Nat → Int32) → Int32 → Int32 → (Nat → Int32) → Int32 → Int32 → (Nat → Int32) → Int32 → (Nat → Int32) → Int32 → (Nat → Int32) → Prop} (h : wp_X3_read f_reader_greatestSource f_reader_place f_text_length f_text_letters f_spare_chips f_spare_clocks f_spare_firstPins f_spare_firstPlaces f_spare_firsts f_spare_gates f_spare_inputs f_spare_kinds f_spare_registers f_spare_seconds f_spare_slowRegisters f_spare_sourceSets Q) : CtI l yX3_read cX3_read 5 (some .int) ({ frames := 4, cells := 0, slots := 0, locals := 86 } : Room) D [(cI, .int), (cZ, .boolean)] [.ref (ad 30), .ref (ad 32), .ref (ad 23)] (wC ad cI cZ f_keptSlots f_trace f_lastSeed f_text_letters f_text_length f_reader_place f_reader_greatestSource f_plan_chips f_plan_firstPins f_plan_firstPlaces f_plan_gates f_plan_inputs f_plan_registers f_plan_slowRegisters f_plan_kinds f_plan_firsts f_plan_seconds f_plan_clocks f_plan_sourceSets f_spare_chips f_spare_firstPins f_spare_firstPlaces f_spare_gates f_spare_inputs f_spare_registers f_spare_slowRegisters f_spare_kinds f_spare_firsts f_spare_seconds f_spare_clocks f_spare_sourceSets f_now_ones f_now_unknowns f_now_places f_now_pins f_now_count f_copy_ones f_copy_unknowns f_copy_places f_copy_pins f_copy_count f_logic_ones f_logic_unknowns f_logic_settled f_sched_available f_sched_wanted f_sched_coming f_sched_waiting f_sched_taken f_sched_sent f_sched_lastSent f_hist_next f_hist_held f_ring_cells f_kept_cells f_sight_steps f_sight_gates f_sight_values f_sight_truths f_sight_held X) (fun r u => ∃ w0 w1 w2 w3 w4 w5 w6 w7 w8 w9 w10 w11 w12 w13, u = (wC ad cI cZ f_keptSlots f_trace f_lastSeed f_text_letters f_text_length w1 w0 f_plan_chips f_plan_firstPins f_plan_firstPlaces f_plan_gates f_plan_inputs f_plan_registers f_plan_slowRegisters f_plan_kinds f_plan_firsts f_plan_seconds f_plan_clocks f_plan_sourceSets w2 w4 w5 w7 w8 w10 w12 w9 w6 w11 w3 w13 f_now_ones f_now_unknowns f_now_places f_now_pins f_now_count f_copy_ones f_copy_unknowns f_copy_places f_copy_pins f_copy_count f_logic_ones f_logic_unknowns f_logic_settled f_sched_available f_sched_wanted f_sched_coming f_sched_waiting f_sched_taken f_sched_sent f_sched_lastSent f_hist_next f_hist_held f_ring_cells f_kept_cells f_sight_steps f_sight_gates f_sight_values f_sight_truths f_sight_held X) ∧ Q r w0 w1 w2 w3 w4 w5 w6 w7 w8 w9 w10 w11 w12 w13) := by
  refine CtI.of (by decide) rfl (Nat.le_of_ble_eq_true rfl) ?_
  intro p e s m args below meth c A Z E hret ls hl hw
  have E : gE p m c cX3_read 5 s args RX3 D [(cI, .int), (cZ, .boolean)] A := E
  have hx := E.1.1
  have hb := E.1.2.1
  have hl : lv_has ls 5 [(0, .ref (ad 30)), (1, .ref (ad 32)), (2, .ref (ad 23))] := hl
  have J81 : ∀ (f_reader_greatestSource : Int32) (f_reader_place : Int32) (f_spare_chips : Int32) (f_spare_clocks : Nat → Int32) (f_spare_firstPins : Int32) (f_spare_firstPlaces : Int32) (f_spare_firsts : Nat → Int32) (f_spare_gates : Int32) (f_spare_inputs : Int32) (f_spare_kinds : Nat → Int32) (f_spare_registers : Int32) (f_spare_seconds : Nat → Int32) (f_spare_slowRegisters : Int32) (f_spare_sourceSets : Nat → Int32) (H : Heap) (locs : List Loc) (ls : Array Slot), wp_X3_read_b81 f_text_length f_text_letters Q  f_reader_greatestSource f_reader_place f_spare_chips f_spare_clocks f_spare_firstPins f_spare_firstPlaces f_spare_firsts f_spare_gates f_spare_inputs f_spare_kinds f_spare_registers f_spare_seconds f_spare_slowRegisters f_spare_sourceSets → gW D s A (wC ad cI cZ f_keptSlots f_trace f_lastSeed f_text_letters f_text_length f_reader_place f_reader_greatestSource f_plan_chips f_plan_firstPins f_plan_firstPlaces f_plan_gates f_plan_inputs f_plan_registers f_plan_slowRegisters f_plan_kinds f_plan_firsts f_plan_seconds f_plan_clocks f_plan_sourceSets f_spare_chips f_spare_firstPins f_spare_firstPlaces f_spare_gates f_spare_inputs f_spare_registers f_spare_slowRegisters f_spare_kinds f_spare_firsts f_spare_seconds f_spare_clocks f_spare_sourceSets f_now_ones f_now_unknowns f_now_places f_now_pins f_now_count f_copy_ones f_copy_unknowns f_copy_places f_copy_pins f_copy_count f_logic_ones f_logic_unknowns f_logic_settled f_sched_available f_sched_wanted f_sched_coming f_sched_waiting f_sched_taken f_sched_sent f_sched_lastSent f_hist_next f_hist_held f_ring_cells f_kept_cells f_sight_steps f_sight_gates f_sight_values f_sight_truths f_sight_held X) H locs → lv_has ls 5 [(1, .ref (ad 32))] → W p l e ({ frames := 4, cells := 0, slots := 0, locals := 86 } : Room) s m args below meth c H locs 0 0 Z (F0 m 81 ls []) := by
    intro f_reader_greatestSource f_reader_place f_spare_chips f_spare_clocks f_spare_firstPins f_spare_firstPlaces f_spare_firsts f_spare_gates f_spare_inputs f_spare_kinds f_spare_registers f_spare_seconds f_spare_slowRegisters f_spare_sourceSets H locs ls h hw hl
    unfold wp_X3_read_b81 at h
    refine lv_aload_n hx hb dX3_read_81 rfl (lv_at hl 0 rfl) ?_
    refine gC_X3_23_text E hw dX3_read_82 ?_
    exact hret _ _ _ _ _ _ ⟨_, _, _, _, _, _, _, _, _, _, _, _, _, _, rfl, h⟩ hw dX3_read_85
  have L17 : ∀ (n : Nat) (x3 : Int32) (f_reader_greatestSource : Int32) (f_reader_place : Int32) (f_spare_chips : Int32) (f_spare_clocks : Nat → Int32) (f_spare_firstPins : Int32) (f_spare_firstPlaces : Int32) (f_spare_firsts : Nat → Int32) (f_spare_gates : Int32) (f_spare_inputs : Int32) (f_spare_kinds : Nat → Int32) (f_spare_registers : Int32) (f_spare_seconds : Nat → Int32) (f_spare_slowRegisters : Int32) (f_spare_sourceSets : Nat → Int32) (H : Heap) (locs : List Loc) (ls : Array Slot), wp_X3_read_h17 f_text_length f_text_letters Q  n x3 f_reader_greatestSource f_reader_place f_spare_chips f_spare_clocks f_spare_firstPins f_spare_firstPlaces f_spare_firsts f_spare_gates f_spare_inputs f_spare_kinds f_spare_registers f_spare_seconds f_spare_slowRegisters f_spare_sourceSets → gW D s A (wC ad cI cZ f_keptSlots f_trace f_lastSeed f_text_letters f_text_length f_reader_place f_reader_greatestSource f_plan_chips f_plan_firstPins f_plan_firstPlaces f_plan_gates f_plan_inputs f_plan_registers f_plan_slowRegisters f_plan_kinds f_plan_firsts f_plan_seconds f_plan_clocks f_plan_sourceSets f_spare_chips f_spare_firstPins f_spare_firstPlaces f_spare_gates f_spare_inputs f_spare_registers f_spare_slowRegisters f_spare_kinds f_spare_firsts f_spare_seconds f_spare_clocks f_spare_sourceSets f_now_ones f_now_unknowns f_now_places f_now_pins f_now_count f_copy_ones f_copy_unknowns f_copy_places f_copy_pins f_copy_count f_logic_ones f_logic_unknowns f_logic_settled f_sched_available f_sched_wanted f_sched_coming f_sched_waiting f_sched_taken f_sched_sent f_sched_lastSent f_hist_next f_hist_held f_ring_cells f_kept_cells f_sight_steps f_sight_gates f_sight_values f_sight_truths f_sight_held X) H locs → lv_has ls 5 [(0, .ref (ad 30)), (1, .ref (ad 32)), (2, .ref (ad 23)), (3, .int x3)] → W p l e ({ frames := 4, cells := 0, slots := 0, locals := 86 } : Room) s m args below meth c H locs 0 0 Z (F0 m 17 ls []) := by
    intro n
    induction n with
    | zero => intro x3 f_reader_greatestSource f_reader_place f_spare_chips f_spare_clocks f_spare_firstPins f_spare_firstPlaces f_spare_firsts f_spare_gates f_spare_inputs f_spare_kinds f_spare_registers f_spare_seconds f_spare_slowRegisters f_spare_sourceSets H locs ls h; exact False.elim h
    | succ n17 ih17 =>
      intro x3 f_reader_greatestSource f_reader_place f_spare_chips f_spare_clocks f_spare_firstPins f_spare_firstPlaces f_spare_firsts f_spare_gates f_spare_inputs f_spare_kinds f_spare_registers f_spare_seconds f_spare_slowRegisters f_spare_sourceSets H locs ls h hw hl
      have h : wp_X3_read_b17 f_text_length f_text_letters Q (wp_X3_read_h17 f_text_length f_text_letters Q  n17) x3 f_reader_greatestSource f_reader_place f_spare_chips f_spare_clocks f_spare_firstPins f_spare_firstPlaces f_spare_firsts f_spare_gates f_spare_inputs f_spare_kinds f_spare_registers f_spare_seconds f_spare_slowRegisters f_spare_sourceSets := h
      unfold wp_X3_read_b17 at h
      refine lv_iload_n hx hb dX3_read_17 rfl (lv_at hl 3 rfl) ?_
      refine lv_aload_n hx hb dX3_read_18 rfl (lv_at hl 1 rfl) ?_
      refine gC_X3_23_text E hw dX3_read_19 ?_
      refine lv_icmp_ge (tgt := 57) hx hb dX3_read_22 (by decide) (fun c1 => ?_) (fun c1 => ?_)
      · have h := h.1 c1
        refine lv_aload_n hx hb dX3_read_57 rfl (lv_at hl 0 rfl) ?_
        refine gC_X3_11_reader E hw dX3_read_58 ?_
        refine lv_iconst (v := 3) hx hb dX3_read_61 (by decide) ?_
        refine lv_icmp_ne (tgt := 81) hx hb dX3_read_62 (by decide) (fun c2 => ?_) (fun c2 => ?_)
        · have h := h.1 c2
          exact J81 f_reader_greatestSource f_reader_place f_spare_chips f_spare_clocks f_spare_firstPins f_spare_firstPlaces f_spare_firsts f_spare_gates f_spare_inputs f_spare_kinds f_spare_registers f_spare_seconds f_spare_slowRegisters f_spare_sourceSets _ _ _ h hw (lv_sub hl [1] rfl)
        · have h := h.2 c2
          refine lv_aload_n hx hb dX3_read_65 rfl (lv_at hl 0 rfl) ?_
          refine gC_X3_15_reader E hw dX3_read_66 ?_
          refine lv_aload_n hx hb dX3_read_69 rfl (lv_at hl 2 rfl) ?_
          refine gC_X3_40_spare E hw dX3_read_70 ?_
          refine lv_icmp_ge (tgt := 81) hx hb dX3_read_73 (by decide) (fun c3 => ?_) (fun c3 => ?_)
          · have h := h.1 c3
            exact J81 f_reader_greatestSource f_reader_place f_spare_chips f_spare_clocks f_spare_firstPins f_spare_firstPlaces f_spare_firsts f_spare_gates f_spare_inputs f_spare_kinds f_spare_registers f_spare_seconds f_spare_slowRegisters f_spare_sourceSets _ _ _ h hw (lv_sub hl [1] rfl)
          · have h := h.2 c3
            refine lv_bipush (v := -9) hx hb dX3_read_76 (by decide) ?_
            refine lv_goto (tgt := 85) hx hb dX3_read_78 (by decide) ?_
            exact hret _ _ _ _ _ _ ⟨_, _, _, _, _, _, _, _, _, _, _, _, _, _, rfl, h⟩ hw dX3_read_85
      · have h := h.2 c1
        refine lv_aload_n hx hb dX3_read_25 rfl (lv_at hl 1 rfl) ?_
        refine lv_iload_n hx hb dX3_read_26 rfl (lv_at hl 3 rfl) ?_
        refine g_aI E hw (g_rV E hw (c_X8_letterAt h _) ym_X8_letterAt k_203 ⟨rfl, rfl⟩ ⟨Nat.le_of_ble_eq_true rfl, Nat.le_of_ble_eq_true rfl⟩ 32 rfl rfl rfl rfl hl.1 rfl (Nat.le_of_ble_eq_true rfl) ⟨Nat.zero_le _, Nat.zero_le _⟩ dX3_read_27) (fun r4 u H locs hq hw => ?_)
        obtain ⟨hu, h⟩ := hq
        rw [hu] at hw
        refine lv_istore (lv' := [(4, .int r4), (0, .ref (ad 30)), (1, .ref (ad 32)), (2, .ref (ad 23)), (3, .int x3)]) hx hb dX3_read_30 hl (by decide) rfl (fun ls hl => ?_)
        refine lv_aload_n hx hb dX3_read_32 rfl (lv_at hl 1 rfl) ?_
        refine lv_iload hx hb dX3_read_33 (lv_at hl 0 rfl) ?_
        refine lv_aload_n hx hb dX3_read_35 rfl (lv_at hl 3 rfl) ?_
        refine g_aI E hw (g_rV E hw (c_X3_fits_spare h _) ym_X3_fits k_209 ⟨rfl, rfl⟩ ⟨Nat.le_of_ble_eq_true rfl, Nat.le_of_ble_eq_true rfl⟩ 30 rfl rfl rfl rfl hl.1 rfl (Nat.le_of_ble_eq_true rfl) ⟨Nat.zero_le _, Nat.zero_le _⟩ dX3_read_36) (fun r5 u H locs hq hw => ?_)
        obtain ⟨hu, h⟩ := hq
        rw [hu] at hw
        refine lv_if_ne (tgt := 44) hx hb dX3_read_39 (by decide) (fun c6 => ?_) (fun c6 => ?_)
        · have h := h.1 c6
          refine lv_aload_n hx hb dX3_read_44 rfl (lv_at hl 1 rfl) ?_
          refine lv_iload hx hb dX3_read_45 (lv_at hl 0 rfl) ?_
          refine lv_aload_n hx hb dX3_read_47 rfl (lv_at hl 3 rfl) ?_
          refine g_aV E hw (g_rV E hw (c_X3_take_spare h _) ym_X3_take k_217 ⟨rfl, rfl⟩ ⟨Nat.le_of_ble_eq_true rfl, Nat.le_of_ble_eq_true rfl⟩ 30 rfl rfl rfl rfl hl.1 rfl (Nat.le_of_ble_eq_true rfl) ⟨Nat.zero_le _, Nat.zero_le _⟩ dX3_read_48) (fun u H locs hq hw => ?_)
          obtain ⟨y8, y9, y10, y11, y12, y13, y14, y15, y16, y17, y18, y19, y20, y21, hu, h⟩ := hq
          rw [hu] at hw
          obtain ⟨v22, ev22⟩ : ∃ y : Int32, y = x3 + 1 := ⟨_, rfl⟩
          have h := h v22 ev22
          refine lv_iinc (v := v22) (lv' := [(3, .int v22), (4, .int r4), (0, .ref (ad 30)), (1, .ref (ad 32)), (2, .ref (ad 23))]) hx hb dX3_read_51 hl (k := 4) rfl (by rw [ev22]; rfl) (by decide) rfl (fun ls hl => ?_)
          refine lv_goto (tgt := 17) hx hb dX3_read_54 (by decide) ?_
          exact ih17 v22 y8 y9 y10 y11 y12 y13 y14 y15 y16 y17 y18 y19 y20 y21 _ _ _ h hw (lv_sub hl [2, 3, 4, 0] rfl)
        · have h := h.2 c6
          refine lv_iload_n hx hb dX3_read_42 rfl (lv_at hl 4 rfl) ?_
          exact hret _ _ _ _ _ _ ⟨_, _, _, _, _, _, _, _, _, _, _, _, _, _, rfl, h⟩ hw dX3_read_43
  unfold wp_X3_read at h
  refine lv_aload_n hx hb dX3_read_0 rfl (lv_at hl 0 rfl) ?_
  refine lv_iconst (v := 0) hx hb dX3_read_1 (by decide) ?_
  refine pC_X3_11_reader E hw dX3_read_2 (fun H locs hw => ?_)
  refine lv_aload_n hx hb dX3_read_5 rfl (lv_at hl 0 rfl) ?_
  refine lv_bipush (v := -9) hx hb dX3_read_6 (by decide) ?_
  refine pC_X3_15_reader E hw dX3_read_8 (fun H locs hw => ?_)
  refine lv_aload_n hx hb dX3_read_11 rfl (lv_at hl 2 rfl) ?_
  refine g_aV E hw (g_rV E hw (c_X2_clear_spare h _) ym_X2_clear k_199 ⟨rfl, rfl⟩ ⟨Nat.le_of_ble_eq_true rfl, Nat.le_of_ble_eq_true rfl⟩ 23 rfl rfl rfl rfl hl.1 rfl (Nat.le_of_ble_eq_true rfl) ⟨Nat.zero_le _, Nat.zero_le _⟩ dX3_read_12) (fun u H locs hq hw => ?_)
  obtain ⟨y24, y25, y26, y27, y28, y29, y30, hu, h⟩ := hq
  rw [hu] at hw
  refine lv_iconst (v := 0) hx hb dX3_read_15 (by decide) ?_
  refine lv_istore_n (lv' := [(3, .int (0 : Int32)), (0, .ref (ad 30)), (1, .ref (ad 32)), (2, .ref (ad 23))]) hx hb dX3_read_16 rfl hl (by decide) rfl (fun ls hl => ?_)
  obtain ⟨n, h⟩ := h
  exact L17 n (0 : Int32) (-9 : Int32) (0 : Int32) y24 f_spare_clocks y25 y26 f_spare_firsts y27 y28 f_spare_kinds y29 f_spare_seconds y30 f_spare_sourceSets _ _ _ h hw (lv_sub hl [1, 2, 3, 0] rfl)
set_option maxRecDepth 100000 in
set_option maxHeartbeats 4000000 in
theorem c_X2_kindOf_plan {l : Launch} {D : va_G} {cI cZ : ClassId} {ad : Nat → Nat} {f_keptSlots : Int32} {f_trace : Nat → Int32} {f_lastSeed : Int64} {f_text_letters : Nat → Int32} {f_text_length : Int32} {f_reader_place : Int32} {f_reader_greatestSource : Int32} {f_plan_chips : Int32} {f_plan_firstPins : Int32} {f_plan_firstPlaces : Int32} {f_plan_gates : Int32} {f_plan_inputs : Int32} {f_plan_registers : Int32} {f_plan_slowRegisters : Int32} {f_plan_kinds : Nat → Int32} {f_plan_firsts : Nat → Int32} {f_plan_seconds : Nat → Int32} {f_plan_clocks : Nat → Int32} {f_plan_sourceSets : Nat → Int32} {f_spare_chips : Int32} {f_spare_firstPins : Int32} {f_spare_firstPlaces : Int32} {f_spare_gates : Int32} {f_spare_inputs : Int32} {f_spare_registers : Int32} {f_spare_slowRegisters : Int32} {f_spare_kinds : Nat → Int32} {f_spare_firsts : Nat → Int32} {f_spare_seconds : Nat → Int32} {f_spare_clocks : Nat → Int32} {f_spare_sourceSets : Nat → Int32} {f_now_ones : Int32} {f_now_unknowns : Int32} {f_now_places : Int32} {f_now_pins : Int32} {f_now_count : Int32} {f_copy_ones : Int32} {f_copy_unknowns : Int32} {f_copy_places : Int32} {f_copy_pins : Int32} {f_copy_count : Int32} {f_logic_ones : Int32} {f_logic_unknowns : Int32} {f_logic_settled : Int32} {f_sched_available : Nat → Int32} {f_sched_wanted : Nat → Int32} {f_sched_coming : Nat → Int32} {f_sched_waiting : Int32} {f_sched_taken : Int32} {f_sched_sent : Int32} {f_sched_lastSent : Int32} {f_hist_next : Int32} {f_hist_held : Int32} {f_ring_cells : Nat → Int32} {f_kept_cells : Nat → Int32} {f_sight_steps : Nat → Int32} {f_sight_gates : Nat → Int32} {f_sight_values : Nat → Int32} {f_sight_truths : Nat → Int32} {f_sight_held : Int32} {X : va_W} {p1 : Int32} {Q : Int32 → Prop} (h : wp_X2_kindOf f_plan_kinds p1 Q) : CtI l yX2_kindOf cX2_kindOf 2 (some .int) ({ frames := 1, cells := 0, slots := 0, locals := 21 } : Room) D [(cI, .int), (cZ, .boolean)] [.ref (ad 29), .int p1] (wC ad cI cZ f_keptSlots f_trace f_lastSeed f_text_letters f_text_length f_reader_place f_reader_greatestSource f_plan_chips f_plan_firstPins f_plan_firstPlaces f_plan_gates f_plan_inputs f_plan_registers f_plan_slowRegisters f_plan_kinds f_plan_firsts f_plan_seconds f_plan_clocks f_plan_sourceSets f_spare_chips f_spare_firstPins f_spare_firstPlaces f_spare_gates f_spare_inputs f_spare_registers f_spare_slowRegisters f_spare_kinds f_spare_firsts f_spare_seconds f_spare_clocks f_spare_sourceSets f_now_ones f_now_unknowns f_now_places f_now_pins f_now_count f_copy_ones f_copy_unknowns f_copy_places f_copy_pins f_copy_count f_logic_ones f_logic_unknowns f_logic_settled f_sched_available f_sched_wanted f_sched_coming f_sched_waiting f_sched_taken f_sched_sent f_sched_lastSent f_hist_next f_hist_held f_ring_cells f_kept_cells f_sight_steps f_sight_gates f_sight_values f_sight_truths f_sight_held X) (fun r u => u = (wC ad cI cZ f_keptSlots f_trace f_lastSeed f_text_letters f_text_length f_reader_place f_reader_greatestSource f_plan_chips f_plan_firstPins f_plan_firstPlaces f_plan_gates f_plan_inputs f_plan_registers f_plan_slowRegisters f_plan_kinds f_plan_firsts f_plan_seconds f_plan_clocks f_plan_sourceSets f_spare_chips f_spare_firstPins f_spare_firstPlaces f_spare_gates f_spare_inputs f_spare_registers f_spare_slowRegisters f_spare_kinds f_spare_firsts f_spare_seconds f_spare_clocks f_spare_sourceSets f_now_ones f_now_unknowns f_now_places f_now_pins f_now_count f_copy_ones f_copy_unknowns f_copy_places f_copy_pins f_copy_count f_logic_ones f_logic_unknowns f_logic_settled f_sched_available f_sched_wanted f_sched_coming f_sched_waiting f_sched_taken f_sched_sent f_sched_lastSent f_hist_next f_hist_held f_ring_cells f_kept_cells f_sight_steps f_sight_gates f_sight_values f_sight_truths f_sight_held X) ∧ Q r) := by
  refine CtI.of (by decide) rfl (Nat.le_of_ble_eq_true rfl) ?_
  intro p e s m args below meth c A Z E hret ls hl hw
  have E : gE p m c cX2_kindOf 2 s args RX2 D [(cI, .int), (cZ, .boolean)] A := E
  have hx := E.1.1
  have hb := E.1.2.1
  have hl : lv_has ls 2 [(0, .ref (ad 29)), (1, .int p1)] := hl
  unfold wp_X2_kindOf at h
  refine lv_aload_n hx hb dX2_kindOf_0 rfl (lv_at hl 0 rfl) ?_
  refine gC_X2_33_plan E hw dX2_kindOf_1 ?_
  refine lv_iload_n hx hb dX2_kindOf_4 rfl (lv_at hl 1 rfl) ?_
  refine g_aI E hw (g_rSN E hw (c_X9_cell (q0 := 28) rfl h _) ym_X9_cell km_14 ⟨rfl, rfl⟩ ⟨Nat.le_of_ble_eq_true rfl, Nat.le_of_ble_eq_true rfl⟩ rfl hl.1 rfl (Nat.le_of_ble_eq_true rfl) ⟨Nat.zero_le _, Nat.zero_le _⟩ dX2_kindOf_5) (fun r1 u H locs hq hw => ?_)
  obtain ⟨hu, h⟩ := hq
  rw [hu] at hw
  exact hret _ _ _ _ _ _ ⟨rfl, h⟩ hw dX2_kindOf_8
set_option maxRecDepth 100000 in
set_option maxHeartbeats 4000000 in
theorem c_X2_firstOf_plan {l : Launch} {D : va_G} {cI cZ : ClassId} {ad : Nat → Nat} {f_keptSlots : Int32} {f_trace : Nat → Int32} {f_lastSeed : Int64} {f_text_letters : Nat → Int32} {f_text_length : Int32} {f_reader_place : Int32} {f_reader_greatestSource : Int32} {f_plan_chips : Int32} {f_plan_firstPins : Int32} {f_plan_firstPlaces : Int32} {f_plan_gates : Int32} {f_plan_inputs : Int32} {f_plan_registers : Int32} {f_plan_slowRegisters : Int32} {f_plan_kinds : Nat → Int32} {f_plan_firsts : Nat → Int32} {f_plan_seconds : Nat → Int32} {f_plan_clocks : Nat → Int32} {f_plan_sourceSets : Nat → Int32} {f_spare_chips : Int32} {f_spare_firstPins : Int32} {f_spare_firstPlaces : Int32} {f_spare_gates : Int32} {f_spare_inputs : Int32} {f_spare_registers : Int32} {f_spare_slowRegisters : Int32} {f_spare_kinds : Nat → Int32} {f_spare_firsts : Nat → Int32} {f_spare_seconds : Nat → Int32} {f_spare_clocks : Nat → Int32} {f_spare_sourceSets : Nat → Int32} {f_now_ones : Int32} {f_now_unknowns : Int32} {f_now_places : Int32} {f_now_pins : Int32} {f_now_count : Int32} {f_copy_ones : Int32} {f_copy_unknowns : Int32} {f_copy_places : Int32} {f_copy_pins : Int32} {f_copy_count : Int32} {f_logic_ones : Int32} {f_logic_unknowns : Int32} {f_logic_settled : Int32} {f_sched_available : Nat → Int32} {f_sched_wanted : Nat → Int32} {f_sched_coming : Nat → Int32} {f_sched_waiting : Int32} {f_sched_taken : Int32} {f_sched_sent : Int32} {f_sched_lastSent : Int32} {f_hist_next : Int32} {f_hist_held : Int32} {f_ring_cells : Nat → Int32} {f_kept_cells : Nat → Int32} {f_sight_steps : Nat → Int32} {f_sight_gates : Nat → Int32} {f_sight_values : Nat → Int32} {f_sight_truths : Nat → Int32} {f_sight_held : Int32} {X : va_W} {p1 : Int32} {Q : Int32 → Prop} (h : wp_X2_firstOf f_plan_firsts p1 Q) : CtI l yX2_firstOf cX2_firstOf 2 (some .int) ({ frames := 1, cells := 0, slots := 0, locals := 21 } : Room) D [(cI, .int), (cZ, .boolean)] [.ref (ad 29), .int p1] (wC ad cI cZ f_keptSlots f_trace f_lastSeed f_text_letters f_text_length f_reader_place f_reader_greatestSource f_plan_chips f_plan_firstPins f_plan_firstPlaces f_plan_gates f_plan_inputs f_plan_registers f_plan_slowRegisters f_plan_kinds f_plan_firsts f_plan_seconds f_plan_clocks f_plan_sourceSets f_spare_chips f_spare_firstPins f_spare_firstPlaces f_spare_gates f_spare_inputs f_spare_registers f_spare_slowRegisters f_spare_kinds f_spare_firsts f_spare_seconds f_spare_clocks f_spare_sourceSets f_now_ones f_now_unknowns f_now_places f_now_pins f_now_count f_copy_ones f_copy_unknowns f_copy_places f_copy_pins f_copy_count f_logic_ones f_logic_unknowns f_logic_settled f_sched_available f_sched_wanted f_sched_coming f_sched_waiting f_sched_taken f_sched_sent f_sched_lastSent f_hist_next f_hist_held f_ring_cells f_kept_cells f_sight_steps f_sight_gates f_sight_values f_sight_truths f_sight_held X) (fun r u => u = (wC ad cI cZ f_keptSlots f_trace f_lastSeed f_text_letters f_text_length f_reader_place f_reader_greatestSource f_plan_chips f_plan_firstPins f_plan_firstPlaces f_plan_gates f_plan_inputs f_plan_registers f_plan_slowRegisters f_plan_kinds f_plan_firsts f_plan_seconds f_plan_clocks f_plan_sourceSets f_spare_chips f_spare_firstPins f_spare_firstPlaces f_spare_gates f_spare_inputs f_spare_registers f_spare_slowRegisters f_spare_kinds f_spare_firsts f_spare_seconds f_spare_clocks f_spare_sourceSets f_now_ones f_now_unknowns f_now_places f_now_pins f_now_count f_copy_ones f_copy_unknowns f_copy_places f_copy_pins f_copy_count f_logic_ones f_logic_unknowns f_logic_settled f_sched_available f_sched_wanted f_sched_coming f_sched_waiting f_sched_taken f_sched_sent f_sched_lastSent f_hist_next f_hist_held f_ring_cells f_kept_cells f_sight_steps f_sight_gates f_sight_values f_sight_truths f_sight_held X) ∧ Q r) := by
  refine CtI.of (by decide) rfl (Nat.le_of_ble_eq_true rfl) ?_
  intro p e s m args below meth c A Z E hret ls hl hw
  have E : gE p m c cX2_firstOf 2 s args RX2 D [(cI, .int), (cZ, .boolean)] A := E
  have hx := E.1.1
  have hb := E.1.2.1
  have hl : lv_has ls 2 [(0, .ref (ad 29)), (1, .int p1)] := hl
  unfold wp_X2_firstOf at h
  refine lv_aload_n hx hb dX2_firstOf_0 rfl (lv_at hl 0 rfl) ?_
  refine gC_X2_37_plan E hw dX2_firstOf_1 ?_
  refine lv_iload_n hx hb dX2_firstOf_4 rfl (lv_at hl 1 rfl) ?_
  refine g_aI E hw (g_rSN E hw (c_X9_cell (q0 := 27) rfl h _) ym_X9_cell km_14 ⟨rfl, rfl⟩ ⟨Nat.le_of_ble_eq_true rfl, Nat.le_of_ble_eq_true rfl⟩ rfl hl.1 rfl (Nat.le_of_ble_eq_true rfl) ⟨Nat.zero_le _, Nat.zero_le _⟩ dX2_firstOf_5) (fun r1 u H locs hq hw => ?_)
  obtain ⟨hu, h⟩ := hq
  rw [hu] at hw
  exact hret _ _ _ _ _ _ ⟨rfl, h⟩ hw dX2_firstOf_8
set_option maxRecDepth 100000 in
set_option maxHeartbeats 4000000 in
theorem c_X2_secondOf_plan {l : Launch} {D : va_G} {cI cZ : ClassId} {ad : Nat → Nat} {f_keptSlots : Int32} {f_trace : Nat → Int32} {f_lastSeed : Int64} {f_text_letters : Nat → Int32} {f_text_length : Int32} {f_reader_place : Int32} {f_reader_greatestSource : Int32} {f_plan_chips : Int32} {f_plan_firstPins : Int32} {f_plan_firstPlaces : Int32} {f_plan_gates : Int32} {f_plan_inputs : Int32} {f_plan_registers : Int32} {f_plan_slowRegisters : Int32} {f_plan_kinds : Nat → Int32} {f_plan_firsts : Nat → Int32} {f_plan_seconds : Nat → Int32} {f_plan_clocks : Nat → Int32} {f_plan_sourceSets : Nat → Int32} {f_spare_chips : Int32} {f_spare_firstPins : Int32} {f_spare_firstPlaces : Int32} {f_spare_gates : Int32} {f_spare_inputs : Int32} {f_spare_registers : Int32} {f_spare_slowRegisters : Int32} {f_spare_kinds : Nat → Int32} {f_spare_firsts : Nat → Int32} {f_spare_seconds : Nat → Int32} {f_spare_clocks : Nat → Int32} {f_spare_sourceSets : Nat → Int32} {f_now_ones : Int32} {f_now_unknowns : Int32} {f_now_places : Int32} {f_now_pins : Int32} {f_now_count : Int32} {f_copy_ones : Int32} {f_copy_unknowns : Int32} {f_copy_places : Int32} {f_copy_pins : Int32} {f_copy_count : Int32} {f_logic_ones : Int32} {f_logic_unknowns : Int32} {f_logic_settled : Int32} {f_sched_available : Nat → Int32} {f_sched_wanted : Nat → Int32} {f_sched_coming : Nat → Int32} {f_sched_waiting : Int32} {f_sched_taken : Int32} {f_sched_sent : Int32} {f_sched_lastSent : Int32} {f_hist_next : Int32} {f_hist_held : Int32} {f_ring_cells : Nat → Int32} {f_kept_cells : Nat → Int32} {f_sight_steps : Nat → Int32} {f_sight_gates : Nat → Int32} {f_sight_values : Nat → Int32} {f_sight_truths : Nat → Int32} {f_sight_held : Int32} {X : va_W} {p1 : Int32} {Q : Int32 → Prop} (h : wp_X2_secondOf f_plan_seconds p1 Q) : CtI l yX2_secondOf cX2_secondOf 2 (some .int) ({ frames := 1, cells := 0, slots := 0, locals := 21 } : Room) D [(cI, .int), (cZ, .boolean)] [.ref (ad 29), .int p1] (wC ad cI cZ f_keptSlots f_trace f_lastSeed f_text_letters f_text_length f_reader_place f_reader_greatestSource f_plan_chips f_plan_firstPins f_plan_firstPlaces f_plan_gates f_plan_inputs f_plan_registers f_plan_slowRegisters f_plan_kinds f_plan_firsts f_plan_seconds f_plan_clocks f_plan_sourceSets f_spare_chips f_spare_firstPins f_spare_firstPlaces f_spare_gates f_spare_inputs f_spare_registers f_spare_slowRegisters f_spare_kinds f_spare_firsts f_spare_seconds f_spare_clocks f_spare_sourceSets f_now_ones f_now_unknowns f_now_places f_now_pins f_now_count f_copy_ones f_copy_unknowns f_copy_places f_copy_pins f_copy_count f_logic_ones f_logic_unknowns f_logic_settled f_sched_available f_sched_wanted f_sched_coming f_sched_waiting f_sched_taken f_sched_sent f_sched_lastSent f_hist_next f_hist_held f_ring_cells f_kept_cells f_sight_steps f_sight_gates f_sight_values f_sight_truths f_sight_held X) (fun r u => u = (wC ad cI cZ f_keptSlots f_trace f_lastSeed f_text_letters f_text_length f_reader_place f_reader_greatestSource f_plan_chips f_plan_firstPins f_plan_firstPlaces f_plan_gates f_plan_inputs f_plan_registers f_plan_slowRegisters f_plan_kinds f_plan_firsts f_plan_seconds f_plan_clocks f_plan_sourceSets f_spare_chips f_spare_firstPins f_spare_firstPlaces f_spare_gates f_spare_inputs f_spare_registers f_spare_slowRegisters f_spare_kinds f_spare_firsts f_spare_seconds f_spare_clocks f_spare_sourceSets f_now_ones f_now_unknowns f_now_places f_now_pins f_now_count f_copy_ones f_copy_unknowns f_copy_places f_copy_pins f_copy_count f_logic_ones f_logic_unknowns f_logic_settled f_sched_available f_sched_wanted f_sched_coming f_sched_waiting f_sched_taken f_sched_sent f_sched_lastSent f_hist_next f_hist_held f_ring_cells f_kept_cells f_sight_steps f_sight_gates f_sight_values f_sight_truths f_sight_held X) ∧ Q r) := by
  refine CtI.of (by decide) rfl (Nat.le_of_ble_eq_true rfl) ?_
  intro p e s m args below meth c A Z E hret ls hl hw
  have E : gE p m c cX2_secondOf 2 s args RX2 D [(cI, .int), (cZ, .boolean)] A := E
  have hx := E.1.1
  have hb := E.1.2.1
  have hl : lv_has ls 2 [(0, .ref (ad 29)), (1, .int p1)] := hl
  unfold wp_X2_secondOf at h
  refine lv_aload_n hx hb dX2_secondOf_0 rfl (lv_at hl 0 rfl) ?_
  refine gC_X2_40_plan E hw dX2_secondOf_1 ?_
  refine lv_iload_n hx hb dX2_secondOf_4 rfl (lv_at hl 1 rfl) ?_
  refine g_aI E hw (g_rSN E hw (c_X9_cell (q0 := 26) rfl h _) ym_X9_cell km_14 ⟨rfl, rfl⟩ ⟨Nat.le_of_ble_eq_true rfl, Nat.le_of_ble_eq_true rfl⟩ rfl hl.1 rfl (Nat.le_of_ble_eq_true rfl) ⟨Nat.zero_le _, Nat.zero_le _⟩ dX2_secondOf_5) (fun r1 u H locs hq hw => ?_)
  obtain ⟨hu, h⟩ := hq
  rw [hu] at hw
  exact hret _ _ _ _ _ _ ⟨rfl, h⟩ hw dX2_secondOf_8
set_option maxRecDepth 100000 in
set_option maxHeartbeats 4000000 in
theorem c_X2_clockOf_plan {l : Launch} {D : va_G} {cI cZ : ClassId} {ad : Nat → Nat} {f_keptSlots : Int32} {f_trace : Nat → Int32} {f_lastSeed : Int64} {f_text_letters : Nat → Int32} {f_text_length : Int32} {f_reader_place : Int32} {f_reader_greatestSource : Int32} {f_plan_chips : Int32} {f_plan_firstPins : Int32} {f_plan_firstPlaces : Int32} {f_plan_gates : Int32} {f_plan_inputs : Int32} {f_plan_registers : Int32} {f_plan_slowRegisters : Int32} {f_plan_kinds : Nat → Int32} {f_plan_firsts : Nat → Int32} {f_plan_seconds : Nat → Int32} {f_plan_clocks : Nat → Int32} {f_plan_sourceSets : Nat → Int32} {f_spare_chips : Int32} {f_spare_firstPins : Int32} {f_spare_firstPlaces : Int32} {f_spare_gates : Int32} {f_spare_inputs : Int32} {f_spare_registers : Int32} {f_spare_slowRegisters : Int32} {f_spare_kinds : Nat → Int32} {f_spare_firsts : Nat → Int32} {f_spare_seconds : Nat → Int32} {f_spare_clocks : Nat → Int32} {f_spare_sourceSets : Nat → Int32} {f_now_ones : Int32} {f_now_unknowns : Int32} {f_now_places : Int32} {f_now_pins : Int32} {f_now_count : Int32} {f_copy_ones : Int32} {f_copy_unknowns : Int32} {f_copy_places : Int32} {f_copy_pins : Int32} {f_copy_count : Int32} {f_logic_ones : Int32} {f_logic_unknowns : Int32} {f_logic_settled : Int32} {f_sched_available : Nat → Int32} {f_sched_wanted : Nat → Int32} {f_sched_coming : Nat → Int32} {f_sched_waiting : Int32} {f_sched_taken : Int32} {f_sched_sent : Int32} {f_sched_lastSent : Int32} {f_hist_next : Int32} {f_hist_held : Int32} {f_ring_cells : Nat → Int32} {f_kept_cells : Nat → Int32} {f_sight_steps : Nat → Int32} {f_sight_gates : Nat → Int32} {f_sight_values : Nat → Int32} {f_sight_truths : Nat → Int32} {f_sight_held : Int32} {X : va_W} {p1 : Int32} {Q : Int32 → Prop} (h : wp_X2_clockOf f_plan_clocks p1 Q) : CtI l yX2_clockOf cX2_clockOf 2 (some .int) ({ frames := 1, cells := 0, slots := 0, locals := 21 } : Room) D [(cI, .int), (cZ, .boolean)] [.ref (ad 29), .int p1] (wC ad cI cZ f_keptSlots f_trace f_lastSeed f_text_letters f_text_length f_reader_place f_reader_greatestSource f_plan_chips f_plan_firstPins f_plan_firstPlaces f_plan_gates f_plan_inputs f_plan_registers f_plan_slowRegisters f_plan_kinds f_plan_firsts f_plan_seconds f_plan_clocks f_plan_sourceSets f_spare_chips f_spare_firstPins f_spare_firstPlaces f_spare_gates f_spare_inputs f_spare_registers f_spare_slowRegisters f_spare_kinds f_spare_firsts f_spare_seconds f_spare_clocks f_spare_sourceSets f_now_ones f_now_unknowns f_now_places f_now_pins f_now_count f_copy_ones f_copy_unknowns f_copy_places f_copy_pins f_copy_count f_logic_ones f_logic_unknowns f_logic_settled f_sched_available f_sched_wanted f_sched_coming f_sched_waiting f_sched_taken f_sched_sent f_sched_lastSent f_hist_next f_hist_held f_ring_cells f_kept_cells f_sight_steps f_sight_gates f_sight_values f_sight_truths f_sight_held X) (fun r u => u = (wC ad cI cZ f_keptSlots f_trace f_lastSeed f_text_letters f_text_length f_reader_place f_reader_greatestSource f_plan_chips f_plan_firstPins f_plan_firstPlaces f_plan_gates f_plan_inputs f_plan_registers f_plan_slowRegisters f_plan_kinds f_plan_firsts f_plan_seconds f_plan_clocks f_plan_sourceSets f_spare_chips f_spare_firstPins f_spare_firstPlaces f_spare_gates f_spare_inputs f_spare_registers f_spare_slowRegisters f_spare_kinds f_spare_firsts f_spare_seconds f_spare_clocks f_spare_sourceSets f_now_ones f_now_unknowns f_now_places f_now_pins f_now_count f_copy_ones f_copy_unknowns f_copy_places f_copy_pins f_copy_count f_logic_ones f_logic_unknowns f_logic_settled f_sched_available f_sched_wanted f_sched_coming f_sched_waiting f_sched_taken f_sched_sent f_sched_lastSent f_hist_next f_hist_held f_ring_cells f_kept_cells f_sight_steps f_sight_gates f_sight_values f_sight_truths f_sight_held X) ∧ Q r) := by
  refine CtI.of (by decide) rfl (Nat.le_of_ble_eq_true rfl) ?_
  intro p e s m args below meth c A Z E hret ls hl hw
  have E : gE p m c cX2_clockOf 2 s args RX2 D [(cI, .int), (cZ, .boolean)] A := E
  have hx := E.1.1
  have hb := E.1.2.1
  have hl : lv_has ls 2 [(0, .ref (ad 29)), (1, .int p1)] := hl
  unfold wp_X2_clockOf at h
  refine lv_aload_n hx hb dX2_clockOf_0 rfl (lv_at hl 0 rfl) ?_
  refine gC_X2_43_plan E hw dX2_clockOf_1 ?_
  refine lv_iload_n hx hb dX2_clockOf_4 rfl (lv_at hl 1 rfl) ?_
  refine g_aI E hw (g_rSN E hw (c_X9_cell (q0 := 25) rfl h _) ym_X9_cell km_14 ⟨rfl, rfl⟩ ⟨Nat.le_of_ble_eq_true rfl, Nat.le_of_ble_eq_true rfl⟩ rfl hl.1 rfl (Nat.le_of_ble_eq_true rfl) ⟨Nat.zero_le _, Nat.zero_le _⟩ dX2_clockOf_5) (fun r1 u H locs hq hw => ?_)
  obtain ⟨hu, h⟩ := hq
  rw [hu] at hw
  exact hret _ _ _ _ _ _ ⟨rfl, h⟩ hw dX2_clockOf_8
set_option maxRecDepth 100000 in
set_option maxHeartbeats 4000000 in
theorem c_X2_all_plan {l : Launch} {D : va_G} {cI cZ : ClassId} {ad : Nat → Nat} {f_keptSlots : Int32} {f_trace : Nat → Int32} {f_lastSeed : Int64} {f_text_letters : Nat → Int32} {f_text_length : Int32} {f_reader_place : Int32} {f_reader_greatestSource : Int32} {f_plan_chips : Int32} {f_plan_firstPins : Int32} {f_plan_firstPlaces : Int32} {f_plan_gates : Int32} {f_plan_inputs : Int32} {f_plan_registers : Int32} {f_plan_slowRegisters : Int32} {f_plan_kinds : Nat → Int32} {f_plan_firsts : Nat → Int32} {f_plan_seconds : Nat → Int32} {f_plan_clocks : Nat → Int32} {f_plan_sourceSets : Nat → Int32} {f_spare_chips : Int32} {f_spare_firstPins : Int32} {f_spare_firstPlaces : Int32} {f_spare_gates : Int32} {f_spare_inputs : Int32} {f_spare_registers : Int32} {f_spare_slowRegisters : Int32} {f_spare_kinds : Nat → Int32} {f_spare_firsts : Nat → Int32} {f_spare_seconds : Nat → Int32} {f_spare_clocks : Nat → Int32} {f_spare_sourceSets : Nat → Int32} {f_now_ones : Int32} {f_now_unknowns : Int32} {f_now_places : Int32} {f_now_pins : Int32} {f_now_count : Int32} {f_copy_ones : Int32} {f_copy_unknowns : Int32} {f_copy_places : Int32} {f_copy_pins : Int32} {f_copy_count : Int32} {f_logic_ones : Int32} {f_logic_unknowns : Int32} {f_logic_settled : Int32} {f_sched_available : Nat → Int32} {f_sched_wanted : Nat → Int32} {f_sched_coming : Nat → Int32} {f_sched_waiting : Int32} {f_sched_taken : Int32} {f_sched_sent : Int32} {f_sched_lastSent : Int32} {f_hist_next : Int32} {f_hist_held : Int32} {f_ring_cells : Nat → Int32} {f_kept_cells : Nat → Int32} {f_sight_steps : Nat → Int32} {f_sight_gates : Nat → Int32} {f_sight_values : Nat → Int32} {f_sight_truths : Nat → Int32} {f_sight_held : Int32} {X : va_W} {Q : Int32 → Prop} (h : wp_X2_all f_plan_gates Q) : CtI l yX2_all cX2_all 1 (some .int) ({ frames := 0, cells := 0, slots := 0, locals := 0 } : Room) D [(cI, .int), (cZ, .boolean)] [.ref (ad 29)] (wC ad cI cZ f_keptSlots f_trace f_lastSeed f_text_letters f_text_length f_reader_place f_reader_greatestSource f_plan_chips f_plan_firstPins f_plan_firstPlaces f_plan_gates f_plan_inputs f_plan_registers f_plan_slowRegisters f_plan_kinds f_plan_firsts f_plan_seconds f_plan_clocks f_plan_sourceSets f_spare_chips f_spare_firstPins f_spare_firstPlaces f_spare_gates f_spare_inputs f_spare_registers f_spare_slowRegisters f_spare_kinds f_spare_firsts f_spare_seconds f_spare_clocks f_spare_sourceSets f_now_ones f_now_unknowns f_now_places f_now_pins f_now_count f_copy_ones f_copy_unknowns f_copy_places f_copy_pins f_copy_count f_logic_ones f_logic_unknowns f_logic_settled f_sched_available f_sched_wanted f_sched_coming f_sched_waiting f_sched_taken f_sched_sent f_sched_lastSent f_hist_next f_hist_held f_ring_cells f_kept_cells f_sight_steps f_sight_gates f_sight_values f_sight_truths f_sight_held X) (fun r u => u = (wC ad cI cZ f_keptSlots f_trace f_lastSeed f_text_letters f_text_length f_reader_place f_reader_greatestSource f_plan_chips f_plan_firstPins f_plan_firstPlaces f_plan_gates f_plan_inputs f_plan_registers f_plan_slowRegisters f_plan_kinds f_plan_firsts f_plan_seconds f_plan_clocks f_plan_sourceSets f_spare_chips f_spare_firstPins f_spare_firstPlaces f_spare_gates f_spare_inputs f_spare_registers f_spare_slowRegisters f_spare_kinds f_spare_firsts f_spare_seconds f_spare_clocks f_spare_sourceSets f_now_ones f_now_unknowns f_now_places f_now_pins f_now_count f_copy_ones f_copy_unknowns f_copy_places f_copy_pins f_copy_count f_logic_ones f_logic_unknowns f_logic_settled f_sched_available f_sched_wanted f_sched_coming f_sched_waiting f_sched_taken f_sched_sent f_sched_lastSent f_hist_next f_hist_held f_ring_cells f_kept_cells f_sight_steps f_sight_gates f_sight_values f_sight_truths f_sight_held X) ∧ Q r) := by
  refine CtI.of (by decide) rfl (Nat.le_of_ble_eq_true rfl) ?_
  intro p e s m args below meth c A Z E hret ls hl hw
  have E : gE p m c cX2_all 1 s args RX2 D [(cI, .int), (cZ, .boolean)] A := E
  have hx := E.1.1
  have hb := E.1.2.1
  have hl : lv_has ls 1 [(0, .ref (ad 29))] := hl
  unfold wp_X2_all at h
  refine lv_iconst (v := 1) hx hb dX2_all_0 (by decide) ?_
  refine lv_aload_n hx hb dX2_all_1 rfl (lv_at hl 0 rfl) ?_
  refine gC_X2_21_plan E hw dX2_all_2 ?_
  refine lv_ishl hx hb dX2_all_5 ?_
  refine lv_iconst (v := 1) hx hb dX2_all_6 (by decide) ?_
  refine lv_isub hx hb dX2_all_7 ?_
  exact hret _ _ _ _ _ _ ⟨rfl, h⟩ hw dX2_all_8
set_option maxRecDepth 100000 in
set_option maxHeartbeats 4000000 in
theorem c_X2_sourcesOf_plan {l : Launch} {D : va_G} {cI cZ : ClassId} {ad : Nat → Nat} {f_keptSlots : Int32} {f_trace : Nat → Int32} {f_lastSeed : Int64} {f_text_letters : Nat → Int32} {f_text_length : Int32} {f_reader_place : Int32} {f_reader_greatestSource : Int32} {f_plan_chips : Int32} {f_plan_firstPins : Int32} {f_plan_firstPlaces : Int32} {f_plan_gates : Int32} {f_plan_inputs : Int32} {f_plan_registers : Int32} {f_plan_slowRegisters : Int32} {f_plan_kinds : Nat → Int32} {f_plan_firsts : Nat → Int32} {f_plan_seconds : Nat → Int32} {f_plan_clocks : Nat → Int32} {f_plan_sourceSets : Nat → Int32} {f_spare_chips : Int32} {f_spare_firstPins : Int32} {f_spare_firstPlaces : Int32} {f_spare_gates : Int32} {f_spare_inputs : Int32} {f_spare_registers : Int32} {f_spare_slowRegisters : Int32} {f_spare_kinds : Nat → Int32} {f_spare_firsts : Nat → Int32} {f_spare_seconds : Nat → Int32} {f_spare_clocks : Nat → Int32} {f_spare_sourceSets : Nat → Int32} {f_now_ones : Int32} {f_now_unknowns : Int32} {f_now_places : Int32} {f_now_pins : Int32} {f_now_count : Int32} {f_copy_ones : Int32} {f_copy_unknowns : Int32} {f_copy_places : Int32} {f_copy_pins : Int32} {f_copy_count : Int32} {f_logic_ones : Int32} {f_logic_unknowns : Int32} {f_logic_settled : Int32} {f_sched_available : Nat → Int32} {f_sched_wanted : Nat → Int32} {f_sched_coming : Nat → Int32} {f_sched_waiting : Int32} {f_sched_taken : Int32} {f_sched_sent : Int32} {f_sched_lastSent : Int32} {f_hist_next : Int32} {f_hist_held : Int32} {f_ring_cells : Nat → Int32} {f_kept_cells : Nat → Int32} {f_sight_steps : Nat → Int32} {f_sight_gates : Nat → Int32} {f_sight_values : Nat → Int32} {f_sight_truths : Nat → Int32} {f_sight_held : Int32} {X : va_W} {p1 : Int32} {Q : Int32 → Prop} (h : wp_X2_sourcesOf f_plan_sourceSets p1 Q) : CtI l yX2_sourcesOf cX2_sourcesOf 2 (some .int) ({ frames := 1, cells := 0, slots := 0, locals := 21 } : Room) D [(cI, .int), (cZ, .boolean)] [.ref (ad 29), .int p1] (wC ad cI cZ f_keptSlots f_trace f_lastSeed f_text_letters f_text_length f_reader_place f_reader_greatestSource f_plan_chips f_plan_firstPins f_plan_firstPlaces f_plan_gates f_plan_inputs f_plan_registers f_plan_slowRegisters f_plan_kinds f_plan_firsts f_plan_seconds f_plan_clocks f_plan_sourceSets f_spare_chips f_spare_firstPins f_spare_firstPlaces f_spare_gates f_spare_inputs f_spare_registers f_spare_slowRegisters f_spare_kinds f_spare_firsts f_spare_seconds f_spare_clocks f_spare_sourceSets f_now_ones f_now_unknowns f_now_places f_now_pins f_now_count f_copy_ones f_copy_unknowns f_copy_places f_copy_pins f_copy_count f_logic_ones f_logic_unknowns f_logic_settled f_sched_available f_sched_wanted f_sched_coming f_sched_waiting f_sched_taken f_sched_sent f_sched_lastSent f_hist_next f_hist_held f_ring_cells f_kept_cells f_sight_steps f_sight_gates f_sight_values f_sight_truths f_sight_held X) (fun r u => u = (wC ad cI cZ f_keptSlots f_trace f_lastSeed f_text_letters f_text_length f_reader_place f_reader_greatestSource f_plan_chips f_plan_firstPins f_plan_firstPlaces f_plan_gates f_plan_inputs f_plan_registers f_plan_slowRegisters f_plan_kinds f_plan_firsts f_plan_seconds f_plan_clocks f_plan_sourceSets f_spare_chips f_spare_firstPins f_spare_firstPlaces f_spare_gates f_spare_inputs f_spare_registers f_spare_slowRegisters f_spare_kinds f_spare_firsts f_spare_seconds f_spare_clocks f_spare_sourceSets f_now_ones f_now_unknowns f_now_places f_now_pins f_now_count f_copy_ones f_copy_unknowns f_copy_places f_copy_pins f_copy_count f_logic_ones f_logic_unknowns f_logic_settled f_sched_available f_sched_wanted f_sched_coming f_sched_waiting f_sched_taken f_sched_sent f_sched_lastSent f_hist_next f_hist_held f_ring_cells f_kept_cells f_sight_steps f_sight_gates f_sight_values f_sight_truths f_sight_held X) ∧ Q r) := by
  refine CtI.of (by decide) rfl (Nat.le_of_ble_eq_true rfl) ?_
  intro p e s m args below meth c A Z E hret ls hl hw
  have E : gE p m c cX2_sourcesOf 2 s args RX2 D [(cI, .int), (cZ, .boolean)] A := E
  have hx := E.1.1
  have hb := E.1.2.1
  have hl : lv_has ls 2 [(0, .ref (ad 29)), (1, .int p1)] := hl
  unfold wp_X2_sourcesOf at h
  refine lv_aload_n hx hb dX2_sourcesOf_0 rfl (lv_at hl 0 rfl) ?_
  refine gC_X2_46_plan E hw dX2_sourcesOf_1 ?_
  refine lv_iload_n hx hb dX2_sourcesOf_4 rfl (lv_at hl 1 rfl) ?_
  refine g_aI E hw (g_rSN E hw (c_X9_cell (q0 := 24) rfl h _) ym_X9_cell km_14 ⟨rfl, rfl⟩ ⟨Nat.le_of_ble_eq_true rfl, Nat.le_of_ble_eq_true rfl⟩ rfl hl.1 rfl (Nat.le_of_ble_eq_true rfl) ⟨Nat.zero_le _, Nat.zero_le _⟩ dX2_sourcesOf_5) (fun r1 u H locs hq hw => ?_)
  obtain ⟨hu, h⟩ := hq
  rw [hu] at hw
  exact hret _ _ _ _ _ _ ⟨rfl, h⟩ hw dX2_sourcesOf_8
set_option maxRecDepth 100000 in
set_option maxHeartbeats 4000000 in
theorem c_X2_storing_plan {l : Launch} {D : va_G} {cI cZ : ClassId} {ad : Nat → Nat} {f_keptSlots : Int32} {f_trace : Nat → Int32} {f_lastSeed : Int64} {f_text_letters : Nat → Int32} {f_text_length : Int32} {f_reader_place : Int32} {f_reader_greatestSource : Int32} {f_plan_chips : Int32} {f_plan_firstPins : Int32} {f_plan_firstPlaces : Int32} {f_plan_gates : Int32} {f_plan_inputs : Int32} {f_plan_registers : Int32} {f_plan_slowRegisters : Int32} {f_plan_kinds : Nat → Int32} {f_plan_firsts : Nat → Int32} {f_plan_seconds : Nat → Int32} {f_plan_clocks : Nat → Int32} {f_plan_sourceSets : Nat → Int32} {f_spare_chips : Int32} {f_spare_firstPins : Int32} {f_spare_firstPlaces : Int32} {f_spare_gates : Int32} {f_spare_inputs : Int32} {f_spare_registers : Int32} {f_spare_slowRegisters : Int32} {f_spare_kinds : Nat → Int32} {f_spare_firsts : Nat → Int32} {f_spare_seconds : Nat → Int32} {f_spare_clocks : Nat → Int32} {f_spare_sourceSets : Nat → Int32} {f_now_ones : Int32} {f_now_unknowns : Int32} {f_now_places : Int32} {f_now_pins : Int32} {f_now_count : Int32} {f_copy_ones : Int32} {f_copy_unknowns : Int32} {f_copy_places : Int32} {f_copy_pins : Int32} {f_copy_count : Int32} {f_logic_ones : Int32} {f_logic_unknowns : Int32} {f_logic_settled : Int32} {f_sched_available : Nat → Int32} {f_sched_wanted : Nat → Int32} {f_sched_coming : Nat → Int32} {f_sched_waiting : Int32} {f_sched_taken : Int32} {f_sched_sent : Int32} {f_sched_lastSent : Int32} {f_hist_next : Int32} {f_hist_held : Int32} {f_ring_cells : Nat → Int32} {f_kept_cells : Nat → Int32} {f_sight_steps : Nat → Int32} {f_sight_gates : Nat → Int32} {f_sight_values : Nat → Int32} {f_sight_truths : Nat → Int32} {f_sight_held : Int32} {X : va_W} {Q : Int32 → Prop} (h : wp_X2_storing f_plan_inputs f_plan_registers Q) : CtI l yX2_storing cX2_storing 1 (some .int) ({ frames := 0, cells := 0, slots := 0, locals := 0 } : Room) D [(cI, .int), (cZ, .boolean)] [.ref (ad 29)] (wC ad cI cZ f_keptSlots f_trace f_lastSeed f_text_letters f_text_length f_reader_place f_reader_greatestSource f_plan_chips f_plan_firstPins f_plan_firstPlaces f_plan_gates f_plan_inputs f_plan_registers f_plan_slowRegisters f_plan_kinds f_plan_firsts f_plan_seconds f_plan_clocks f_plan_sourceSets f_spare_chips f_spare_firstPins f_spare_firstPlaces f_spare_gates f_spare_inputs f_spare_registers f_spare_slowRegisters f_spare_kinds f_spare_firsts f_spare_seconds f_spare_clocks f_spare_sourceSets f_now_ones f_now_unknowns f_now_places f_now_pins f_now_count f_copy_ones f_copy_unknowns f_copy_places f_copy_pins f_copy_count f_logic_ones f_logic_unknowns f_logic_settled f_sched_available f_sched_wanted f_sched_coming f_sched_waiting f_sched_taken f_sched_sent f_sched_lastSent f_hist_next f_hist_held f_ring_cells f_kept_cells f_sight_steps f_sight_gates f_sight_values f_sight_truths f_sight_held X) (fun r u => u = (wC ad cI cZ f_keptSlots f_trace f_lastSeed f_text_letters f_text_length f_reader_place f_reader_greatestSource f_plan_chips f_plan_firstPins f_plan_firstPlaces f_plan_gates f_plan_inputs f_plan_registers f_plan_slowRegisters f_plan_kinds f_plan_firsts f_plan_seconds f_plan_clocks f_plan_sourceSets f_spare_chips f_spare_firstPins f_spare_firstPlaces f_spare_gates f_spare_inputs f_spare_registers f_spare_slowRegisters f_spare_kinds f_spare_firsts f_spare_seconds f_spare_clocks f_spare_sourceSets f_now_ones f_now_unknowns f_now_places f_now_pins f_now_count f_copy_ones f_copy_unknowns f_copy_places f_copy_pins f_copy_count f_logic_ones f_logic_unknowns f_logic_settled f_sched_available f_sched_wanted f_sched_coming f_sched_waiting f_sched_taken f_sched_sent f_sched_lastSent f_hist_next f_hist_held f_ring_cells f_kept_cells f_sight_steps f_sight_gates f_sight_values f_sight_truths f_sight_held X) ∧ Q r) := by
  refine CtI.of (by decide) rfl (Nat.le_of_ble_eq_true rfl) ?_
  intro p e s m args below meth c A Z E hret ls hl hw
  have E : gE p m c cX2_storing 1 s args RX2 D [(cI, .int), (cZ, .boolean)] A := E
  have hx := E.1.1
  have hb := E.1.2.1
  have hl : lv_has ls 1 [(0, .ref (ad 29))] := hl
  unfold wp_X2_storing at h
  refine lv_aload_n hx hb dX2_storing_0 rfl (lv_at hl 0 rfl) ?_
  refine gC_X2_24_plan E hw dX2_storing_1 ?_
  refine lv_aload_n hx hb dX2_storing_4 rfl (lv_at hl 0 rfl) ?_
  refine gC_X2_27_plan E hw dX2_storing_5 ?_
  refine lv_ior hx hb dX2_storing_8 ?_
  exact hret _ _ _ _ _ _ ⟨rfl, h⟩ hw dX2_storing_9
set_option maxRecDepth 100000 in
set_option maxHeartbeats 4000000 in
theorem c_X2_readersOf_plan {l : Launch} {D : va_G} {cI cZ : ClassId} {ad : Nat → Nat} {f_keptSlots : Int32} {f_trace : Nat → Int32} {f_lastSeed : Int64} {f_text_letters : Nat → Int32} {f_text_length : Int32} {f_reader_place : Int32} {f_reader_greatestSource : Int32} {f_plan_chips : Int32} {f_plan_firstPins : Int32} {f_plan_firstPlaces : Int32} {f_plan_gates : Int32} {f_plan_inputs : Int32} {f_plan_registers : Int32} {f_plan_slowRegisters : Int32} {f_plan_kinds : Nat → Int32} {f_plan_firsts : Nat → Int32} {f_plan_seconds : Nat → Int32} {f_plan_clocks : Nat → Int32} {f_plan_sourceSets : Nat → Int32} {f_spare_chips : Int32} {f_spare_firstPins : Int32} {f_spare_firstPlaces : Int32} {f_spare_gates : Int32} {f_spare_inputs : Int32} {f_spare_registers : Int32} {f_spare_slowRegisters : Int32} {f_spare_kinds : Nat → Int32} {f_spare_firsts : Nat → Int32} {f_spare_seconds : Nat → Int32} {f_spare_clocks : Nat → Int32} {f_spare_sourceSets : Nat → Int32} {f_now_ones : Int32} {f_now_unknowns : Int32} {f_now_places : Int32} {f_now_pins : Int32} {f_now_count : Int32} {f_copy_ones : Int32} {f_copy_unknowns : Int32} {f_copy_places : Int32} {f_copy_pins : Int32} {f_copy_count : Int32} {f_logic_ones : Int32} {f_logic_unknowns : Int32} {f_logic_settled : Int32} {f_sched_available : Nat → Int32} {f_sched_wanted : Nat → Int32} {f_sched_coming : Nat → Int32} {f_sched_waiting : Int32} {f_sched_taken : Int32} {f_sched_sent : Int32} {f_sched_lastSent : Int32} {f_hist_next : Int32} {f_hist_held : Int32} {f_ring_cells : Nat → Int32} {f_kept_cells : Nat → Int32} {f_sight_steps : Nat → Int32} {f_sight_gates : Nat → Int32} {f_sight_values : Nat → Int32} {f_sight_truths : Nat → Int32} {f_sight_held : Int32} {X : va_W} {p1 : Int32} {Q : Int32 → Prop} (h : wp_X2_readersOf f_plan_gates f_plan_sourceSets p1 Q) : CtI l yX2_readersOf cX2_readersOf 4 (some .int) ({ frames := 2, cells := 0, slots := 0, locals := 42 } : Room) D [(cI, .int), (cZ, .boolean)] [.ref (ad 29), .int p1] (wC ad cI cZ f_keptSlots f_trace f_lastSeed f_text_letters f_text_length f_reader_place f_reader_greatestSource f_plan_chips f_plan_firstPins f_plan_firstPlaces f_plan_gates f_plan_inputs f_plan_registers f_plan_slowRegisters f_plan_kinds f_plan_firsts f_plan_seconds f_plan_clocks f_plan_sourceSets f_spare_chips f_spare_firstPins f_spare_firstPlaces f_spare_gates f_spare_inputs f_spare_registers f_spare_slowRegisters f_spare_kinds f_spare_firsts f_spare_seconds f_spare_clocks f_spare_sourceSets f_now_ones f_now_unknowns f_now_places f_now_pins f_now_count f_copy_ones f_copy_unknowns f_copy_places f_copy_pins f_copy_count f_logic_ones f_logic_unknowns f_logic_settled f_sched_available f_sched_wanted f_sched_coming f_sched_waiting f_sched_taken f_sched_sent f_sched_lastSent f_hist_next f_hist_held f_ring_cells f_kept_cells f_sight_steps f_sight_gates f_sight_values f_sight_truths f_sight_held X) (fun r u => u = (wC ad cI cZ f_keptSlots f_trace f_lastSeed f_text_letters f_text_length f_reader_place f_reader_greatestSource f_plan_chips f_plan_firstPins f_plan_firstPlaces f_plan_gates f_plan_inputs f_plan_registers f_plan_slowRegisters f_plan_kinds f_plan_firsts f_plan_seconds f_plan_clocks f_plan_sourceSets f_spare_chips f_spare_firstPins f_spare_firstPlaces f_spare_gates f_spare_inputs f_spare_registers f_spare_slowRegisters f_spare_kinds f_spare_firsts f_spare_seconds f_spare_clocks f_spare_sourceSets f_now_ones f_now_unknowns f_now_places f_now_pins f_now_count f_copy_ones f_copy_unknowns f_copy_places f_copy_pins f_copy_count f_logic_ones f_logic_unknowns f_logic_settled f_sched_available f_sched_wanted f_sched_coming f_sched_waiting f_sched_taken f_sched_sent f_sched_lastSent f_hist_next f_hist_held f_ring_cells f_kept_cells f_sight_steps f_sight_gates f_sight_values f_sight_truths f_sight_held X) ∧ Q r) := by
  refine CtI.of (by decide) rfl (Nat.le_of_ble_eq_true rfl) ?_
  intro p e s m args below meth c A Z E hret ls hl hw
  have E : gE p m c cX2_readersOf 4 s args RX2 D [(cI, .int), (cZ, .boolean)] A := E
  have hx := E.1.1
  have hb := E.1.2.1
  have hl : lv_has ls 4 [(0, .ref (ad 29)), (1, .int p1)] := hl
  have L4 : ∀ (n : Nat) (x2 : Int32) (x3 : Int32) (H : Heap) (locs : List Loc) (ls : Array Slot), wp_X2_readersOf_h4 f_plan_gates f_plan_sourceSets p1 Q  n x2 x3 → gW D s A (wC ad cI cZ f_keptSlots f_trace f_lastSeed f_text_letters f_text_length f_reader_place f_reader_greatestSource f_plan_chips f_plan_firstPins f_plan_firstPlaces f_plan_gates f_plan_inputs f_plan_registers f_plan_slowRegisters f_plan_kinds f_plan_firsts f_plan_seconds f_plan_clocks f_plan_sourceSets f_spare_chips f_spare_firstPins f_spare_firstPlaces f_spare_gates f_spare_inputs f_spare_registers f_spare_slowRegisters f_spare_kinds f_spare_firsts f_spare_seconds f_spare_clocks f_spare_sourceSets f_now_ones f_now_unknowns f_now_places f_now_pins f_now_count f_copy_ones f_copy_unknowns f_copy_places f_copy_pins f_copy_count f_logic_ones f_logic_unknowns f_logic_settled f_sched_available f_sched_wanted f_sched_coming f_sched_waiting f_sched_taken f_sched_sent f_sched_lastSent f_hist_next f_hist_held f_ring_cells f_kept_cells f_sight_steps f_sight_gates f_sight_values f_sight_truths f_sight_held X) H locs → lv_has ls 4 [(0, .ref (ad 29)), (1, .int p1), (2, .int x2), (3, .int x3)] → W p l e ({ frames := 2, cells := 0, slots := 0, locals := 42 } : Room) s m args below meth c H locs 0 0 Z (F0 m 4 ls []) := by
    intro n
    induction n with
    | zero => intro x2 x3 H locs ls h; exact False.elim h
    | succ n4 ih4 =>
      intro x2 x3 H locs ls h hw hl
      have h : wp_X2_readersOf_b4 f_plan_gates f_plan_sourceSets p1 Q (wp_X2_readersOf_h4 f_plan_gates f_plan_sourceSets p1 Q  n4) x2 x3 := h
      have J32 : ∀ (x2 : Int32) (x3 : Int32) (H : Heap) (locs : List Loc) (ls : Array Slot), wp_X2_readersOf_b32 f_plan_gates f_plan_sourceSets p1 Q (wp_X2_readersOf_h4 f_plan_gates f_plan_sourceSets p1 Q  n4) x2 x3 → gW D s A (wC ad cI cZ f_keptSlots f_trace f_lastSeed f_text_letters f_text_length f_reader_place f_reader_greatestSource f_plan_chips f_plan_firstPins f_plan_firstPlaces f_plan_gates f_plan_inputs f_plan_registers f_plan_slowRegisters f_plan_kinds f_plan_firsts f_plan_seconds f_plan_clocks f_plan_sourceSets f_spare_chips f_spare_firstPins f_spare_firstPlaces f_spare_gates f_spare_inputs f_spare_registers f_spare_slowRegisters f_spare_kinds f_spare_firsts f_spare_seconds f_spare_clocks f_spare_sourceSets f_now_ones f_now_unknowns f_now_places f_now_pins f_now_count f_copy_ones f_copy_unknowns f_copy_places f_copy_pins f_copy_count f_logic_ones f_logic_unknowns f_logic_settled f_sched_available f_sched_wanted f_sched_coming f_sched_waiting f_sched_taken f_sched_sent f_sched_lastSent f_hist_next f_hist_held f_ring_cells f_kept_cells f_sight_steps f_sight_gates f_sight_values f_sight_truths f_sight_held X) H locs → lv_has ls 4 [(0, .ref (ad 29)), (1, .int p1), (2, .int x2), (3, .int x3)] → W p l e ({ frames := 2, cells := 0, slots := 0, locals := 42 } : Room) s m args below meth c H locs 0 0 Z (F0 m 32 ls []) := by
        intro x2 x3 H locs ls h hw hl
        unfold wp_X2_readersOf_b32 at h
        obtain ⟨v1, ev1⟩ : ∃ y : Int32, y = x3 + 1 := ⟨_, rfl⟩
        have h := h v1 ev1
        refine lv_iinc (v := v1) (lv' := [(3, .int v1), (0, .ref (ad 29)), (1, .int p1), (2, .int x2)]) hx hb dX2_readersOf_32 hl (k := 3) rfl (by rw [ev1]; rfl) (by decide) rfl (fun ls hl => ?_)
        refine lv_goto (tgt := 4) hx hb dX2_readersOf_35 (by decide) ?_
        exact ih4 x2 v1 _ _ _ h hw (lv_sub hl [1, 2, 3, 0] rfl)
      unfold wp_X2_readersOf_b4 at h
      refine lv_iload_n hx hb dX2_readersOf_4 rfl (lv_at hl 3 rfl) ?_
      refine lv_aload_n hx hb dX2_readersOf_5 rfl (lv_at hl 0 rfl) ?_
      refine gC_X2_21_plan E hw dX2_readersOf_6 ?_
      refine lv_icmp_ge (tgt := 38) hx hb dX2_readersOf_9 (by decide) (fun c2 => ?_) (fun c2 => ?_)
      · have h := h.1 c2
        refine lv_iload_n hx hb dX2_readersOf_38 rfl (lv_at hl 2 rfl) ?_
        exact hret _ _ _ _ _ _ ⟨rfl, h⟩ hw dX2_readersOf_39
      · have h := h.2 c2
        refine lv_aload_n hx hb dX2_readersOf_12 rfl (lv_at hl 0 rfl) ?_
        refine lv_iload_n hx hb dX2_readersOf_13 rfl (lv_at hl 3 rfl) ?_
        refine g_aI E hw (g_rV E hw (c_X2_sourcesOf_plan h _) ym_X2_sourcesOf k_252 ⟨rfl, rfl⟩ ⟨Nat.le_of_ble_eq_true rfl, Nat.le_of_ble_eq_true rfl⟩ 29 rfl rfl rfl rfl hl.1 rfl (Nat.le_of_ble_eq_true rfl) ⟨Nat.zero_le _, Nat.zero_le _⟩ dX2_readersOf_14) (fun r3 u H locs hq hw => ?_)
        obtain ⟨hu, h⟩ := hq
        rw [hu] at hw
        refine lv_iload_n hx hb dX2_readersOf_17 rfl (lv_at hl 1 rfl) ?_
        refine g_aI E hw (g_rSN E hw (c_X9_bit h _) ym_X9_bit km_12 ⟨rfl, rfl⟩ ⟨Nat.le_of_ble_eq_true rfl, Nat.le_of_ble_eq_true rfl⟩ rfl hl.1 rfl (Nat.le_of_ble_eq_true rfl) ⟨Nat.zero_le _, Nat.zero_le _⟩ dX2_readersOf_18) (fun r4 u H locs hq hw => ?_)
        obtain ⟨hu, h⟩ := hq
        rw [hu] at hw
        refine lv_iand hx hb dX2_readersOf_21 ?_
        refine lv_if_eq (tgt := 32) hx hb dX2_readersOf_22 (by decide) (fun c5 => ?_) (fun c5 => ?_)
        · have h := h.1 c5
          exact J32 x2 x3 _ _ _ h hw (lv_sub hl [0, 1, 2, 3] rfl)
        · have h := h.2 c5
          refine lv_iload_n hx hb dX2_readersOf_25 rfl (lv_at hl 2 rfl) ?_
          refine lv_iload_n hx hb dX2_readersOf_26 rfl (lv_at hl 3 rfl) ?_
          refine g_aI E hw (g_rSN E hw (c_X9_bit h _) ym_X9_bit km_12 ⟨rfl, rfl⟩ ⟨Nat.le_of_ble_eq_true rfl, Nat.le_of_ble_eq_true rfl⟩ rfl hl.1 rfl (Nat.le_of_ble_eq_true rfl) ⟨Nat.zero_le _, Nat.zero_le _⟩ dX2_readersOf_27) (fun r6 u H locs hq hw => ?_)
          obtain ⟨hu, h⟩ := hq
          rw [hu] at hw
          refine lv_ior hx hb dX2_readersOf_30 ?_
          refine lv_topi (fun v7 ev7 => ?_)
          have h := h v7 ev7
          refine lv_istore_n (lv' := [(2, .int v7), (0, .ref (ad 29)), (1, .int p1), (3, .int x3)]) hx hb dX2_readersOf_31 rfl hl (by decide) rfl (fun ls hl => ?_)
          exact J32 v7 x3 _ _ _ h hw (lv_sub hl [1, 2, 0, 3] rfl)
  unfold wp_X2_readersOf at h
  refine lv_iconst (v := 0) hx hb dX2_readersOf_0 (by decide) ?_
  refine lv_istore_n (lv' := [(2, .int (0 : Int32)), (0, .ref (ad 29)), (1, .int p1)]) hx hb dX2_readersOf_1 rfl hl (by decide) rfl (fun ls hl => ?_)
  refine lv_iconst (v := 0) hx hb dX2_readersOf_2 (by decide) ?_
  refine lv_istore_n (lv' := [(3, .int (0 : Int32)), (2, .int (0 : Int32)), (0, .ref (ad 29)), (1, .int p1)]) hx hb dX2_readersOf_3 rfl hl (by decide) rfl (fun ls hl => ?_)
  obtain ⟨n, h⟩ := h
  exact L4 n (0 : Int32) (0 : Int32) _ _ _ h hw (lv_sub hl [2, 3, 1, 0] rfl)
set_option maxRecDepth 100000 in
set_option maxHeartbeats 4000000 in
theorem c_X5_put_now_ring {l : Launch} {D : va_G} {cI cZ : ClassId} {ad : Nat → Nat} {f_keptSlots : Int32} {f_trace : Nat → Int32} {f_lastSeed : Int64} {f_text_letters : Nat → Int32} {f_text_length : Int32} {f_reader_place : Int32} {f_reader_greatestSource : Int32} {f_plan_chips : Int32} {f_plan_firstPins : Int32} {f_plan_firstPlaces : Int32} {f_plan_gates : Int32} {f_plan_inputs : Int32} {f_plan_registers : Int32} {f_plan_slowRegisters : Int32} {f_plan_kinds : Nat → Int32} {f_plan_firsts : Nat → Int32} {f_plan_seconds : Nat → Int32} {f_plan_clocks : Nat → Int32} {f_plan_sourceSets : Nat → Int32} {f_spare_chips : Int32} {f_spare_firstPins : Int32} {f_spare_firstPlaces : Int32} {f_spare_gates : Int32} {f_spare_inputs : Int32} {f_spare_registers : Int32} {f_spare_slowRegisters : Int32} {f_spare_kinds : Nat → Int32} {f_spare_firsts : Nat → Int32} {f_spare_seconds : Nat → Int32} {f_spare_clocks : Nat → Int32} {f_spare_sourceSets : Nat → Int32} {f_now_ones : Int32} {f_now_unknowns : Int32} {f_now_places : Int32} {f_now_pins : Int32} {f_now_count : Int32} {f_copy_ones : Int32} {f_copy_unknowns : Int32} {f_copy_places : Int32} {f_copy_pins : Int32} {f_copy_count : Int32} {f_logic_ones : Int32} {f_logic_unknowns : Int32} {f_logic_settled : Int32} {f_sched_available : Nat → Int32} {f_sched_wanted : Nat → Int32} {f_sched_coming : Nat → Int32} {f_sched_waiting : Int32} {f_sched_taken : Int32} {f_sched_sent : Int32} {f_sched_lastSent : Int32} {f_hist_next : Int32} {f_hist_held : Int32} {f_ring_cells : Nat → Int32} {f_kept_cells : Nat → Int32} {f_sight_steps : Nat → Int32} {f_sight_gates : Nat → Int32} {f_sight_values : Nat → Int32} {f_sight_truths : Nat → Int32} {f_sight_held : Int32} {X : va_W} {p1 : Int32} {Q : (Nat → Int32) → Prop} (h : wp_X5_put 70 f_ring_cells f_now_count f_now_ones f_now_pins f_now_places f_now_unknowns p1 Q) : CtV l yX5_put cX5_put 4 none ({ frames := 1, cells := 0, slots := 0, locals := 22 } : Room) D [(cI, .int), (cZ, .boolean)] [.ref (ad 9), .int p1, .ref (ad 17)] (wC ad cI cZ f_keptSlots f_trace f_lastSeed f_text_letters f_text_length f_reader_place f_reader_greatestSource f_plan_chips f_plan_firstPins f_plan_firstPlaces f_plan_gates f_plan_inputs f_plan_registers f_plan_slowRegisters f_plan_kinds f_plan_firsts f_plan_seconds f_plan_clocks f_plan_sourceSets f_spare_chips f_spare_firstPins f_spare_firstPlaces f_spare_gates f_spare_inputs f_spare_registers f_spare_slowRegisters f_spare_kinds f_spare_firsts f_spare_seconds f_spare_clocks f_spare_sourceSets f_now_ones f_now_unknowns f_now_places f_now_pins f_now_count f_copy_ones f_copy_unknowns f_copy_places f_copy_pins f_copy_count f_logic_ones f_logic_unknowns f_logic_settled f_sched_available f_sched_wanted f_sched_coming f_sched_waiting f_sched_taken f_sched_sent f_sched_lastSent f_hist_next f_hist_held f_ring_cells f_kept_cells f_sight_steps f_sight_gates f_sight_values f_sight_truths f_sight_held X) (fun  u => ∃ w0, u = (wC ad cI cZ f_keptSlots f_trace f_lastSeed f_text_letters f_text_length f_reader_place f_reader_greatestSource f_plan_chips f_plan_firstPins f_plan_firstPlaces f_plan_gates f_plan_inputs f_plan_registers f_plan_slowRegisters f_plan_kinds f_plan_firsts f_plan_seconds f_plan_clocks f_plan_sourceSets f_spare_chips f_spare_firstPins f_spare_firstPlaces f_spare_gates f_spare_inputs f_spare_registers f_spare_slowRegisters f_spare_kinds f_spare_firsts f_spare_seconds f_spare_clocks f_spare_sourceSets f_now_ones f_now_unknowns f_now_places f_now_pins f_now_count f_copy_ones f_copy_unknowns f_copy_places f_copy_pins f_copy_count f_logic_ones f_logic_unknowns f_logic_settled f_sched_available f_sched_wanted f_sched_coming f_sched_waiting f_sched_taken f_sched_sent f_sched_lastSent f_hist_next f_hist_held w0 f_kept_cells f_sight_steps f_sight_gates f_sight_values f_sight_truths f_sight_held X) ∧ Q w0) := by
  refine CtV.of (by decide) rfl (Nat.le_of_ble_eq_true rfl) ?_
  intro p e s m args below meth c A Z E hret ls hl hw
  have E : gE p m c cX5_put 4 s args RX5 D [(cI, .int), (cZ, .boolean)] A := E
  have hx := E.1.1
  have hb := E.1.2.1
  have hl : lv_has ls 4 [(0, .ref (ad 9)), (1, .int p1), (2, .ref (ad 17))] := hl
  unfold wp_X5_put at h
  refine lv_iload_n hx hb dX5_put_0 rfl (lv_at hl 1 rfl) ?_
  refine lv_iconst (v := 5) hx hb dX5_put_1 (by decide) ?_
  refine lv_imul hx hb dX5_put_2 ?_
  refine lv_topi (fun v1 ev1 => ?_)
  have h := h v1 ev1
  refine lv_istore_n (lv' := [(3, .int v1), (0, .ref (ad 9)), (1, .int p1), (2, .ref (ad 17))]) hx hb dX5_put_3 rfl hl (by decide) rfl (fun ls hl => ?_)
  refine lv_aload_n hx hb dX5_put_4 rfl (lv_at hl 1 rfl) ?_
  refine gC_X5_15_ring E hw dX5_put_5 ?_
  refine lv_iload_n hx hb dX5_put_8 rfl (lv_at hl 0 rfl) ?_
  refine lv_aload_n hx hb dX5_put_9 rfl (lv_at hl 3 rfl) ?_
  refine gC_X5_19_now E hw dX5_put_10 ?_
  refine g_aV E hw (g_rSN E hw (c_X9_setCell (q0 := 8) rfl h _) ym_X9_setCell km_17 ⟨rfl, rfl⟩ ⟨Nat.le_of_ble_eq_true rfl, Nat.le_of_ble_eq_true rfl⟩ rfl hl.1 rfl (Nat.le_of_ble_eq_true rfl) ⟨Nat.zero_le _, Nat.zero_le _⟩ dX5_put_13) (fun u H locs hq hw => ?_)
  obtain ⟨y3, hu, h⟩ := hq
  rw [hu] at hw
  have hw : gW D s A (wC ad cI cZ f_keptSlots f_trace f_lastSeed f_text_letters f_text_length f_reader_place f_reader_greatestSource f_plan_chips f_plan_firstPins f_plan_firstPlaces f_plan_gates f_plan_inputs f_plan_registers f_plan_slowRegisters f_plan_kinds f_plan_firsts f_plan_seconds f_plan_clocks f_plan_sourceSets f_spare_chips f_spare_firstPins f_spare_firstPlaces f_spare_gates f_spare_inputs f_spare_registers f_spare_slowRegisters f_spare_kinds f_spare_firsts f_spare_seconds f_spare_clocks f_spare_sourceSets f_now_ones f_now_unknowns f_now_places f_now_pins f_now_count f_copy_ones f_copy_unknowns f_copy_places f_copy_pins f_copy_count f_logic_ones f_logic_unknowns f_logic_settled f_sched_available f_sched_wanted f_sched_coming f_sched_waiting f_sched_taken f_sched_sent f_sched_lastSent f_hist_next f_hist_held y3 f_kept_cells f_sight_steps f_sight_gates f_sight_values f_sight_truths f_sight_held X) _ _ := hw
  refine lv_aload_n hx hb dX5_put_16 rfl (lv_at hl 1 rfl) ?_
  refine gC_X5_15_ring E hw dX5_put_17 ?_
  refine lv_iload_n hx hb dX5_put_20 rfl (lv_at hl 0 rfl) ?_
  refine lv_iconst (v := 1) hx hb dX5_put_21 (by decide) ?_
  refine lv_iadd hx hb dX5_put_22 ?_
  refine lv_aload_n hx hb dX5_put_23 rfl (lv_at hl 3 rfl) ?_
  refine gC_X5_31_now E hw dX5_put_24 ?_
  refine g_aV E hw (g_rSN E hw (c_X9_setCell (q0 := 8) rfl h _) ym_X9_setCell km_17 ⟨rfl, rfl⟩ ⟨Nat.le_of_ble_eq_true rfl, Nat.le_of_ble_eq_true rfl⟩ rfl hl.1 rfl (Nat.le_of_ble_eq_true rfl) ⟨Nat.zero_le _, Nat.zero_le _⟩ dX5_put_27) (fun u H locs hq hw => ?_)
  obtain ⟨y5, hu, h⟩ := hq
  rw [hu] at hw
  have hw : gW D s A (wC ad cI cZ f_keptSlots f_trace f_lastSeed f_text_letters f_text_length f_reader_place f_reader_greatestSource f_plan_chips f_plan_firstPins f_plan_firstPlaces f_plan_gates f_plan_inputs f_plan_registers f_plan_slowRegisters f_plan_kinds f_plan_firsts f_plan_seconds f_plan_clocks f_plan_sourceSets f_spare_chips f_spare_firstPins f_spare_firstPlaces f_spare_gates f_spare_inputs f_spare_registers f_spare_slowRegisters f_spare_kinds f_spare_firsts f_spare_seconds f_spare_clocks f_spare_sourceSets f_now_ones f_now_unknowns f_now_places f_now_pins f_now_count f_copy_ones f_copy_unknowns f_copy_places f_copy_pins f_copy_count f_logic_ones f_logic_unknowns f_logic_settled f_sched_available f_sched_wanted f_sched_coming f_sched_waiting f_sched_taken f_sched_sent f_sched_lastSent f_hist_next f_hist_held y5 f_kept_cells f_sight_steps f_sight_gates f_sight_values f_sight_truths f_sight_held X) _ _ := hw
  refine lv_aload_n hx hb dX5_put_30 rfl (lv_at hl 1 rfl) ?_
  refine gC_X5_15_ring E hw dX5_put_31 ?_
  refine lv_iload_n hx hb dX5_put_34 rfl (lv_at hl 0 rfl) ?_
  refine lv_iconst (v := 2) hx hb dX5_put_35 (by decide) ?_
  refine lv_iadd hx hb dX5_put_36 ?_
  refine lv_aload_n hx hb dX5_put_37 rfl (lv_at hl 3 rfl) ?_
  refine gC_X5_34_now E hw dX5_put_38 ?_
  refine g_aV E hw (g_rSN E hw (c_X9_setCell (q0 := 8) rfl h _) ym_X9_setCell km_17 ⟨rfl, rfl⟩ ⟨Nat.le_of_ble_eq_true rfl, Nat.le_of_ble_eq_true rfl⟩ rfl hl.1 rfl (Nat.le_of_ble_eq_true rfl) ⟨Nat.zero_le _, Nat.zero_le _⟩ dX5_put_41) (fun u H locs hq hw => ?_)
  obtain ⟨y7, hu, h⟩ := hq
  rw [hu] at hw
  have hw : gW D s A (wC ad cI cZ f_keptSlots f_trace f_lastSeed f_text_letters f_text_length f_reader_place f_reader_greatestSource f_plan_chips f_plan_firstPins f_plan_firstPlaces f_plan_gates f_plan_inputs f_plan_registers f_plan_slowRegisters f_plan_kinds f_plan_firsts f_plan_seconds f_plan_clocks f_plan_sourceSets f_spare_chips f_spare_firstPins f_spare_firstPlaces f_spare_gates f_spare_inputs f_spare_registers f_spare_slowRegisters f_spare_kinds f_spare_firsts f_spare_seconds f_spare_clocks f_spare_sourceSets f_now_ones f_now_unknowns f_now_places f_now_pins f_now_count f_copy_ones f_copy_unknowns f_copy_places f_copy_pins f_copy_count f_logic_ones f_logic_unknowns f_logic_settled f_sched_available f_sched_wanted f_sched_coming f_sched_waiting f_sched_taken f_sched_sent f_sched_lastSent f_hist_next f_hist_held y7 f_kept_cells f_sight_steps f_sight_gates f_sight_values f_sight_truths f_sight_held X) _ _ := hw
  refine lv_aload_n hx hb dX5_put_44 rfl (lv_at hl 1 rfl) ?_
  refine gC_X5_15_ring E hw dX5_put_45 ?_
  refine lv_iload_n hx hb dX5_put_48 rfl (lv_at hl 0 rfl) ?_
  refine lv_iconst (v := 3) hx hb dX5_put_49 (by decide) ?_
  refine lv_iadd hx hb dX5_put_50 ?_
  refine lv_aload_n hx hb dX5_put_51 rfl (lv_at hl 3 rfl) ?_
  refine gC_X5_37_now E hw dX5_put_52 ?_
  refine g_aV E hw (g_rSN E hw (c_X9_setCell (q0 := 8) rfl h _) ym_X9_setCell km_17 ⟨rfl, rfl⟩ ⟨Nat.le_of_ble_eq_true rfl, Nat.le_of_ble_eq_true rfl⟩ rfl hl.1 rfl (Nat.le_of_ble_eq_true rfl) ⟨Nat.zero_le _, Nat.zero_le _⟩ dX5_put_55) (fun u H locs hq hw => ?_)
  obtain ⟨y9, hu, h⟩ := hq
  rw [hu] at hw
  have hw : gW D s A (wC ad cI cZ f_keptSlots f_trace f_lastSeed f_text_letters f_text_length f_reader_place f_reader_greatestSource f_plan_chips f_plan_firstPins f_plan_firstPlaces f_plan_gates f_plan_inputs f_plan_registers f_plan_slowRegisters f_plan_kinds f_plan_firsts f_plan_seconds f_plan_clocks f_plan_sourceSets f_spare_chips f_spare_firstPins f_spare_firstPlaces f_spare_gates f_spare_inputs f_spare_registers f_spare_slowRegisters f_spare_kinds f_spare_firsts f_spare_seconds f_spare_clocks f_spare_sourceSets f_now_ones f_now_unknowns f_now_places f_now_pins f_now_count f_copy_ones f_copy_unknowns f_copy_places f_copy_pins f_copy_count f_logic_ones f_logic_unknowns f_logic_settled f_sched_available f_sched_wanted f_sched_coming f_sched_waiting f_sched_taken f_sched_sent f_sched_lastSent f_hist_next f_hist_held y9 f_kept_cells f_sight_steps f_sight_gates f_sight_values f_sight_truths f_sight_held X) _ _ := hw
  refine lv_aload_n hx hb dX5_put_58 rfl (lv_at hl 1 rfl) ?_
  refine gC_X5_15_ring E hw dX5_put_59 ?_
  refine lv_iload_n hx hb dX5_put_62 rfl (lv_at hl 0 rfl) ?_
  refine lv_iconst (v := 4) hx hb dX5_put_63 (by decide) ?_
  refine lv_iadd hx hb dX5_put_64 ?_
  refine lv_aload_n hx hb dX5_put_65 rfl (lv_at hl 3 rfl) ?_
  refine gC_X5_40_now E hw dX5_put_66 ?_
  refine g_aV E hw (g_rSN E hw (c_X9_setCell (q0 := 8) rfl h _) ym_X9_setCell km_17 ⟨rfl, rfl⟩ ⟨Nat.le_of_ble_eq_true rfl, Nat.le_of_ble_eq_true rfl⟩ rfl hl.1 rfl (Nat.le_of_ble_eq_true rfl) ⟨Nat.zero_le _, Nat.zero_le _⟩ dX5_put_69) (fun u H locs hq hw => ?_)
  obtain ⟨y11, hu, h⟩ := hq
  rw [hu] at hw
  have hw : gW D s A (wC ad cI cZ f_keptSlots f_trace f_lastSeed f_text_letters f_text_length f_reader_place f_reader_greatestSource f_plan_chips f_plan_firstPins f_plan_firstPlaces f_plan_gates f_plan_inputs f_plan_registers f_plan_slowRegisters f_plan_kinds f_plan_firsts f_plan_seconds f_plan_clocks f_plan_sourceSets f_spare_chips f_spare_firstPins f_spare_firstPlaces f_spare_gates f_spare_inputs f_spare_registers f_spare_slowRegisters f_spare_kinds f_spare_firsts f_spare_seconds f_spare_clocks f_spare_sourceSets f_now_ones f_now_unknowns f_now_places f_now_pins f_now_count f_copy_ones f_copy_unknowns f_copy_places f_copy_pins f_copy_count f_logic_ones f_logic_unknowns f_logic_settled f_sched_available f_sched_wanted f_sched_coming f_sched_waiting f_sched_taken f_sched_sent f_sched_lastSent f_hist_next f_hist_held y11 f_kept_cells f_sight_steps f_sight_gates f_sight_values f_sight_truths f_sight_held X) _ _ := hw
  exact hret _ _ _ _ _ ⟨_, rfl, h⟩ hw dX5_put_72
set_option maxRecDepth 100000 in
set_option maxHeartbeats 4000000 in
theorem c_X0_remember_now {l : Launch} {D : va_G} {cI cZ : ClassId} {ad : Nat → Nat} {f_keptSlots : Int32} {f_trace : Nat → Int32} {f_lastSeed : Int64} {f_text_letters : Nat → Int32} {f_text_length : Int32} {f_reader_place : Int32} {f_reader_greatestSource : Int32} {f_plan_chips : Int32} {f_plan_firstPins : Int32} {f_plan_firstPlaces : Int32} {f_plan_gates : Int32} {f_plan_inputs : Int32} {f_plan_registers : Int32} {f_plan_slowRegisters : Int32} {f_plan_kinds : Nat → Int32} {f_plan_firsts : Nat → Int32} {f_plan_seconds : Nat → Int32} {f_plan_clocks : Nat → Int32} {f_plan_sourceSets : Nat → Int32} {f_spare_chips : Int32} {f_spare_firstPins : Int32} {f_spare_firstPlaces : Int32} {f_spare_gates : Int32} {f_spare_inputs : Int32} {f_spare_registers : Int32} {f_spare_slowRegisters : Int32} {f_spare_kinds : Nat → Int32} {f_spare_firsts : Nat → Int32} {f_spare_seconds : Nat → Int32} {f_spare_clocks : Nat → Int32} {f_spare_sourceSets : Nat → Int32} {f_now_ones : Int32} {f_now_unknowns : Int32} {f_now_places : Int32} {f_now_pins : Int32} {f_now_count : Int32} {f_copy_ones : Int32} {f_copy_unknowns : Int32} {f_copy_places : Int32} {f_copy_pins : Int32} {f_copy_count : Int32} {f_logic_ones : Int32} {f_logic_unknowns : Int32} {f_logic_settled : Int32} {f_sched_available : Nat → Int32} {f_sched_wanted : Nat → Int32} {f_sched_coming : Nat → Int32} {f_sched_waiting : Int32} {f_sched_taken : Int32} {f_sched_sent : Int32} {f_sched_lastSent : Int32} {f_hist_next : Int32} {f_hist_held : Int32} {f_ring_cells : Nat → Int32} {f_kept_cells : Nat → Int32} {f_sight_steps : Nat → Int32} {f_sight_gates : Nat → Int32} {f_sight_values : Nat → Int32} {f_sight_truths : Nat → Int32} {f_sight_held : Int32} {X : va_W} {Q : Int32 → Int32 → (Nat → Int32) → Prop} (h : wp_X0_remember f_hist_held f_hist_next f_ring_cells f_now_count f_now_ones f_now_pins f_now_places f_now_unknowns Q) : CtV l yX0_remember cX0_remember 2 none ({ frames := 2, cells := 0, slots := 0, locals := 45 } : Room) D [(cI, .int), (cZ, .boolean)] [.ref (ad 10), .ref (ad 17)] (wC ad cI cZ f_keptSlots f_trace f_lastSeed f_text_letters f_text_length f_reader_place f_reader_greatestSource f_plan_chips f_plan_firstPins f_plan_firstPlaces f_plan_gates f_plan_inputs f_plan_registers f_plan_slowRegisters f_plan_kinds f_plan_firsts f_plan_seconds f_plan_clocks f_plan_sourceSets f_spare_chips f_spare_firstPins f_spare_firstPlaces f_spare_gates f_spare_inputs f_spare_registers f_spare_slowRegisters f_spare_kinds f_spare_firsts f_spare_seconds f_spare_clocks f_spare_sourceSets f_now_ones f_now_unknowns f_now_places f_now_pins f_now_count f_copy_ones f_copy_unknowns f_copy_places f_copy_pins f_copy_count f_logic_ones f_logic_unknowns f_logic_settled f_sched_available f_sched_wanted f_sched_coming f_sched_waiting f_sched_taken f_sched_sent f_sched_lastSent f_hist_next f_hist_held f_ring_cells f_kept_cells f_sight_steps f_sight_gates f_sight_values f_sight_truths f_sight_held X) (fun  u => ∃ w0 w1 w2, u = (wC ad cI cZ f_keptSlots f_trace f_lastSeed f_text_letters f_text_length f_reader_place f_reader_greatestSource f_plan_chips f_plan_firstPins f_plan_firstPlaces f_plan_gates f_plan_inputs f_plan_registers f_plan_slowRegisters f_plan_kinds f_plan_firsts f_plan_seconds f_plan_clocks f_plan_sourceSets f_spare_chips f_spare_firstPins f_spare_firstPlaces f_spare_gates f_spare_inputs f_spare_registers f_spare_slowRegisters f_spare_kinds f_spare_firsts f_spare_seconds f_spare_clocks f_spare_sourceSets f_now_ones f_now_unknowns f_now_places f_now_pins f_now_count f_copy_ones f_copy_unknowns f_copy_places f_copy_pins f_copy_count f_logic_ones f_logic_unknowns f_logic_settled f_sched_available f_sched_wanted f_sched_coming f_sched_waiting f_sched_taken f_sched_sent f_sched_lastSent w1 w0 w2 f_kept_cells f_sight_steps f_sight_gates f_sight_values f_sight_truths f_sight_held X) ∧ Q w0 w1 w2) := by
  refine CtV.of (by decide) rfl (Nat.le_of_ble_eq_true rfl) ?_
  intro p e s m args below meth c A Z E hret ls hl hw
  have E : gE p m c cX0_remember 2 s args RX0 D [(cI, .int), (cZ, .boolean)] A := E
  have hx := E.1.1
  have hb := E.1.2.1
  have hl : lv_has ls 2 [(0, .ref (ad 10)), (1, .ref (ad 17))] := hl
  have J34 : ∀ (s1 : Int32) (f_hist_held : Int32) (f_hist_next : Int32) (f_ring_cells : Nat → Int32) (H : Heap) (locs : List Loc) (ls : Array Slot), wp_X0_remember_b34 f_now_count f_now_ones f_now_pins f_now_places f_now_unknowns Q  s1 f_hist_held f_hist_next f_ring_cells → gW D s A (wC ad cI cZ f_keptSlots f_trace f_lastSeed f_text_letters f_text_length f_reader_place f_reader_greatestSource f_plan_chips f_plan_firstPins f_plan_firstPlaces f_plan_gates f_plan_inputs f_plan_registers f_plan_slowRegisters f_plan_kinds f_plan_firsts f_plan_seconds f_plan_clocks f_plan_sourceSets f_spare_chips f_spare_firstPins f_spare_firstPlaces f_spare_gates f_spare_inputs f_spare_registers f_spare_slowRegisters f_spare_kinds f_spare_firsts f_spare_seconds f_spare_clocks f_spare_sourceSets f_now_ones f_now_unknowns f_now_places f_now_pins f_now_count f_copy_ones f_copy_unknowns f_copy_places f_copy_pins f_copy_count f_logic_ones f_logic_unknowns f_logic_settled f_sched_available f_sched_wanted f_sched_coming f_sched_waiting f_sched_taken f_sched_sent f_sched_lastSent f_hist_next f_hist_held f_ring_cells f_kept_cells f_sight_steps f_sight_gates f_sight_values f_sight_truths f_sight_held X) H locs → lv_has ls 2 [(0, .ref (ad 10))] → W p l e ({ frames := 2, cells := 0, slots := 0, locals := 45 } : Room) s m args below meth c H locs 0 0 Z (F0 m 34 ls [.int s1, .ref (ad 10)]) := by
    intro s1 f_hist_held f_hist_next f_ring_cells H locs ls h hw hl
    unfold wp_X0_remember_b34 at h
    refine pC_X0_20_hist E hw dX0_remember_34 (fun H locs hw => ?_)
    refine lv_aload_n hx hb dX0_remember_37 rfl (lv_at hl 0 rfl) ?_
    refine lv_aload_n hx hb dX0_remember_38 rfl (lv_at hl 0 rfl) ?_
    refine gC_X0_24_hist E hw dX0_remember_39 ?_
    refine lv_iconst (v := 1) hx hb dX0_remember_42 (by decide) ?_
    refine lv_iadd hx hb dX0_remember_43 ?_
    refine lv_bipush (v := 14) hx hb dX0_remember_44 (by decide) ?_
    refine va_mmin hx hb (E.1.2.2.1.trans hl.1.symm) E.1.2.2.2.1 (E.1.2.2.2.2 _ k_343) (E.1.2.2.2.2 _ k_344) (E.1.2.2.2.2 _ k_59) (E.1.2.2.2.2 _ k_345) (Nat.le_of_ble_eq_true rfl) (Nat.le_of_ble_eq_true rfl) (Nat.zero_le _) (Nat.zero_le _) dX0_remember_46 ?_
    refine lv_topi (fun v1 ev1 => ?_)
    have h := h v1 ev1
    refine pC_X0_24_hist E hw dX0_remember_49 (fun H locs hw => ?_)
    exact hret _ _ _ _ _ ⟨_, _, _, rfl, h⟩ hw dX0_remember_52
  unfold wp_X0_remember at h
  refine lv_aload_n hx hb dX0_remember_0 rfl (lv_at hl 0 rfl) ?_
  refine gC_X0_14_hist E hw dX0_remember_1 ?_
  refine lv_aload_n hx hb dX0_remember_4 rfl (lv_at hl 0 rfl) ?_
  refine gC_X0_20_hist E hw dX0_remember_5 ?_
  refine lv_aload_n hx hb dX0_remember_8 rfl (lv_at hl 1 rfl) ?_
  refine g_aV E hw (g_rV E hw (c_X5_put_now_ring h _) ym_X5_put k_339 ⟨rfl, rfl⟩ ⟨Nat.le_of_ble_eq_true rfl, Nat.le_of_ble_eq_true rfl⟩ 9 rfl rfl rfl rfl hl.1 rfl (Nat.le_of_ble_eq_true rfl) ⟨Nat.zero_le _, Nat.zero_le _⟩ dX0_remember_9) (fun u H locs hq hw => ?_)
  obtain ⟨y3, hu, h⟩ := hq
  rw [hu] at hw
  refine lv_aload_n hx hb dX0_remember_12 rfl (lv_at hl 0 rfl) ?_
  refine lv_aload_n hx hb dX0_remember_13 rfl (lv_at hl 0 rfl) ?_
  refine gC_X0_20_hist E hw dX0_remember_14 ?_
  refine lv_iconst (v := 1) hx hb dX0_remember_17 (by decide) ?_
  refine lv_iadd hx hb dX0_remember_18 ?_
  refine lv_bipush (v := 14) hx hb dX0_remember_19 (by decide) ?_
  refine lv_icmp_ge (tgt := 33) hx hb dX0_remember_21 (by decide) (fun c4 => ?_) (fun c4 => ?_)
  · have h := h.1 c4
    refine lv_iconst (v := 0) hx hb dX0_remember_33 (by decide) ?_
    exact J34 (0 : Int32) f_hist_held f_hist_next y3 _ _ _ h hw (lv_sub hl [0] rfl)
  · have h := h.2 c4
    refine lv_aload_n hx hb dX0_remember_24 rfl (lv_at hl 0 rfl) ?_
    refine gC_X0_20_hist E hw dX0_remember_25 ?_
    refine lv_iconst (v := 1) hx hb dX0_remember_28 (by decide) ?_
    refine lv_iadd hx hb dX0_remember_29 ?_
    refine lv_goto (tgt := 34) hx hb dX0_remember_30 (by decide) ?_
    exact J34 ((f_hist_next + (1 : Int32))) f_hist_held f_hist_next y3 _ _ _ h hw (lv_sub hl [0] rfl)
set_option maxRecDepth 100000 in
set_option maxHeartbeats 4000000 in
theorem c_X7_store_now {l : Launch} {D : va_G} {cI cZ : ClassId} {ad : Nat → Nat} {f_keptSlots : Int32} {f_trace : Nat → Int32} {f_lastSeed : Int64} {f_text_letters : Nat → Int32} {f_text_length : Int32} {f_reader_place : Int32} {f_reader_greatestSource : Int32} {f_plan_chips : Int32} {f_plan_firstPins : Int32} {f_plan_firstPlaces : Int32} {f_plan_gates : Int32} {f_plan_inputs : Int32} {f_plan_registers : Int32} {f_plan_slowRegisters : Int32} {f_plan_kinds : Nat → Int32} {f_plan_firsts : Nat → Int32} {f_plan_seconds : Nat → Int32} {f_plan_clocks : Nat → Int32} {f_plan_sourceSets : Nat → Int32} {f_spare_chips : Int32} {f_spare_firstPins : Int32} {f_spare_firstPlaces : Int32} {f_spare_gates : Int32} {f_spare_inputs : Int32} {f_spare_registers : Int32} {f_spare_slowRegisters : Int32} {f_spare_kinds : Nat → Int32} {f_spare_firsts : Nat → Int32} {f_spare_seconds : Nat → Int32} {f_spare_clocks : Nat → Int32} {f_spare_sourceSets : Nat → Int32} {f_now_ones : Int32} {f_now_unknowns : Int32} {f_now_places : Int32} {f_now_pins : Int32} {f_now_count : Int32} {f_copy_ones : Int32} {f_copy_unknowns : Int32} {f_copy_places : Int32} {f_copy_pins : Int32} {f_copy_count : Int32} {f_logic_ones : Int32} {f_logic_unknowns : Int32} {f_logic_settled : Int32} {f_sched_available : Nat → Int32} {f_sched_wanted : Nat → Int32} {f_sched_coming : Nat → Int32} {f_sched_waiting : Int32} {f_sched_taken : Int32} {f_sched_sent : Int32} {f_sched_lastSent : Int32} {f_hist_next : Int32} {f_hist_held : Int32} {f_ring_cells : Nat → Int32} {f_kept_cells : Nat → Int32} {f_sight_steps : Nat → Int32} {f_sight_gates : Nat → Int32} {f_sight_values : Nat → Int32} {f_sight_truths : Nat → Int32} {f_sight_held : Int32} {X : va_W} {p1 : Int32} {p2 : Int32} {Q : Int32 → Int32 → Prop} (h : wp_X7_store f_now_ones f_now_unknowns p1 p2 Q) : CtV l yX7_store cX7_store 3 none ({ frames := 1, cells := 0, slots := 0, locals := 20 } : Room) D [(cI, .int), (cZ, .boolean)] [.ref (ad 17), .int p1, .int p2] (wC ad cI cZ f_keptSlots f_trace f_lastSeed f_text_letters f_text_length f_reader_place f_reader_greatestSource f_plan_chips f_plan_firstPins f_plan_firstPlaces f_plan_gates f_plan_inputs f_plan_registers f_plan_slowRegisters f_plan_kinds f_plan_firsts f_plan_seconds f_plan_clocks f_plan_sourceSets f_spare_chips f_spare_firstPins f_spare_firstPlaces f_spare_gates f_spare_inputs f_spare_registers f_spare_slowRegisters f_spare_kinds f_spare_firsts f_spare_seconds f_spare_clocks f_spare_sourceSets f_now_ones f_now_unknowns f_now_places f_now_pins f_now_count f_copy_ones f_copy_unknowns f_copy_places f_copy_pins f_copy_count f_logic_ones f_logic_unknowns f_logic_settled f_sched_available f_sched_wanted f_sched_coming f_sched_waiting f_sched_taken f_sched_sent f_sched_lastSent f_hist_next f_hist_held f_ring_cells f_kept_cells f_sight_steps f_sight_gates f_sight_values f_sight_truths f_sight_held X) (fun  u => ∃ w0 w1, u = (wC ad cI cZ f_keptSlots f_trace f_lastSeed f_text_letters f_text_length f_reader_place f_reader_greatestSource f_plan_chips f_plan_firstPins f_plan_firstPlaces f_plan_gates f_plan_inputs f_plan_registers f_plan_slowRegisters f_plan_kinds f_plan_firsts f_plan_seconds f_plan_clocks f_plan_sourceSets f_spare_chips f_spare_firstPins f_spare_firstPlaces f_spare_gates f_spare_inputs f_spare_registers f_spare_slowRegisters f_spare_kinds f_spare_firsts f_spare_seconds f_spare_clocks f_spare_sourceSets w0 w1 f_now_places f_now_pins f_now_count f_copy_ones f_copy_unknowns f_copy_places f_copy_pins f_copy_count f_logic_ones f_logic_unknowns f_logic_settled f_sched_available f_sched_wanted f_sched_coming f_sched_waiting f_sched_taken f_sched_sent f_sched_lastSent f_hist_next f_hist_held f_ring_cells f_kept_cells f_sight_steps f_sight_gates f_sight_values f_sight_truths f_sight_held X) ∧ Q w0 w1) := by
  refine CtV.of (by decide) rfl (Nat.le_of_ble_eq_true rfl) ?_
  intro p e s m args below meth c A Z E hret ls hl hw
  have E : gE p m c cX7_store 3 s args RX7 D [(cI, .int), (cZ, .boolean)] A := E
  have hx := E.1.1
  have hb := E.1.2.1
  have hl : lv_has ls 3 [(0, .ref (ad 17)), (1, .int p1), (2, .int p2)] := hl
  have J29 : ∀ (s1 : Int32) (f_now_ones : Int32) (f_now_unknowns : Int32) (H : Heap) (locs : List Loc) (ls : Array Slot), wp_X7_store_b29 p1 p2 Q  s1 f_now_ones f_now_unknowns → gW D s A (wC ad cI cZ f_keptSlots f_trace f_lastSeed f_text_letters f_text_length f_reader_place f_reader_greatestSource f_plan_chips f_plan_firstPins f_plan_firstPlaces f_plan_gates f_plan_inputs f_plan_registers f_plan_slowRegisters f_plan_kinds f_plan_firsts f_plan_seconds f_plan_clocks f_plan_sourceSets f_spare_chips f_spare_firstPins f_spare_firstPlaces f_spare_gates f_spare_inputs f_spare_registers f_spare_slowRegisters f_spare_kinds f_spare_firsts f_spare_seconds f_spare_clocks f_spare_sourceSets f_now_ones f_now_unknowns f_now_places f_now_pins f_now_count f_copy_ones f_copy_unknowns f_copy_places f_copy_pins f_copy_count f_logic_ones f_logic_unknowns f_logic_settled f_sched_available f_sched_wanted f_sched_coming f_sched_waiting f_sched_taken f_sched_sent f_sched_lastSent f_hist_next f_hist_held f_ring_cells f_kept_cells f_sight_steps f_sight_gates f_sight_values f_sight_truths f_sight_held X) H locs → lv_has ls 3 [(0, .ref (ad 17)), (1, .int p1), (2, .int p2)] → W p l e ({ frames := 1, cells := 0, slots := 0, locals := 20 } : Room) s m args below meth c H locs 0 0 Z (F0 m 29 ls [.int s1, .ref (ad 17)]) := by
    intro s1 f_now_ones f_now_unknowns H locs ls h hw hl
    unfold wp_X7_store_b29 at h
    refine pC_X7_9_now E hw dX7_store_29 (fun H locs hw => ?_)
    refine lv_aload_n hx hb dX7_store_32 rfl (lv_at hl 0 rfl) ?_
    refine lv_iload_n hx hb dX7_store_33 rfl (lv_at hl 2 rfl) ?_
    refine lv_iconst (v := 2) hx hb dX7_store_34 (by decide) ?_
    refine lv_icmp_ne (tgt := 50) hx hb dX7_store_35 (by decide) (fun c1 => ?_) (fun c1 => ?_)
    · have h := h.1 c1
      refine lv_aload_n hx hb dX7_store_50 rfl (lv_at hl 0 rfl) ?_
      refine gC_X7_15_now E hw dX7_store_51 ?_
      refine lv_iload_n hx hb dX7_store_54 rfl (lv_at hl 1 rfl) ?_
      refine g_aI E hw (g_rSN E hw (c_X9_bit h _) ym_X9_bit km_18 ⟨rfl, rfl⟩ ⟨Nat.le_of_ble_eq_true rfl, Nat.le_of_ble_eq_true rfl⟩ rfl hl.1 rfl (Nat.le_of_ble_eq_true rfl) ⟨Nat.zero_le _, Nat.zero_le _⟩ dX7_store_55) (fun r2 u H locs hq hw => ?_)
      obtain ⟨hu, h⟩ := hq
      rw [hu] at hw
      refine lv_iconst (v := -1) hx hb dX7_store_58 (by decide) ?_
      refine lv_ixor hx hb dX7_store_59 ?_
      refine lv_iand hx hb dX7_store_60 ?_
      refine lv_topi (fun v3 ev3 => ?_)
      have h := h v3 ev3
      refine pC_X7_15_now E hw dX7_store_61 (fun H locs hw => ?_)
      exact hret _ _ _ _ _ ⟨_, _, rfl, h⟩ hw dX7_store_64
    · have h := h.2 c1
      refine lv_aload_n hx hb dX7_store_38 rfl (lv_at hl 0 rfl) ?_
      refine gC_X7_15_now E hw dX7_store_39 ?_
      refine lv_iload_n hx hb dX7_store_42 rfl (lv_at hl 1 rfl) ?_
      refine g_aI E hw (g_rSN E hw (c_X9_bit h _) ym_X9_bit km_18 ⟨rfl, rfl⟩ ⟨Nat.le_of_ble_eq_true rfl, Nat.le_of_ble_eq_true rfl⟩ rfl hl.1 rfl (Nat.le_of_ble_eq_true rfl) ⟨Nat.zero_le _, Nat.zero_le _⟩ dX7_store_43) (fun r4 u H locs hq hw => ?_)
      obtain ⟨hu, h⟩ := hq
      rw [hu] at hw
      refine lv_ior hx hb dX7_store_46 ?_
      refine lv_goto (tgt := 61) hx hb dX7_store_47 (by decide) ?_
      refine lv_topi (fun v5 ev5 => ?_)
      have h := h v5 ev5
      refine pC_X7_15_now E hw dX7_store_61 (fun H locs hw => ?_)
      exact hret _ _ _ _ _ ⟨_, _, rfl, h⟩ hw dX7_store_64
  unfold wp_X7_store at h
  refine lv_aload_n hx hb dX7_store_0 rfl (lv_at hl 0 rfl) ?_
  refine lv_iload_n hx hb dX7_store_1 rfl (lv_at hl 2 rfl) ?_
  refine lv_iconst (v := 1) hx hb dX7_store_2 (by decide) ?_
  refine lv_icmp_ne (tgt := 18) hx hb dX7_store_3 (by decide) (fun c6 => ?_) (fun c6 => ?_)
  · have h := h.1 c6
    refine lv_aload_n hx hb dX7_store_18 rfl (lv_at hl 0 rfl) ?_
    refine gC_X7_9_now E hw dX7_store_19 ?_
    refine lv_iload_n hx hb dX7_store_22 rfl (lv_at hl 1 rfl) ?_
    refine g_aI E hw (g_rSN E hw (c_X9_bit h _) ym_X9_bit km_18 ⟨rfl, rfl⟩ ⟨Nat.le_of_ble_eq_true rfl, Nat.le_of_ble_eq_true rfl⟩ rfl hl.1 rfl (Nat.le_of_ble_eq_true rfl) ⟨Nat.zero_le _, Nat.zero_le _⟩ dX7_store_23) (fun r7 u H locs hq hw => ?_)
    obtain ⟨hu, h⟩ := hq
    rw [hu] at hw
    refine lv_iconst (v := -1) hx hb dX7_store_26 (by decide) ?_
    refine lv_ixor hx hb dX7_store_27 ?_
    refine lv_iand hx hb dX7_store_28 ?_
    exact J29 ((f_now_ones &&& (r7 ^^^ (-1 : Int32)))) f_now_ones f_now_unknowns _ _ _ h hw (lv_sub hl [0, 1, 2] rfl)
  · have h := h.2 c6
    refine lv_aload_n hx hb dX7_store_6 rfl (lv_at hl 0 rfl) ?_
    refine gC_X7_9_now E hw dX7_store_7 ?_
    refine lv_iload_n hx hb dX7_store_10 rfl (lv_at hl 1 rfl) ?_
    refine g_aI E hw (g_rSN E hw (c_X9_bit h _) ym_X9_bit km_18 ⟨rfl, rfl⟩ ⟨Nat.le_of_ble_eq_true rfl, Nat.le_of_ble_eq_true rfl⟩ rfl hl.1 rfl (Nat.le_of_ble_eq_true rfl) ⟨Nat.zero_le _, Nat.zero_le _⟩ dX7_store_11) (fun r8 u H locs hq hw => ?_)
    obtain ⟨hu, h⟩ := hq
    rw [hu] at hw
    refine lv_ior hx hb dX7_store_14 ?_
    refine lv_goto (tgt := 29) hx hb dX7_store_15 (by decide) ?_
    exact J29 ((f_now_ones ||| r8)) f_now_ones f_now_unknowns _ _ _ h hw (lv_sub hl [0, 1, 2] rfl)
set_option maxRecDepth 100000 in
set_option maxHeartbeats 4000000 in
theorem c_X5_get_now_ring {l : Launch} {D : va_G} {cI cZ : ClassId} {ad : Nat → Nat} {f_keptSlots : Int32} {f_trace : Nat → Int32} {f_lastSeed : Int64} {f_text_letters : Nat → Int32} {f_text_length : Int32} {f_reader_place : Int32} {f_reader_greatestSource : Int32} {f_plan_chips : Int32} {f_plan_firstPins : Int32} {f_plan_firstPlaces : Int32} {f_plan_gates : Int32} {f_plan_inputs : Int32} {f_plan_registers : Int32} {f_plan_slowRegisters : Int32} {f_plan_kinds : Nat → Int32} {f_plan_firsts : Nat → Int32} {f_plan_seconds : Nat → Int32} {f_plan_clocks : Nat → Int32} {f_plan_sourceSets : Nat → Int32} {f_spare_chips : Int32} {f_spare_firstPins : Int32} {f_spare_firstPlaces : Int32} {f_spare_gates : Int32} {f_spare_inputs : Int32} {f_spare_registers : Int32} {f_spare_slowRegisters : Int32} {f_spare_kinds : Nat → Int32} {f_spare_firsts : Nat → Int32} {f_spare_seconds : Nat → Int32} {f_spare_clocks : Nat → Int32} {f_spare_sourceSets : Nat → Int32} {f_now_ones : Int32} {f_now_unknowns : Int32} {f_now_places : Int32} {f_now_pins : Int32} {f_now_count : Int32} {f_copy_ones : Int32} {f_copy_unknowns : Int32} {f_copy_places : Int32} {f_copy_pins : Int32} {f_copy_count : Int32} {f_logic_ones : Int32} {f_logic_unknowns : Int32} {f_logic_settled : Int32} {f_sched_available : Nat → Int32} {f_sched_wanted : Nat → Int32} {f_sched_coming : Nat → Int32} {f_sched_waiting : Int32} {f_sched_taken : Int32} {f_sched_sent : Int32} {f_sched_lastSent : Int32} {f_hist_next : Int32} {f_hist_held : Int32} {f_ring_cells : Nat → Int32} {f_kept_cells : Nat → Int32} {f_sight_steps : Nat → Int32} {f_sight_gates : Nat → Int32} {f_sight_values : Nat → Int32} {f_sight_truths : Nat → Int32} {f_sight_held : Int32} {X : va_W} {p1 : Int32} {Q : Int32 → Int32 → Int32 → Int32 → Int32 → Prop} (h : wp_X5_get 70 f_ring_cells f_now_count f_now_ones f_now_pins f_now_places f_now_unknowns p1 Q) : CtV l yX5_get cX5_get 4 none ({ frames := 1, cells := 0, slots := 0, locals := 21 } : Room) D [(cI, .int), (cZ, .boolean)] [.ref (ad 9), .int p1, .ref (ad 17)] (wC ad cI cZ f_keptSlots f_trace f_lastSeed f_text_letters f_text_length f_reader_place f_reader_greatestSource f_plan_chips f_plan_firstPins f_plan_firstPlaces f_plan_gates f_plan_inputs f_plan_registers f_plan_slowRegisters f_plan_kinds f_plan_firsts f_plan_seconds f_plan_clocks f_plan_sourceSets f_spare_chips f_spare_firstPins f_spare_firstPlaces f_spare_gates f_spare_inputs f_spare_registers f_spare_slowRegisters f_spare_kinds f_spare_firsts f_spare_seconds f_spare_clocks f_spare_sourceSets f_now_ones f_now_unknowns f_now_places f_now_pins f_now_count f_copy_ones f_copy_unknowns f_copy_places f_copy_pins f_copy_count f_logic_ones f_logic_unknowns f_logic_settled f_sched_available f_sched_wanted f_sched_coming f_sched_waiting f_sched_taken f_sched_sent f_sched_lastSent f_hist_next f_hist_held f_ring_cells f_kept_cells f_sight_steps f_sight_gates f_sight_values f_sight_truths f_sight_held X) (fun  u => ∃ w0 w1 w2 w3 w4, u = (wC ad cI cZ f_keptSlots f_trace f_lastSeed f_text_letters f_text_length f_reader_place f_reader_greatestSource f_plan_chips f_plan_firstPins f_plan_firstPlaces f_plan_gates f_plan_inputs f_plan_registers f_plan_slowRegisters f_plan_kinds f_plan_firsts f_plan_seconds f_plan_clocks f_plan_sourceSets f_spare_chips f_spare_firstPins f_spare_firstPlaces f_spare_gates f_spare_inputs f_spare_registers f_spare_slowRegisters f_spare_kinds f_spare_firsts f_spare_seconds f_spare_clocks f_spare_sourceSets w1 w4 w3 w2 w0 f_copy_ones f_copy_unknowns f_copy_places f_copy_pins f_copy_count f_logic_ones f_logic_unknowns f_logic_settled f_sched_available f_sched_wanted f_sched_coming f_sched_waiting f_sched_taken f_sched_sent f_sched_lastSent f_hist_next f_hist_held f_ring_cells f_kept_cells f_sight_steps f_sight_gates f_sight_values f_sight_truths f_sight_held X) ∧ Q w0 w1 w2 w3 w4) := by
  refine CtV.of (by decide) rfl (Nat.le_of_ble_eq_true rfl) ?_
  intro p e s m args below meth c A Z E hret ls hl hw
  have E : gE p m c cX5_get 4 s args RX5 D [(cI, .int), (cZ, .boolean)] A := E
  have hx := E.1.1
  have hb := E.1.2.1
  have hl : lv_has ls 4 [(0, .ref (ad 9)), (1, .int p1), (2, .ref (ad 17))] := hl
  unfold wp_X5_get at h
  refine lv_iload_n hx hb dX5_get_0 rfl (lv_at hl 1 rfl) ?_
  refine lv_iconst (v := 5) hx hb dX5_get_1 (by decide) ?_
  refine lv_imul hx hb dX5_get_2 ?_
  refine lv_topi (fun v1 ev1 => ?_)
  have h := h v1 ev1
  refine lv_istore_n (lv' := [(3, .int v1), (0, .ref (ad 9)), (1, .int p1), (2, .ref (ad 17))]) hx hb dX5_get_3 rfl hl (by decide) rfl (fun ls hl => ?_)
  refine lv_aload_n hx hb dX5_get_4 rfl (lv_at hl 3 rfl) ?_
  refine lv_aload_n hx hb dX5_get_5 rfl (lv_at hl 1 rfl) ?_
  refine gC_X5_15_ring E hw dX5_get_6 ?_
  refine lv_iload_n hx hb dX5_get_9 rfl (lv_at hl 0 rfl) ?_
  refine g_aI E hw (g_rSN E hw (c_X9_cell (q0 := 8) rfl h _) ym_X9_cell km_19 ⟨rfl, rfl⟩ ⟨Nat.le_of_ble_eq_true rfl, Nat.le_of_ble_eq_true rfl⟩ rfl hl.1 rfl (Nat.le_of_ble_eq_true rfl) ⟨Nat.zero_le _, Nat.zero_le _⟩ dX5_get_10) (fun r2 u H locs hq hw => ?_)
  obtain ⟨hu, h⟩ := hq
  rw [hu] at hw
  refine pC_X5_19_now E hw dX5_get_13 (fun H locs hw => ?_)
  refine lv_aload_n hx hb dX5_get_16 rfl (lv_at hl 3 rfl) ?_
  refine lv_aload_n hx hb dX5_get_17 rfl (lv_at hl 1 rfl) ?_
  refine gC_X5_15_ring E hw dX5_get_18 ?_
  refine lv_iload_n hx hb dX5_get_21 rfl (lv_at hl 0 rfl) ?_
  refine lv_iconst (v := 1) hx hb dX5_get_22 (by decide) ?_
  refine lv_iadd hx hb dX5_get_23 ?_
  refine g_aI E hw (g_rSN E hw (c_X9_cell (q0 := 8) rfl h _) ym_X9_cell km_19 ⟨rfl, rfl⟩ ⟨Nat.le_of_ble_eq_true rfl, Nat.le_of_ble_eq_true rfl⟩ rfl hl.1 rfl (Nat.le_of_ble_eq_true rfl) ⟨Nat.zero_le _, Nat.zero_le _⟩ dX5_get_24) (fun r3 u H locs hq hw => ?_)
  obtain ⟨hu, h⟩ := hq
  rw [hu] at hw
  refine pC_X5_31_now E hw dX5_get_27 (fun H locs hw => ?_)
  refine lv_aload_n hx hb dX5_get_30 rfl (lv_at hl 3 rfl) ?_
  refine lv_aload_n hx hb dX5_get_31 rfl (lv_at hl 1 rfl) ?_
  refine gC_X5_15_ring E hw dX5_get_32 ?_
  refine lv_iload_n hx hb dX5_get_35 rfl (lv_at hl 0 rfl) ?_
  refine lv_iconst (v := 2) hx hb dX5_get_36 (by decide) ?_
  refine lv_iadd hx hb dX5_get_37 ?_
  refine g_aI E hw (g_rSN E hw (c_X9_cell (q0 := 8) rfl h _) ym_X9_cell km_19 ⟨rfl, rfl⟩ ⟨Nat.le_of_ble_eq_true rfl, Nat.le_of_ble_eq_true rfl⟩ rfl hl.1 rfl (Nat.le_of_ble_eq_true rfl) ⟨Nat.zero_le _, Nat.zero_le _⟩ dX5_get_38) (fun r4 u H locs hq hw => ?_)
  obtain ⟨hu, h⟩ := hq
  rw [hu] at hw
  refine pC_X5_34_now E hw dX5_get_41 (fun H locs hw => ?_)
  refine lv_aload_n hx hb dX5_get_44 rfl (lv_at hl 3 rfl) ?_
  refine lv_aload_n hx hb dX5_get_45 rfl (lv_at hl 1 rfl) ?_
  refine gC_X5_15_ring E hw dX5_get_46 ?_
  refine lv_iload_n hx hb dX5_get_49 rfl (lv_at hl 0 rfl) ?_
  refine lv_iconst (v := 3) hx hb dX5_get_50 (by decide) ?_
  refine lv_iadd hx hb dX5_get_51 ?_
  refine g_aI E hw (g_rSN E hw (c_X9_cell (q0 := 8) rfl h _) ym_X9_cell km_19 ⟨rfl, rfl⟩ ⟨Nat.le_of_ble_eq_true rfl, Nat.le_of_ble_eq_true rfl⟩ rfl hl.1 rfl (Nat.le_of_ble_eq_true rfl) ⟨Nat.zero_le _, Nat.zero_le _⟩ dX5_get_52) (fun r5 u H locs hq hw => ?_)
  obtain ⟨hu, h⟩ := hq
  rw [hu] at hw
  refine pC_X5_37_now E hw dX5_get_55 (fun H locs hw => ?_)
  refine lv_aload_n hx hb dX5_get_58 rfl (lv_at hl 3 rfl) ?_
  refine lv_aload_n hx hb dX5_get_59 rfl (lv_at hl 1 rfl) ?_
  refine gC_X5_15_ring E hw dX5_get_60 ?_
  refine lv_iload_n hx hb dX5_get_63 rfl (lv_at hl 0 rfl) ?_
  refine lv_iconst (v := 4) hx hb dX5_get_64 (by decide) ?_
  refine lv_iadd hx hb dX5_get_65 ?_
  refine g_aI E hw (g_rSN E hw (c_X9_cell (q0 := 8) rfl h _) ym_X9_cell km_19 ⟨rfl, rfl⟩ ⟨Nat.le_of_ble_eq_true rfl, Nat.le_of_ble_eq_true rfl⟩ rfl hl.1 rfl (Nat.le_of_ble_eq_true rfl) ⟨Nat.zero_le _, Nat.zero_le _⟩ dX5_get_66) (fun r6 u H locs hq hw => ?_)
  obtain ⟨hu, h⟩ := hq
  rw [hu] at hw
  refine pC_X5_40_now E hw dX5_get_69 (fun H locs hw => ?_)
  exact hret _ _ _ _ _ ⟨_, _, _, _, _, rfl, h⟩ hw dX5_get_72
set_option maxRecDepth 100000 in
set_option maxHeartbeats 4000000 in
theorem c_X0_recall_now {l : Launch} {D : va_G} {cI cZ : ClassId} {ad : Nat → Nat} {f_keptSlots : Int32} {f_trace : Nat → Int32} {f_lastSeed : Int64} {f_text_letters : Nat → Int32} {f_text_length : Int32} {f_reader_place : Int32} {f_reader_greatestSource : Int32} {f_plan_chips : Int32} {f_plan_firstPins : Int32} {f_plan_firstPlaces : Int32} {f_plan_gates : Int32} {f_plan_inputs : Int32} {f_plan_registers : Int32} {f_plan_slowRegisters : Int32} {f_plan_kinds : Nat → Int32} {f_plan_firsts : Nat → Int32} {f_plan_seconds : Nat → Int32} {f_plan_clocks : Nat → Int32} {f_plan_sourceSets : Nat → Int32} {f_spare_chips : Int32} {f_spare_firstPins : Int32} {f_spare_firstPlaces : Int32} {f_spare_gates : Int32} {f_spare_inputs : Int32} {f_spare_registers : Int32} {f_spare_slowRegisters : Int32} {f_spare_kinds : Nat → Int32} {f_spare_firsts : Nat → Int32} {f_spare_seconds : Nat → Int32} {f_spare_clocks : Nat → Int32} {f_spare_sourceSets : Nat → Int32} {f_now_ones : Int32} {f_now_unknowns : Int32} {f_now_places : Int32} {f_now_pins : Int32} {f_now_count : Int32} {f_copy_ones : Int32} {f_copy_unknowns : Int32} {f_copy_places : Int32} {f_copy_pins : Int32} {f_copy_count : Int32} {f_logic_ones : Int32} {f_logic_unknowns : Int32} {f_logic_settled : Int32} {f_sched_available : Nat → Int32} {f_sched_wanted : Nat → Int32} {f_sched_coming : Nat → Int32} {f_sched_waiting : Int32} {f_sched_taken : Int32} {f_sched_sent : Int32} {f_sched_lastSent : Int32} {f_hist_next : Int32} {f_hist_held : Int32} {f_ring_cells : Nat → Int32} {f_kept_cells : Nat → Int32} {f_sight_steps : Nat → Int32} {f_sight_gates : Nat → Int32} {f_sight_values : Nat → Int32} {f_sight_truths : Nat → Int32} {f_sight_held : Int32} {X : va_W} {Q : Int32 → Int32 → Int32 → Int32 → Int32 → Int32 → Int32 → Prop} (h : wp_X0_recall f_hist_held f_hist_next f_ring_cells f_now_count f_now_ones f_now_pins f_now_places f_now_unknowns Q) : CtV l yX0_recall cX0_recall 2 none ({ frames := 2, cells := 0, slots := 0, locals := 44 } : Room) D [(cI, .int), (cZ, .boolean)] [.ref (ad 10), .ref (ad 17)] (wC ad cI cZ f_keptSlots f_trace f_lastSeed f_text_letters f_text_length f_reader_place f_reader_greatestSource f_plan_chips f_plan_firstPins f_plan_firstPlaces f_plan_gates f_plan_inputs f_plan_registers f_plan_slowRegisters f_plan_kinds f_plan_firsts f_plan_seconds f_plan_clocks f_plan_sourceSets f_spare_chips f_spare_firstPins f_spare_firstPlaces f_spare_gates f_spare_inputs f_spare_registers f_spare_slowRegisters f_spare_kinds f_spare_firsts f_spare_seconds f_spare_clocks f_spare_sourceSets f_now_ones f_now_unknowns f_now_places f_now_pins f_now_count f_copy_ones f_copy_unknowns f_copy_places f_copy_pins f_copy_count f_logic_ones f_logic_unknowns f_logic_settled f_sched_available f_sched_wanted f_sched_coming f_sched_waiting f_sched_taken f_sched_sent f_sched_lastSent f_hist_next f_hist_held f_ring_cells f_kept_cells f_sight_steps f_sight_gates f_sight_values f_sight_truths f_sight_held X) (fun  u => ∃ w0 w1 w2 w3 w4 w5 w6, u = (wC ad cI cZ f_keptSlots f_trace f_lastSeed f_text_letters f_text_length f_reader_place f_reader_greatestSource f_plan_chips f_plan_firstPins f_plan_firstPlaces f_plan_gates f_plan_inputs f_plan_registers f_plan_slowRegisters f_plan_kinds f_plan_firsts f_plan_seconds f_plan_clocks f_plan_sourceSets f_spare_chips f_spare_firstPins f_spare_firstPlaces f_spare_gates f_spare_inputs f_spare_registers f_spare_slowRegisters f_spare_kinds f_spare_firsts f_spare_seconds f_spare_clocks f_spare_sourceSets w3 w6 w5 w4 w2 f_copy_ones f_copy_unknowns f_copy_places f_copy_pins f_copy_count f_logic_ones f_logic_unknowns f_logic_settled f_sched_available f_sched_wanted f_sched_coming f_sched_waiting f_sched_taken f_sched_sent f_sched_lastSent w1 w0 f_ring_cells f_kept_cells f_sight_steps f_sight_gates f_sight_values f_sight_truths f_sight_held X) ∧ Q w0 w1 w2 w3 w4 w5 w6) := by
  refine CtV.of (by decide) rfl (Nat.le_of_ble_eq_true rfl) ?_
  intro p e s m args below meth c A Z E hret ls hl hw
  have E : gE p m c cX0_recall 2 s args RX0 D [(cI, .int), (cZ, .boolean)] A := E
  have hx := E.1.1
  have hb := E.1.2.1
  have hl : lv_has ls 2 [(0, .ref (ad 10)), (1, .ref (ad 17))] := hl
  have J27 : ∀ (s1 : Int32) (f_hist_held : Int32) (f_hist_next : Int32) (f_now_count : Int32) (f_now_ones : Int32) (f_now_pins : Int32) (f_now_places : Int32) (f_now_unknowns : Int32) (H : Heap) (locs : List Loc) (ls : Array Slot), wp_X0_recall_b27 f_ring_cells Q  s1 f_hist_held f_hist_next f_now_count f_now_ones f_now_pins f_now_places f_now_unknowns → gW D s A (wC ad cI cZ f_keptSlots f_trace f_lastSeed f_text_letters f_text_length f_reader_place f_reader_greatestSource f_plan_chips f_plan_firstPins f_plan_firstPlaces f_plan_gates f_plan_inputs f_plan_registers f_plan_slowRegisters f_plan_kinds f_plan_firsts f_plan_seconds f_plan_clocks f_plan_sourceSets f_spare_chips f_spare_firstPins f_spare_firstPlaces f_spare_gates f_spare_inputs f_spare_registers f_spare_slowRegisters f_spare_kinds f_spare_firsts f_spare_seconds f_spare_clocks f_spare_sourceSets f_now_ones f_now_unknowns f_now_places f_now_pins f_now_count f_copy_ones f_copy_unknowns f_copy_places f_copy_pins f_copy_count f_logic_ones f_logic_unknowns f_logic_settled f_sched_available f_sched_wanted f_sched_coming f_sched_waiting f_sched_taken f_sched_sent f_sched_lastSent f_hist_next f_hist_held f_ring_cells f_kept_cells f_sight_steps f_sight_gates f_sight_values f_sight_truths f_sight_held X) H locs → lv_has ls 2 [(0, .ref (ad 10)), (1, .ref (ad 17))] → W p l e ({ frames := 2, cells := 0, slots := 0, locals := 44 } : Room) s m args below meth c H locs 0 0 Z (F0 m 27 ls [.int s1, .ref (ad 10)]) := by
    intro s1 f_hist_held f_hist_next f_now_count f_now_ones f_now_pins f_now_places f_now_unknowns H locs ls h hw hl
    unfold wp_X0_recall_b27 at h
    refine pC_X0_20_hist E hw dX0_recall_27 (fun H locs hw => ?_)
    refine lv_aload_n hx hb dX0_recall_30 rfl (lv_at hl 0 rfl) ?_
    refine lv_dup hx hb dX0_recall_31 rfl ?_
    refine gC_X0_24_hist E hw dX0_recall_32 ?_
    refine lv_iconst (v := 1) hx hb dX0_recall_35 (by decide) ?_
    refine lv_isub hx hb dX0_recall_36 ?_
    refine lv_topi (fun v1 ev1 => ?_)
    have h := h v1 ev1
    refine pC_X0_24_hist E hw dX0_recall_37 (fun H locs hw => ?_)
    refine lv_aload_n hx hb dX0_recall_40 rfl (lv_at hl 0 rfl) ?_
    refine gC_X0_14_hist E hw dX0_recall_41 ?_
    refine lv_aload_n hx hb dX0_recall_44 rfl (lv_at hl 0 rfl) ?_
    refine gC_X0_20_hist E hw dX0_recall_45 ?_
    refine lv_aload_n hx hb dX0_recall_48 rfl (lv_at hl 1 rfl) ?_
    refine g_aV E hw (g_rV E hw (c_X5_get_now_ring h _) ym_X5_get k_386 ⟨rfl, rfl⟩ ⟨Nat.le_of_ble_eq_true rfl, Nat.le_of_ble_eq_true rfl⟩ 9 rfl rfl rfl rfl hl.1 rfl (Nat.le_of_ble_eq_true rfl) ⟨Nat.zero_le _, Nat.zero_le _⟩ dX0_recall_49) (fun u H locs hq hw => ?_)
    obtain ⟨y3, y4, y5, y6, y7, hu, h⟩ := hq
    rw [hu] at hw
    exact hret _ _ _ _ _ ⟨_, _, _, _, _, _, _, rfl, h⟩ hw dX0_recall_52
  unfold wp_X0_recall at h
  refine lv_aload_n hx hb dX0_recall_0 rfl (lv_at hl 0 rfl) ?_
  refine gC_X0_24_hist E hw dX0_recall_1 ?_
  refine lv_if_ne (tgt := 8) hx hb dX0_recall_4 (by decide) (fun c8 => ?_) (fun c8 => ?_)
  · have h := h.1 c8
    refine lv_aload_n hx hb dX0_recall_8 rfl (lv_at hl 0 rfl) ?_
    refine lv_aload_n hx hb dX0_recall_9 rfl (lv_at hl 0 rfl) ?_
    refine gC_X0_20_hist E hw dX0_recall_10 ?_
    refine lv_if_le (tgt := 25) hx hb dX0_recall_13 (by decide) (fun c9 => ?_) (fun c9 => ?_)
    · have h := h.1 c9
      refine lv_bipush (v := 13) hx hb dX0_recall_25 (by decide) ?_
      exact J27 (13 : Int32) f_hist_held f_hist_next f_now_count f_now_ones f_now_pins f_now_places f_now_unknowns _ _ _ h hw (lv_sub hl [0, 1] rfl)
    · have h := h.2 c9
      refine lv_aload_n hx hb dX0_recall_16 rfl (lv_at hl 0 rfl) ?_
      refine gC_X0_20_hist E hw dX0_recall_17 ?_
      refine lv_iconst (v := 1) hx hb dX0_recall_20 (by decide) ?_
      refine lv_isub hx hb dX0_recall_21 ?_
      refine lv_goto (tgt := 27) hx hb dX0_recall_22 (by decide) ?_
      exact J27 ((f_hist_next - (1 : Int32))) f_hist_held f_hist_next f_now_count f_now_ones f_now_pins f_now_places f_now_unknowns _ _ _ h hw (lv_sub hl [0, 1] rfl)
  · have h := h.2 c8
    exact hret _ _ _ _ _ ⟨_, _, _, _, _, _, _, rfl, h⟩ hw dX0_recall_7
set_option maxRecDepth 100000 in
set_option maxHeartbeats 4000000 in
theorem c_X7_takeFrom_now_copy {l : Launch} {D : va_G} {cI cZ : ClassId} {ad : Nat → Nat} {f_keptSlots : Int32} {f_trace : Nat → Int32} {f_lastSeed : Int64} {f_text_letters : Nat → Int32} {f_text_length : Int32} {f_reader_place : Int32} {f_reader_greatestSource : Int32} {f_plan_chips : Int32} {f_plan_firstPins : Int32} {f_plan_firstPlaces : Int32} {f_plan_gates : Int32} {f_plan_inputs : Int32} {f_plan_registers : Int32} {f_plan_slowRegisters : Int32} {f_plan_kinds : Nat → Int32} {f_plan_firsts : Nat → Int32} {f_plan_seconds : Nat → Int32} {f_plan_clocks : Nat → Int32} {f_plan_sourceSets : Nat → Int32} {f_spare_chips : Int32} {f_spare_firstPins : Int32} {f_spare_firstPlaces : Int32} {f_spare_gates : Int32} {f_spare_inputs : Int32} {f_spare_registers : Int32} {f_spare_slowRegisters : Int32} {f_spare_kinds : Nat → Int32} {f_spare_firsts : Nat → Int32} {f_spare_seconds : Nat → Int32} {f_spare_clocks : Nat → Int32} {f_spare_sourceSets : Nat → Int32} {f_now_ones : Int32} {f_now_unknowns : Int32} {f_now_places : Int32} {f_now_pins : Int32} {f_now_count : Int32} {f_copy_ones : Int32} {f_copy_unknowns : Int32} {f_copy_places : Int32} {f_copy_pins : Int32} {f_copy_count : Int32} {f_logic_ones : Int32} {f_logic_unknowns : Int32} {f_logic_settled : Int32} {f_sched_available : Nat → Int32} {f_sched_wanted : Nat → Int32} {f_sched_coming : Nat → Int32} {f_sched_waiting : Int32} {f_sched_taken : Int32} {f_sched_sent : Int32} {f_sched_lastSent : Int32} {f_hist_next : Int32} {f_hist_held : Int32} {f_ring_cells : Nat → Int32} {f_kept_cells : Nat → Int32} {f_sight_steps : Nat → Int32} {f_sight_gates : Nat → Int32} {f_sight_values : Nat → Int32} {f_sight_truths : Nat → Int32} {f_sight_held : Int32} {X : va_W} {Q : Int32 → Int32 → Int32 → Int32 → Int32 → Prop} (h : wp_X7_takeFrom f_copy_count f_copy_ones f_copy_pins f_copy_places f_copy_unknowns f_now_count f_now_ones f_now_pins f_now_places f_now_unknowns Q) : CtV l yX7_takeFrom cX7_takeFrom 2 none ({ frames := 0, cells := 0, slots := 0, locals := 0 } : Room) D [(cI, .int), (cZ, .boolean)] [.ref (ad 16), .ref (ad 17)] (wC ad cI cZ f_keptSlots f_trace f_lastSeed f_text_letters f_text_length f_reader_place f_reader_greatestSource f_plan_chips f_plan_firstPins f_plan_firstPlaces f_plan_gates f_plan_inputs f_plan_registers f_plan_slowRegisters f_plan_kinds f_plan_firsts f_plan_seconds f_plan_clocks f_plan_sourceSets f_spare_chips f_spare_firstPins f_spare_firstPlaces f_spare_gates f_spare_inputs f_spare_registers f_spare_slowRegisters f_spare_kinds f_spare_firsts f_spare_seconds f_spare_clocks f_spare_sourceSets f_now_ones f_now_unknowns f_now_places f_now_pins f_now_count f_copy_ones f_copy_unknowns f_copy_places f_copy_pins f_copy_count f_logic_ones f_logic_unknowns f_logic_settled f_sched_available f_sched_wanted f_sched_coming f_sched_waiting f_sched_taken f_sched_sent f_sched_lastSent f_hist_next f_hist_held f_ring_cells f_kept_cells f_sight_steps f_sight_gates f_sight_values f_sight_truths f_sight_held X) (fun  u => ∃ w0 w1 w2 w3 w4, u = (wC ad cI cZ f_keptSlots f_trace f_lastSeed f_text_letters f_text_length f_reader_place f_reader_greatestSource f_plan_chips f_plan_firstPins f_plan_firstPlaces f_plan_gates f_plan_inputs f_plan_registers f_plan_slowRegisters f_plan_kinds f_plan_firsts f_plan_seconds f_plan_clocks f_plan_sourceSets f_spare_chips f_spare_firstPins f_spare_firstPlaces f_spare_gates f_spare_inputs f_spare_registers f_spare_slowRegisters f_spare_kinds f_spare_firsts f_spare_seconds f_spare_clocks f_spare_sourceSets f_now_ones f_now_unknowns f_now_places f_now_pins f_now_count w1 w4 w3 w2 w0 f_logic_ones f_logic_unknowns f_logic_settled f_sched_available f_sched_wanted f_sched_coming f_sched_waiting f_sched_taken f_sched_sent f_sched_lastSent f_hist_next f_hist_held f_ring_cells f_kept_cells f_sight_steps f_sight_gates f_sight_values f_sight_truths f_sight_held X) ∧ Q w0 w1 w2 w3 w4) := by
  refine CtV.of (by decide) rfl (Nat.le_of_ble_eq_true rfl) ?_
  intro p e s m args below meth c A Z E hret ls hl hw
  have E : gE p m c cX7_takeFrom 2 s args RX7 D [(cI, .int), (cZ, .boolean)] A := E
  have hx := E.1.1
  have hb := E.1.2.1
  have hl : lv_has ls 2 [(0, .ref (ad 16)), (1, .ref (ad 17))] := hl
  unfold wp_X7_takeFrom at h
  refine lv_aload_n hx hb dX7_takeFrom_0 rfl (lv_at hl 0 rfl) ?_
  refine lv_aload_n hx hb dX7_takeFrom_1 rfl (lv_at hl 1 rfl) ?_
  refine gC_X7_9_now E hw dX7_takeFrom_2 ?_
  refine pC_X7_9_copy E hw dX7_takeFrom_5 (fun H locs hw => ?_)
  refine lv_aload_n hx hb dX7_takeFrom_8 rfl (lv_at hl 0 rfl) ?_
  refine lv_aload_n hx hb dX7_takeFrom_9 rfl (lv_at hl 1 rfl) ?_
  refine gC_X7_15_now E hw dX7_takeFrom_10 ?_
  refine pC_X7_15_copy E hw dX7_takeFrom_13 (fun H locs hw => ?_)
  refine lv_aload_n hx hb dX7_takeFrom_16 rfl (lv_at hl 0 rfl) ?_
  refine lv_aload_n hx hb dX7_takeFrom_17 rfl (lv_at hl 1 rfl) ?_
  refine gC_X7_18_now E hw dX7_takeFrom_18 ?_
  refine pC_X7_18_copy E hw dX7_takeFrom_21 (fun H locs hw => ?_)
  refine lv_aload_n hx hb dX7_takeFrom_24 rfl (lv_at hl 0 rfl) ?_
  refine lv_aload_n hx hb dX7_takeFrom_25 rfl (lv_at hl 1 rfl) ?_
  refine gC_X7_21_now E hw dX7_takeFrom_26 ?_
  refine pC_X7_21_copy E hw dX7_takeFrom_29 (fun H locs hw => ?_)
  refine lv_aload_n hx hb dX7_takeFrom_32 rfl (lv_at hl 0 rfl) ?_
  refine lv_aload_n hx hb dX7_takeFrom_33 rfl (lv_at hl 1 rfl) ?_
  refine gC_X7_24_now E hw dX7_takeFrom_34 ?_
  refine pC_X7_24_copy E hw dX7_takeFrom_37 (fun H locs hw => ?_)
  exact hret _ _ _ _ _ ⟨_, _, _, _, _, rfl, h⟩ hw dX7_takeFrom_40
set_option maxRecDepth 100000 in
set_option maxHeartbeats 4000000 in
theorem c_X7_store_copy {l : Launch} {D : va_G} {cI cZ : ClassId} {ad : Nat → Nat} {f_keptSlots : Int32} {f_trace : Nat → Int32} {f_lastSeed : Int64} {f_text_letters : Nat → Int32} {f_text_length : Int32} {f_reader_place : Int32} {f_reader_greatestSource : Int32} {f_plan_chips : Int32} {f_plan_firstPins : Int32} {f_plan_firstPlaces : Int32} {f_plan_gates : Int32} {f_plan_inputs : Int32} {f_plan_registers : Int32} {f_plan_slowRegisters : Int32} {f_plan_kinds : Nat → Int32} {f_plan_firsts : Nat → Int32} {f_plan_seconds : Nat → Int32} {f_plan_clocks : Nat → Int32} {f_plan_sourceSets : Nat → Int32} {f_spare_chips : Int32} {f_spare_firstPins : Int32} {f_spare_firstPlaces : Int32} {f_spare_gates : Int32} {f_spare_inputs : Int32} {f_spare_registers : Int32} {f_spare_slowRegisters : Int32} {f_spare_kinds : Nat → Int32} {f_spare_firsts : Nat → Int32} {f_spare_seconds : Nat → Int32} {f_spare_clocks : Nat → Int32} {f_spare_sourceSets : Nat → Int32} {f_now_ones : Int32} {f_now_unknowns : Int32} {f_now_places : Int32} {f_now_pins : Int32} {f_now_count : Int32} {f_copy_ones : Int32} {f_copy_unknowns : Int32} {f_copy_places : Int32} {f_copy_pins : Int32} {f_copy_count : Int32} {f_logic_ones : Int32} {f_logic_unknowns : Int32} {f_logic_settled : Int32} {f_sched_available : Nat → Int32} {f_sched_wanted : Nat → Int32} {f_sched_coming : Nat → Int32} {f_sched_waiting : Int32} {f_sched_taken : Int32} {f_sched_sent : Int32} {f_sched_lastSent : Int32} {f_hist_next : Int32} {f_hist_held : Int32} {f_ring_cells : Nat → Int32} {f_kept_cells : Nat → Int32} {f_sight_steps : Nat → Int32} {f_sight_gates : Nat → Int32} {f_sight_values : Nat → Int32} {f_sight_truths : Nat → Int32} {f_sight_held : Int32} {X : va_W} {p1 : Int32} {p2 : Int32} {Q : Int32 → Int32 → Prop} (h : wp_X7_store f_copy_ones f_copy_unknowns p1 p2 Q) : CtV l yX7_store cX7_store 3 none ({ frames := 1, cells := 0, slots := 0, locals := 20 } : Room) D [(cI, .int), (cZ, .boolean)] [.ref (ad 16), .int p1, .int p2] (wC ad cI cZ f_keptSlots f_trace f_lastSeed f_text_letters f_text_length f_reader_place f_reader_greatestSource f_plan_chips f_plan_firstPins f_plan_firstPlaces f_plan_gates f_plan_inputs f_plan_registers f_plan_slowRegisters f_plan_kinds f_plan_firsts f_plan_seconds f_plan_clocks f_plan_sourceSets f_spare_chips f_spare_firstPins f_spare_firstPlaces f_spare_gates f_spare_inputs f_spare_registers f_spare_slowRegisters f_spare_kinds f_spare_firsts f_spare_seconds f_spare_clocks f_spare_sourceSets f_now_ones f_now_unknowns f_now_places f_now_pins f_now_count f_copy_ones f_copy_unknowns f_copy_places f_copy_pins f_copy_count f_logic_ones f_logic_unknowns f_logic_settled f_sched_available f_sched_wanted f_sched_coming f_sched_waiting f_sched_taken f_sched_sent f_sched_lastSent f_hist_next f_hist_held f_ring_cells f_kept_cells f_sight_steps f_sight_gates f_sight_values f_sight_truths f_sight_held X) (fun  u => ∃ w0 w1, u = (wC ad cI cZ f_keptSlots f_trace f_lastSeed f_text_letters f_text_length f_reader_place f_reader_greatestSource f_plan_chips f_plan_firstPins f_plan_firstPlaces f_plan_gates f_plan_inputs f_plan_registers f_plan_slowRegisters f_plan_kinds f_plan_firsts f_plan_seconds f_plan_clocks f_plan_sourceSets f_spare_chips f_spare_firstPins f_spare_firstPlaces f_spare_gates f_spare_inputs f_spare_registers f_spare_slowRegisters f_spare_kinds f_spare_firsts f_spare_seconds f_spare_clocks f_spare_sourceSets f_now_ones f_now_unknowns f_now_places f_now_pins f_now_count w0 w1 f_copy_places f_copy_pins f_copy_count f_logic_ones f_logic_unknowns f_logic_settled f_sched_available f_sched_wanted f_sched_coming f_sched_waiting f_sched_taken f_sched_sent f_sched_lastSent f_hist_next f_hist_held f_ring_cells f_kept_cells f_sight_steps f_sight_gates f_sight_values f_sight_truths f_sight_held X) ∧ Q w0 w1) := by
  refine CtV.of (by decide) rfl (Nat.le_of_ble_eq_true rfl) ?_
  intro p e s m args below meth c A Z E hret ls hl hw
  have E : gE p m c cX7_store 3 s args RX7 D [(cI, .int), (cZ, .boolean)] A := E
  have hx := E.1.1
  have hb := E.1.2.1
  have hl : lv_has ls 3 [(0, .ref (ad 16)), (1, .int p1), (2, .int p2)] := hl
  have J29 : ∀ (s1 : Int32) (f_copy_ones : Int32) (f_copy_unknowns : Int32) (H : Heap) (locs : List Loc) (ls : Array Slot), wp_X7_store_b29 p1 p2 Q  s1 f_copy_ones f_copy_unknowns → gW D s A (wC ad cI cZ f_keptSlots f_trace f_lastSeed f_text_letters f_text_length f_reader_place f_reader_greatestSource f_plan_chips f_plan_firstPins f_plan_firstPlaces f_plan_gates f_plan_inputs f_plan_registers f_plan_slowRegisters f_plan_kinds f_plan_firsts f_plan_seconds f_plan_clocks f_plan_sourceSets f_spare_chips f_spare_firstPins f_spare_firstPlaces f_spare_gates f_spare_inputs f_spare_registers f_spare_slowRegisters f_spare_kinds f_spare_firsts f_spare_seconds f_spare_clocks f_spare_sourceSets f_now_ones f_now_unknowns f_now_places f_now_pins f_now_count f_copy_ones f_copy_unknowns f_copy_places f_copy_pins f_copy_count f_logic_ones f_logic_unknowns f_logic_settled f_sched_available f_sched_wanted f_sched_coming f_sched_waiting f_sched_taken f_sched_sent f_sched_lastSent f_hist_next f_hist_held f_ring_cells f_kept_cells f_sight_steps f_sight_gates f_sight_values f_sight_truths f_sight_held X) H locs → lv_has ls 3 [(0, .ref (ad 16)), (1, .int p1), (2, .int p2)] → W p l e ({ frames := 1, cells := 0, slots := 0, locals := 20 } : Room) s m args below meth c H locs 0 0 Z (F0 m 29 ls [.int s1, .ref (ad 16)]) := by
    intro s1 f_copy_ones f_copy_unknowns H locs ls h hw hl
    unfold wp_X7_store_b29 at h
    refine pC_X7_9_copy E hw dX7_store_29 (fun H locs hw => ?_)
    refine lv_aload_n hx hb dX7_store_32 rfl (lv_at hl 0 rfl) ?_
    refine lv_iload_n hx hb dX7_store_33 rfl (lv_at hl 2 rfl) ?_
    refine lv_iconst (v := 2) hx hb dX7_store_34 (by decide) ?_
    refine lv_icmp_ne (tgt := 50) hx hb dX7_store_35 (by decide) (fun c1 => ?_) (fun c1 => ?_)
    · have h := h.1 c1
      refine lv_aload_n hx hb dX7_store_50 rfl (lv_at hl 0 rfl) ?_
      refine gC_X7_15_copy E hw dX7_store_51 ?_
      refine lv_iload_n hx hb dX7_store_54 rfl (lv_at hl 1 rfl) ?_
      refine g_aI E hw (g_rSN E hw (c_X9_bit h _) ym_X9_bit km_18 ⟨rfl, rfl⟩ ⟨Nat.le_of_ble_eq_true rfl, Nat.le_of_ble_eq_true rfl⟩ rfl hl.1 rfl (Nat.le_of_ble_eq_true rfl) ⟨Nat.zero_le _, Nat.zero_le _⟩ dX7_store_55) (fun r2 u H locs hq hw => ?_)
      obtain ⟨hu, h⟩ := hq
      rw [hu] at hw
      refine lv_iconst (v := -1) hx hb dX7_store_58 (by decide) ?_
      refine lv_ixor hx hb dX7_store_59 ?_
      refine lv_iand hx hb dX7_store_60 ?_
      refine lv_topi (fun v3 ev3 => ?_)
      have h := h v3 ev3
      refine pC_X7_15_copy E hw dX7_store_61 (fun H locs hw => ?_)
      exact hret _ _ _ _ _ ⟨_, _, rfl, h⟩ hw dX7_store_64
    · have h := h.2 c1
      refine lv_aload_n hx hb dX7_store_38 rfl (lv_at hl 0 rfl) ?_
      refine gC_X7_15_copy E hw dX7_store_39 ?_
      refine lv_iload_n hx hb dX7_store_42 rfl (lv_at hl 1 rfl) ?_
      refine g_aI E hw (g_rSN E hw (c_X9_bit h _) ym_X9_bit km_18 ⟨rfl, rfl⟩ ⟨Nat.le_of_ble_eq_true rfl, Nat.le_of_ble_eq_true rfl⟩ rfl hl.1 rfl (Nat.le_of_ble_eq_true rfl) ⟨Nat.zero_le _, Nat.zero_le _⟩ dX7_store_43) (fun r4 u H locs hq hw => ?_)
      obtain ⟨hu, h⟩ := hq
      rw [hu] at hw
      refine lv_ior hx hb dX7_store_46 ?_
      refine lv_goto (tgt := 61) hx hb dX7_store_47 (by decide) ?_
      refine lv_topi (fun v5 ev5 => ?_)
      have h := h v5 ev5
      refine pC_X7_15_copy E hw dX7_store_61 (fun H locs hw => ?_)
      exact hret _ _ _ _ _ ⟨_, _, rfl, h⟩ hw dX7_store_64
  unfold wp_X7_store at h
  refine lv_aload_n hx hb dX7_store_0 rfl (lv_at hl 0 rfl) ?_
  refine lv_iload_n hx hb dX7_store_1 rfl (lv_at hl 2 rfl) ?_
  refine lv_iconst (v := 1) hx hb dX7_store_2 (by decide) ?_
  refine lv_icmp_ne (tgt := 18) hx hb dX7_store_3 (by decide) (fun c6 => ?_) (fun c6 => ?_)
  · have h := h.1 c6
    refine lv_aload_n hx hb dX7_store_18 rfl (lv_at hl 0 rfl) ?_
    refine gC_X7_9_copy E hw dX7_store_19 ?_
    refine lv_iload_n hx hb dX7_store_22 rfl (lv_at hl 1 rfl) ?_
    refine g_aI E hw (g_rSN E hw (c_X9_bit h _) ym_X9_bit km_18 ⟨rfl, rfl⟩ ⟨Nat.le_of_ble_eq_true rfl, Nat.le_of_ble_eq_true rfl⟩ rfl hl.1 rfl (Nat.le_of_ble_eq_true rfl) ⟨Nat.zero_le _, Nat.zero_le _⟩ dX7_store_23) (fun r7 u H locs hq hw => ?_)
    obtain ⟨hu, h⟩ := hq
    rw [hu] at hw
    refine lv_iconst (v := -1) hx hb dX7_store_26 (by decide) ?_
    refine lv_ixor hx hb dX7_store_27 ?_
    refine lv_iand hx hb dX7_store_28 ?_
    exact J29 ((f_copy_ones &&& (r7 ^^^ (-1 : Int32)))) f_copy_ones f_copy_unknowns _ _ _ h hw (lv_sub hl [0, 1, 2] rfl)
  · have h := h.2 c6
    refine lv_aload_n hx hb dX7_store_6 rfl (lv_at hl 0 rfl) ?_
    refine gC_X7_9_copy E hw dX7_store_7 ?_
    refine lv_iload_n hx hb dX7_store_10 rfl (lv_at hl 1 rfl) ?_
    refine g_aI E hw (g_rSN E hw (c_X9_bit h _) ym_X9_bit km_18 ⟨rfl, rfl⟩ ⟨Nat.le_of_ble_eq_true rfl, Nat.le_of_ble_eq_true rfl⟩ rfl hl.1 rfl (Nat.le_of_ble_eq_true rfl) ⟨Nat.zero_le _, Nat.zero_le _⟩ dX7_store_11) (fun r8 u H locs hq hw => ?_)
    obtain ⟨hu, h⟩ := hq
    rw [hu] at hw
    refine lv_ior hx hb dX7_store_14 ?_
    refine lv_goto (tgt := 29) hx hb dX7_store_15 (by decide) ?_
    exact J29 ((f_copy_ones ||| r8)) f_copy_ones f_copy_unknowns _ _ _ h hw (lv_sub hl [0, 1, 2] rfl)
set_option maxRecDepth 100000 in
set_option maxHeartbeats 4000000 in
theorem c_X6_add {l : Launch} {D : va_G} {cI cZ : ClassId} {ad : Nat → Nat} {f_keptSlots : Int32} {f_trace : Nat → Int32} {f_lastSeed : Int64} {f_text_letters : Nat → Int32} {f_text_length : Int32} {f_reader_place : Int32} {f_reader_greatestSource : Int32} {f_plan_chips : Int32} {f_plan_firstPins : Int32} {f_plan_firstPlaces : Int32} {f_plan_gates : Int32} {f_plan_inputs : Int32} {f_plan_registers : Int32} {f_plan_slowRegisters : Int32} {f_plan_kinds : Nat → Int32} {f_plan_firsts : Nat → Int32} {f_plan_seconds : Nat → Int32} {f_plan_clocks : Nat → Int32} {f_plan_sourceSets : Nat → Int32} {f_spare_chips : Int32} {f_spare_firstPins : Int32} {f_spare_firstPlaces : Int32} {f_spare_gates : Int32} {f_spare_inputs : Int32} {f_spare_registers : Int32} {f_spare_slowRegisters : Int32} {f_spare_kinds : Nat → Int32} {f_spare_firsts : Nat → Int32} {f_spare_seconds : Nat → Int32} {f_spare_clocks : Nat → Int32} {f_spare_sourceSets : Nat → Int32} {f_now_ones : Int32} {f_now_unknowns : Int32} {f_now_places : Int32} {f_now_pins : Int32} {f_now_count : Int32} {f_copy_ones : Int32} {f_copy_unknowns : Int32} {f_copy_places : Int32} {f_copy_pins : Int32} {f_copy_count : Int32} {f_logic_ones : Int32} {f_logic_unknowns : Int32} {f_logic_settled : Int32} {f_sched_available : Nat → Int32} {f_sched_wanted : Nat → Int32} {f_sched_coming : Nat → Int32} {f_sched_waiting : Int32} {f_sched_taken : Int32} {f_sched_sent : Int32} {f_sched_lastSent : Int32} {f_hist_next : Int32} {f_hist_held : Int32} {f_ring_cells : Nat → Int32} {f_kept_cells : Nat → Int32} {f_sight_steps : Nat → Int32} {f_sight_gates : Nat → Int32} {f_sight_values : Nat → Int32} {f_sight_truths : Nat → Int32} {f_sight_held : Int32} {X : va_W} {p1 : Int32} {p2 : Int32} {p3 : Int32} {p4 : Int32} {Q : Int32 → (Nat → Int32) → Int32 → (Nat → Int32) → (Nat → Int32) → (Nat → Int32) → Prop} (h : wp_X6_add f_sight_gates f_sight_held f_sight_steps f_sight_truths f_sight_values p1 p2 p3 p4 Q) : CtI l yX6_add cX6_add 5 (some .boolean) ({ frames := 1, cells := 0, slots := 0, locals := 22 } : Room) D [(cI, .int), (cZ, .boolean)] [.ref (ad 5), .int p1, .int p2, .int p3, .int p4] (wC ad cI cZ f_keptSlots f_trace f_lastSeed f_text_letters f_text_length f_reader_place f_reader_greatestSource f_plan_chips f_plan_firstPins f_plan_firstPlaces f_plan_gates f_plan_inputs f_plan_registers f_plan_slowRegisters f_plan_kinds f_plan_firsts f_plan_seconds f_plan_clocks f_plan_sourceSets f_spare_chips f_spare_firstPins f_spare_firstPlaces f_spare_gates f_spare_inputs f_spare_registers f_spare_slowRegisters f_spare_kinds f_spare_firsts f_spare_seconds f_spare_clocks f_spare_sourceSets f_now_ones f_now_unknowns f_now_places f_now_pins f_now_count f_copy_ones f_copy_unknowns f_copy_places f_copy_pins f_copy_count f_logic_ones f_logic_unknowns f_logic_settled f_sched_available f_sched_wanted f_sched_coming f_sched_waiting f_sched_taken f_sched_sent f_sched_lastSent f_hist_next f_hist_held f_ring_cells f_kept_cells f_sight_steps f_sight_gates f_sight_values f_sight_truths f_sight_held X) (fun r u => ∃ w0 w1 w2 w3 w4, u = (wC ad cI cZ f_keptSlots f_trace f_lastSeed f_text_letters f_text_length f_reader_place f_reader_greatestSource f_plan_chips f_plan_firstPins f_plan_firstPlaces f_plan_gates f_plan_inputs f_plan_registers f_plan_slowRegisters f_plan_kinds f_plan_firsts f_plan_seconds f_plan_clocks f_plan_sourceSets f_spare_chips f_spare_firstPins f_spare_firstPlaces f_spare_gates f_spare_inputs f_spare_registers f_spare_slowRegisters f_spare_kinds f_spare_firsts f_spare_seconds f_spare_clocks f_spare_sourceSets f_now_ones f_now_unknowns f_now_places f_now_pins f_now_count f_copy_ones f_copy_unknowns f_copy_places f_copy_pins f_copy_count f_logic_ones f_logic_unknowns f_logic_settled f_sched_available f_sched_wanted f_sched_coming f_sched_waiting f_sched_taken f_sched_sent f_sched_lastSent f_hist_next f_hist_held f_ring_cells f_kept_cells w2 w0 w4 w3 w1 X) ∧ Q r w0 w1 w2 w3 w4) := by
  refine CtI.ofZ (by decide) rfl (Nat.le_of_ble_eq_true rfl) ?_
  intro p e s m args below meth c A Z E hret ls hl hw
  have E : gE p m c cX6_add 5 s args RX6 D [(cI, .int), (cZ, .boolean)] A := E
  have hx := E.1.1
  have hb := E.1.2.1
  have hl : lv_has ls 5 [(0, .ref (ad 5)), (1, .int p1), (2, .int p2), (3, .int p3), (4, .int p4)] := hl
  unfold wp_X6_add at h
  refine lv_aload_n hx hb dX6_add_0 rfl (lv_at hl 0 rfl) ?_
  refine gC_X6_24_sight E hw dX6_add_1 ?_
  refine lv_bipush (v := 6) hx hb dX6_add_4 (by decide) ?_
  refine lv_icmp_lt (tgt := 11) hx hb dX6_add_6 (by decide) (fun c1 => ?_) (fun c1 => ?_)
  · have h := h.1 c1
    refine lv_aload_n hx hb dX6_add_11 rfl (lv_at hl 0 rfl) ?_
    refine gC_X6_9_sight E hw dX6_add_12 ?_
    refine lv_aload_n hx hb dX6_add_15 rfl (lv_at hl 0 rfl) ?_
    refine gC_X6_24_sight E hw dX6_add_16 ?_
    refine lv_iload_n hx hb dX6_add_19 rfl (lv_at hl 1 rfl) ?_
    refine g_aV E hw (g_rSN E hw (c_X9_setCell (q0 := 4) rfl h _) ym_X9_setCell km_25 ⟨rfl, rfl⟩ ⟨Nat.le_of_ble_eq_true rfl, Nat.le_of_ble_eq_true rfl⟩ rfl hl.1 rfl (Nat.le_of_ble_eq_true rfl) ⟨Nat.zero_le _, Nat.zero_le _⟩ dX6_add_20) (fun u H locs hq hw => ?_)
    obtain ⟨y3, hu, h⟩ := hq
    rw [hu] at hw
    have hw : gW D s A (wC ad cI cZ f_keptSlots f_trace f_lastSeed f_text_letters f_text_length f_reader_place f_reader_greatestSource f_plan_chips f_plan_firstPins f_plan_firstPlaces f_plan_gates f_plan_inputs f_plan_registers f_plan_slowRegisters f_plan_kinds f_plan_firsts f_plan_seconds f_plan_clocks f_plan_sourceSets f_spare_chips f_spare_firstPins f_spare_firstPlaces f_spare_gates f_spare_inputs f_spare_registers f_spare_slowRegisters f_spare_kinds f_spare_firsts f_spare_seconds f_spare_clocks f_spare_sourceSets f_now_ones f_now_unknowns f_now_places f_now_pins f_now_count f_copy_ones f_copy_unknowns f_copy_places f_copy_pins f_copy_count f_logic_ones f_logic_unknowns f_logic_settled f_sched_available f_sched_wanted f_sched_coming f_sched_waiting f_sched_taken f_sched_sent f_sched_lastSent f_hist_next f_hist_held f_ring_cells f_kept_cells y3 f_sight_gates f_sight_values f_sight_truths f_sight_held X) _ _ := hw
    refine lv_aload_n hx hb dX6_add_23 rfl (lv_at hl 0 rfl) ?_
    refine gC_X6_15_sight E hw dX6_add_24 ?_
    refine lv_aload_n hx hb dX6_add_27 rfl (lv_at hl 0 rfl) ?_
    refine gC_X6_24_sight E hw dX6_add_28 ?_
    refine lv_iload_n hx hb dX6_add_31 rfl (lv_at hl 2 rfl) ?_
    refine g_aV E hw (g_rSN E hw (c_X9_setCell (q0 := 3) rfl h _) ym_X9_setCell km_25 ⟨rfl, rfl⟩ ⟨Nat.le_of_ble_eq_true rfl, Nat.le_of_ble_eq_true rfl⟩ rfl hl.1 rfl (Nat.le_of_ble_eq_true rfl) ⟨Nat.zero_le _, Nat.zero_le _⟩ dX6_add_32) (fun u H locs hq hw => ?_)
    obtain ⟨y5, hu, h⟩ := hq
    rw [hu] at hw
    have hw : gW D s A (wC ad cI cZ f_keptSlots f_trace f_lastSeed f_text_letters f_text_length f_reader_place f_reader_greatestSource f_plan_chips f_plan_firstPins f_plan_firstPlaces f_plan_gates f_plan_inputs f_plan_registers f_plan_slowRegisters f_plan_kinds f_plan_firsts f_plan_seconds f_plan_clocks f_plan_sourceSets f_spare_chips f_spare_firstPins f_spare_firstPlaces f_spare_gates f_spare_inputs f_spare_registers f_spare_slowRegisters f_spare_kinds f_spare_firsts f_spare_seconds f_spare_clocks f_spare_sourceSets f_now_ones f_now_unknowns f_now_places f_now_pins f_now_count f_copy_ones f_copy_unknowns f_copy_places f_copy_pins f_copy_count f_logic_ones f_logic_unknowns f_logic_settled f_sched_available f_sched_wanted f_sched_coming f_sched_waiting f_sched_taken f_sched_sent f_sched_lastSent f_hist_next f_hist_held f_ring_cells f_kept_cells y3 y5 f_sight_values f_sight_truths f_sight_held X) _ _ := hw
    refine lv_aload_n hx hb dX6_add_35 rfl (lv_at hl 0 rfl) ?_
    refine gC_X6_18_sight E hw dX6_add_36 ?_
    refine lv_aload_n hx hb dX6_add_39 rfl (lv_at hl 0 rfl) ?_
    refine gC_X6_24_sight E hw dX6_add_40 ?_
    refine lv_iload_n hx hb dX6_add_43 rfl (lv_at hl 3 rfl) ?_
    refine g_aV E hw (g_rSN E hw (c_X9_setCell (q0 := 2) rfl h _) ym_X9_setCell km_25 ⟨rfl, rfl⟩ ⟨Nat.le_of_ble_eq_true rfl, Nat.le_of_ble_eq_true rfl⟩ rfl hl.1 rfl (Nat.le_of_ble_eq_true rfl) ⟨Nat.zero_le _, Nat.zero_le _⟩ dX6_add_44) (fun u H locs hq hw => ?_)
    obtain ⟨y7, hu, h⟩ := hq
    rw [hu] at hw
    have hw : gW D s A (wC ad cI cZ f_keptSlots f_trace f_lastSeed f_text_letters f_text_length f_reader_place f_reader_greatestSource f_plan_chips f_plan_firstPins f_plan_firstPlaces f_plan_gates f_plan_inputs f_plan_registers f_plan_slowRegisters f_plan_kinds f_plan_firsts f_plan_seconds f_plan_clocks f_plan_sourceSets f_spare_chips f_spare_firstPins f_spare_firstPlaces f_spare_gates f_spare_inputs f_spare_registers f_spare_slowRegisters f_spare_kinds f_spare_firsts f_spare_seconds f_spare_clocks f_spare_sourceSets f_now_ones f_now_unknowns f_now_places f_now_pins f_now_count f_copy_ones f_copy_unknowns f_copy_places f_copy_pins f_copy_count f_logic_ones f_logic_unknowns f_logic_settled f_sched_available f_sched_wanted f_sched_coming f_sched_waiting f_sched_taken f_sched_sent f_sched_lastSent f_hist_next f_hist_held f_ring_cells f_kept_cells y3 y5 y7 f_sight_truths f_sight_held X) _ _ := hw
    refine lv_aload_n hx hb dX6_add_47 rfl (lv_at hl 0 rfl) ?_
    refine gC_X6_21_sight E hw dX6_add_48 ?_
    refine lv_aload_n hx hb dX6_add_51 rfl (lv_at hl 0 rfl) ?_
    refine gC_X6_24_sight E hw dX6_add_52 ?_
    refine lv_iload hx hb dX6_add_55 (lv_at hl 4 rfl) ?_
    refine g_aV E hw (g_rSN E hw (c_X9_setCell (q0 := 1) rfl h _) ym_X9_setCell km_25 ⟨rfl, rfl⟩ ⟨Nat.le_of_ble_eq_true rfl, Nat.le_of_ble_eq_true rfl⟩ rfl hl.1 rfl (Nat.le_of_ble_eq_true rfl) ⟨Nat.zero_le _, Nat.zero_le _⟩ dX6_add_57) (fun u H locs hq hw => ?_)
    obtain ⟨y9, hu, h⟩ := hq
    rw [hu] at hw
    have hw : gW D s A (wC ad cI cZ f_keptSlots f_trace f_lastSeed f_text_letters f_text_length f_reader_place f_reader_greatestSource f_plan_chips f_plan_firstPins f_plan_firstPlaces f_plan_gates f_plan_inputs f_plan_registers f_plan_slowRegisters f_plan_kinds f_plan_firsts f_plan_seconds f_plan_clocks f_plan_sourceSets f_spare_chips f_spare_firstPins f_spare_firstPlaces f_spare_gates f_spare_inputs f_spare_registers f_spare_slowRegisters f_spare_kinds f_spare_firsts f_spare_seconds f_spare_clocks f_spare_sourceSets f_now_ones f_now_unknowns f_now_places f_now_pins f_now_count f_copy_ones f_copy_unknowns f_copy_places f_copy_pins f_copy_count f_logic_ones f_logic_unknowns f_logic_settled f_sched_available f_sched_wanted f_sched_coming f_sched_waiting f_sched_taken f_sched_sent f_sched_lastSent f_hist_next f_hist_held f_ring_cells f_kept_cells y3 y5 y7 y9 f_sight_held X) _ _ := hw
    refine lv_aload_n hx hb dX6_add_60 rfl (lv_at hl 0 rfl) ?_
    refine lv_dup hx hb dX6_add_61 rfl ?_
    refine gC_X6_24_sight E hw dX6_add_62 ?_
    refine lv_iconst (v := 1) hx hb dX6_add_65 (by decide) ?_
    refine lv_iadd hx hb dX6_add_66 ?_
    refine lv_topi (fun v10 ev10 => ?_)
    have h := h v10 ev10
    refine pC_X6_24_sight E hw dX6_add_67 (fun H locs hw => ?_)
    refine lv_iconst (v := 1) hx hb dX6_add_70 (by decide) ?_
    exact hret _ _ _ _ _ _ (Or.inr rfl) ⟨_, _, _, _, _, rfl, h⟩ hw dX6_add_71
  · have h := h.2 c1
    refine lv_iconst (v := 0) hx hb dX6_add_9 (by decide) ?_
    exact hret _ _ _ _ _ _ (Or.inl rfl) ⟨_, _, _, _, _, rfl, h⟩ hw dX6_add_10
set_option maxRecDepth 100000 in
set_option maxHeartbeats 4000000 in
theorem c_X6_agree_plan_logic {l : Launch} {D : va_G} {cI cZ : ClassId} {ad : Nat → Nat} {f_keptSlots : Int32} {f_trace : Nat → Int32} {f_lastSeed : Int64} {f_text_letters : Nat → Int32} {f_text_length : Int32} {f_reader_place : Int32} {f_reader_greatestSource : Int32} {f_plan_chips : Int32} {f_plan_firstPins : Int32} {f_plan_firstPlaces : Int32} {f_plan_gates : Int32} {f_plan_inputs : Int32} {f_plan_registers : Int32} {f_plan_slowRegisters : Int32} {f_plan_kinds : Nat → Int32} {f_plan_firsts : Nat → Int32} {f_plan_seconds : Nat → Int32} {f_plan_clocks : Nat → Int32} {f_plan_sourceSets : Nat → Int32} {f_spare_chips : Int32} {f_spare_firstPins : Int32} {f_spare_firstPlaces : Int32} {f_spare_gates : Int32} {f_spare_inputs : Int32} {f_spare_registers : Int32} {f_spare_slowRegisters : Int32} {f_spare_kinds : Nat → Int32} {f_spare_firsts : Nat → Int32} {f_spare_seconds : Nat → Int32} {f_spare_clocks : Nat → Int32} {f_spare_sourceSets : Nat → Int32} {f_now_ones : Int32} {f_now_unknowns : Int32} {f_now_places : Int32} {f_now_pins : Int32} {f_now_count : Int32} {f_copy_ones : Int32} {f_copy_unknowns : Int32} {f_copy_places : Int32} {f_copy_pins : Int32} {f_copy_count : Int32} {f_logic_ones : Int32} {f_logic_unknowns : Int32} {f_logic_settled : Int32} {f_sched_available : Nat → Int32} {f_sched_wanted : Nat → Int32} {f_sched_coming : Nat → Int32} {f_sched_waiting : Int32} {f_sched_taken : Int32} {f_sched_sent : Int32} {f_sched_lastSent : Int32} {f_hist_next : Int32} {f_hist_held : Int32} {f_ring_cells : Nat → Int32} {f_kept_cells : Nat → Int32} {f_sight_steps : Nat → Int32} {f_sight_gates : Nat → Int32} {f_sight_values : Nat → Int32} {f_sight_truths : Nat → Int32} {f_sight_held : Int32} {X : va_W} {p1 : Int32} {Q : Int32 → Prop} (h : wp_X6_agree f_sight_gates f_sight_held f_sight_steps f_sight_truths f_sight_values f_plan_gates f_logic_ones f_logic_unknowns p1 Q) : CtI l yX6_agree cX6_agree 7 (some .boolean) ({ frames := 2, cells := 0, slots := 0, locals := 42 } : Room) D [(cI, .int), (cZ, .boolean)] [.ref (ad 5), .int p1, .ref (ad 29), .ref (ad 15)] (wC ad cI cZ f_keptSlots f_trace f_lastSeed f_text_letters f_text_length f_reader_place f_reader_greatestSource f_plan_chips f_plan_firstPins f_plan_firstPlaces f_plan_gates f_plan_inputs f_plan_registers f_plan_slowRegisters f_plan_kinds f_plan_firsts f_plan_seconds f_plan_clocks f_plan_sourceSets f_spare_chips f_spare_firstPins f_spare_firstPlaces f_spare_gates f_spare_inputs f_spare_registers f_spare_slowRegisters f_spare_kinds f_spare_firsts f_spare_seconds f_spare_clocks f_spare_sourceSets f_now_ones f_now_unknowns f_now_places f_now_pins f_now_count f_copy_ones f_copy_unknowns f_copy_places f_copy_pins f_copy_count f_logic_ones f_logic_unknowns f_logic_settled f_sched_available f_sched_wanted f_sched_coming f_sched_waiting f_sched_taken f_sched_sent f_sched_lastSent f_hist_next f_hist_held f_ring_cells f_kept_cells f_sight_steps f_sight_gates f_sight_values f_sight_truths f_sight_held X) (fun r u => u = (wC ad cI cZ f_keptSlots f_trace f_lastSeed f_text_letters f_text_length f_reader_place f_reader_greatestSource f_plan_chips f_plan_firstPins f_plan_firstPlaces f_plan_gates f_plan_inputs f_plan_registers f_plan_slowRegisters f_plan_kinds f_plan_firsts f_plan_seconds f_plan_clocks f_plan_sourceSets f_spare_chips f_spare_firstPins f_spare_firstPlaces f_spare_gates f_spare_inputs f_spare_registers f_spare_slowRegisters f_spare_kinds f_spare_firsts f_spare_seconds f_spare_clocks f_spare_sourceSets f_now_ones f_now_unknowns f_now_places f_now_pins f_now_count f_copy_ones f_copy_unknowns f_copy_places f_copy_pins f_copy_count f_logic_ones f_logic_unknowns f_logic_settled f_sched_available f_sched_wanted f_sched_coming f_sched_waiting f_sched_taken f_sched_sent f_sched_lastSent f_hist_next f_hist_held f_ring_cells f_kept_cells f_sight_steps f_sight_gates f_sight_values f_sight_truths f_sight_held X) ∧ Q r) := by
  refine CtI.ofZ (by decide) rfl (Nat.le_of_ble_eq_true rfl) ?_
  intro p e s m args below meth c A Z E hret ls hl hw
  have E : gE p m c cX6_agree 7 s args RX6 D [(cI, .int), (cZ, .boolean)] A := E
  have hx := E.1.1
  have hb := E.1.2.1
  have hl : lv_has ls 7 [(0, .ref (ad 5)), (1, .int p1), (2, .ref (ad 29)), (3, .ref (ad 15))] := hl
  have L3 : ∀ (n : Nat) (x4 : Int32) (H : Heap) (locs : List Loc) (ls : Array Slot), wp_X6_agree_h3 f_sight_gates f_sight_held f_sight_steps f_sight_truths f_sight_values f_plan_gates f_logic_ones f_logic_unknowns p1 Q  n x4 → gW D s A (wC ad cI cZ f_keptSlots f_trace f_lastSeed f_text_letters f_text_length f_reader_place f_reader_greatestSource f_plan_chips f_plan_firstPins f_plan_firstPlaces f_plan_gates f_plan_inputs f_plan_registers f_plan_slowRegisters f_plan_kinds f_plan_firsts f_plan_seconds f_plan_clocks f_plan_sourceSets f_spare_chips f_spare_firstPins f_spare_firstPlaces f_spare_gates f_spare_inputs f_spare_registers f_spare_slowRegisters f_spare_kinds f_spare_firsts f_spare_seconds f_spare_clocks f_spare_sourceSets f_now_ones f_now_unknowns f_now_places f_now_pins f_now_count f_copy_ones f_copy_unknowns f_copy_places f_copy_pins f_copy_count f_logic_ones f_logic_unknowns f_logic_settled f_sched_available f_sched_wanted f_sched_coming f_sched_waiting f_sched_taken f_sched_sent f_sched_lastSent f_hist_next f_hist_held f_ring_cells f_kept_cells f_sight_steps f_sight_gates f_sight_values f_sight_truths f_sight_held X) H locs → lv_has ls 7 [(0, .ref (ad 5)), (1, .int p1), (2, .ref (ad 29)), (3, .ref (ad 15)), (4, .int x4)] → W p l e ({ frames := 2, cells := 0, slots := 0, locals := 42 } : Room) s m args below meth c H locs 0 0 Z (F0 m 3 ls []) := by
    intro n
    induction n with
    | zero => intro x4 H locs ls h; exact False.elim h
    | succ n3 ih3 =>
      intro x4 H locs ls h hw hl
      have h : wp_X6_agree_b3 f_sight_gates f_sight_held f_sight_steps f_sight_truths f_sight_values f_plan_gates f_logic_ones f_logic_unknowns p1 Q (wp_X6_agree_h3 f_sight_gates f_sight_held f_sight_steps f_sight_truths f_sight_values f_plan_gates f_logic_ones f_logic_unknowns p1 Q  n3) x4 := h
      have J102 : ∀ (x4 : Int32) (H : Heap) (locs : List Loc) (ls : Array Slot), wp_X6_agree_b102 f_sight_gates f_sight_held f_sight_steps f_sight_truths f_sight_values f_plan_gates f_logic_ones f_logic_unknowns p1 Q (wp_X6_agree_h3 f_sight_gates f_sight_held f_sight_steps f_sight_truths f_sight_values f_plan_gates f_logic_ones f_logic_unknowns p1 Q  n3) x4 → gW D s A (wC ad cI cZ f_keptSlots f_trace f_lastSeed f_text_letters f_text_length f_reader_place f_reader_greatestSource f_plan_chips f_plan_firstPins f_plan_firstPlaces f_plan_gates f_plan_inputs f_plan_registers f_plan_slowRegisters f_plan_kinds f_plan_firsts f_plan_seconds f_plan_clocks f_plan_sourceSets f_spare_chips f_spare_firstPins f_spare_firstPlaces f_spare_gates f_spare_inputs f_spare_registers f_spare_slowRegisters f_spare_kinds f_spare_firsts f_spare_seconds f_spare_clocks f_spare_sourceSets f_now_ones f_now_unknowns f_now_places f_now_pins f_now_count f_copy_ones f_copy_unknowns f_copy_places f_copy_pins f_copy_count f_logic_ones f_logic_unknowns f_logic_settled f_sched_available f_sched_wanted f_sched_coming f_sched_waiting f_sched_taken f_sched_sent f_sched_lastSent f_hist_next f_hist_held f_ring_cells f_kept_cells f_sight_steps f_sight_gates f_sight_values f_sight_truths f_sight_held X) H locs → lv_has ls 7 [(0, .ref (ad 5)), (1, .int p1), (2, .ref (ad 29)), (3, .ref (ad 15)), (4, .int x4)] → W p l e ({ frames := 2, cells := 0, slots := 0, locals := 42 } : Room) s m args below meth c H locs 0 0 Z (F0 m 102 ls []) := by
        intro x4 H locs ls h hw hl
        unfold wp_X6_agree_b102 at h
        obtain ⟨v1, ev1⟩ : ∃ y : Int32, y = x4 + 1 := ⟨_, rfl⟩
        have h := h v1 ev1
        refine lv_iinc (v := v1) (lv' := [(4, .int v1), (0, .ref (ad 5)), (1, .int p1), (2, .ref (ad 29)), (3, .ref (ad 15))]) hx hb dX6_agree_102 hl (k := 4) rfl (by rw [ev1]; rfl) (by decide) rfl (fun ls hl => ?_)
        refine lv_goto (tgt := 3) hx hb dX6_agree_105 (by decide) ?_
        exact ih3 v1 _ _ _ h hw (lv_sub hl [1, 2, 3, 4, 0] rfl)
      have J97 : ∀ (x4 : Int32) (s0 : Int32) (s1 : Int32) (H : Heap) (locs : List Loc) (ls : Array Slot), wp_X6_agree_b97 f_sight_gates f_sight_held f_sight_steps f_sight_truths f_sight_values f_plan_gates f_logic_ones f_logic_unknowns p1 Q (wp_X6_agree_h3 f_sight_gates f_sight_held f_sight_steps f_sight_truths f_sight_values f_plan_gates f_logic_ones f_logic_unknowns p1 Q  n3) x4 s0 s1 → gW D s A (wC ad cI cZ f_keptSlots f_trace f_lastSeed f_text_letters f_text_length f_reader_place f_reader_greatestSource f_plan_chips f_plan_firstPins f_plan_firstPlaces f_plan_gates f_plan_inputs f_plan_registers f_plan_slowRegisters f_plan_kinds f_plan_firsts f_plan_seconds f_plan_clocks f_plan_sourceSets f_spare_chips f_spare_firstPins f_spare_firstPlaces f_spare_gates f_spare_inputs f_spare_registers f_spare_slowRegisters f_spare_kinds f_spare_firsts f_spare_seconds f_spare_clocks f_spare_sourceSets f_now_ones f_now_unknowns f_now_places f_now_pins f_now_count f_copy_ones f_copy_unknowns f_copy_places f_copy_pins f_copy_count f_logic_ones f_logic_unknowns f_logic_settled f_sched_available f_sched_wanted f_sched_coming f_sched_waiting f_sched_taken f_sched_sent f_sched_lastSent f_hist_next f_hist_held f_ring_cells f_kept_cells f_sight_steps f_sight_gates f_sight_values f_sight_truths f_sight_held X) H locs → lv_has ls 7 [(0, .ref (ad 5)), (1, .int p1), (2, .ref (ad 29)), (3, .ref (ad 15)), (4, .int x4)] → W p l e ({ frames := 2, cells := 0, slots := 0, locals := 42 } : Room) s m args below meth c H locs 0 0 Z (F0 m 97 ls [.int s1, .int s0]) := by
        intro x4 s0 s1 H locs ls h hw hl
        unfold wp_X6_agree_b97 at h
        refine lv_icmp_eq (tgt := 102) hx hb dX6_agree_97 (by decide) (fun c2 => ?_) (fun c2 => ?_)
        · have h := h.1 c2
          exact J102 x4 _ _ _ h hw (lv_sub hl [0, 1, 2, 3, 4] rfl)
        · have h := h.2 c2
          refine lv_iconst (v := 0) hx hb dX6_agree_100 (by decide) ?_
          exact hret _ _ _ _ _ _ (Or.inl rfl) ⟨rfl, h⟩ hw dX6_agree_101
      have J75 : ∀ (x4 : Int32) (s0 : Int32) (H : Heap) (locs : List Loc) (ls : Array Slot), wp_X6_agree_b75 f_sight_gates f_sight_held f_sight_steps f_sight_truths f_sight_values f_plan_gates f_logic_ones f_logic_unknowns p1 Q (wp_X6_agree_h3 f_sight_gates f_sight_held f_sight_steps f_sight_truths f_sight_values f_plan_gates f_logic_ones f_logic_unknowns p1 Q  n3) x4 s0 → gW D s A (wC ad cI cZ f_keptSlots f_trace f_lastSeed f_text_letters f_text_length f_reader_place f_reader_greatestSource f_plan_chips f_plan_firstPins f_plan_firstPlaces f_plan_gates f_plan_inputs f_plan_registers f_plan_slowRegisters f_plan_kinds f_plan_firsts f_plan_seconds f_plan_clocks f_plan_sourceSets f_spare_chips f_spare_firstPins f_spare_firstPlaces f_spare_gates f_spare_inputs f_spare_registers f_spare_slowRegisters f_spare_kinds f_spare_firsts f_spare_seconds f_spare_clocks f_spare_sourceSets f_now_ones f_now_unknowns f_now_places f_now_pins f_now_count f_copy_ones f_copy_unknowns f_copy_places f_copy_pins f_copy_count f_logic_ones f_logic_unknowns f_logic_settled f_sched_available f_sched_wanted f_sched_coming f_sched_waiting f_sched_taken f_sched_sent f_sched_lastSent f_hist_next f_hist_held f_ring_cells f_kept_cells f_sight_steps f_sight_gates f_sight_values f_sight_truths f_sight_held X) H locs → lv_has ls 7 [(0, .ref (ad 5)), (1, .int p1), (2, .ref (ad 29)), (3, .ref (ad 15)), (4, .int x4)] → W p l e ({ frames := 2, cells := 0, slots := 0, locals := 42 } : Room) s m args below meth c H locs 0 0 Z (F0 m 75 ls [.int s0]) := by
        intro x4 s0 H locs ls h hw hl
        unfold wp_X6_agree_b75 at h
        refine lv_istore (lv' := [(6, .int s0), (0, .ref (ad 5)), (1, .int p1), (2, .ref (ad 29)), (3, .ref (ad 15)), (4, .int x4)]) hx hb dX6_agree_75 hl (by decide) rfl (fun ls hl => ?_)
        refine lv_iload hx hb dX6_agree_77 (lv_at hl 0 rfl) ?_
        refine lv_aload_n hx hb dX6_agree_79 rfl (lv_at hl 1 rfl) ?_
        refine gC_X6_21_sight E hw dX6_agree_80 ?_
        refine lv_iload hx hb dX6_agree_83 (lv_at hl 5 rfl) ?_
        refine g_aI E hw (g_rSN E hw (c_X9_cell (q0 := 1) rfl h _) ym_X9_cell km_26 ⟨rfl, rfl⟩ ⟨Nat.le_of_ble_eq_true rfl, Nat.le_of_ble_eq_true rfl⟩ rfl hl.1 rfl (Nat.le_of_ble_eq_true rfl) ⟨Nat.zero_le _, Nat.zero_le _⟩ dX6_agree_85) (fun r3 u H locs hq hw => ?_)
        obtain ⟨hu, h⟩ := hq
        rw [hu] at hw
        refine lv_iconst (v := 1) hx hb dX6_agree_88 (by decide) ?_
        refine lv_icmp_ne (tgt := 96) hx hb dX6_agree_89 (by decide) (fun c4 => ?_) (fun c4 => ?_)
        · have h := h.1 c4
          refine lv_iconst (v := 0) hx hb dX6_agree_96 (by decide) ?_
          exact J97 x4 s0 (0 : Int32) _ _ _ h hw (lv_sub hl [1, 2, 3, 4, 5] rfl)
        · have h := h.2 c4
          refine lv_iconst (v := 1) hx hb dX6_agree_92 (by decide) ?_
          refine lv_goto (tgt := 97) hx hb dX6_agree_93 (by decide) ?_
          exact J97 x4 s0 (1 : Int32) _ _ _ h hw (lv_sub hl [1, 2, 3, 4, 5] rfl)
      unfold wp_X6_agree_b3 at h
      refine lv_iload hx hb dX6_agree_3 (lv_at hl 4 rfl) ?_
      refine lv_aload_n hx hb dX6_agree_5 rfl (lv_at hl 0 rfl) ?_
      refine gC_X6_24_sight E hw dX6_agree_6 ?_
      refine lv_icmp_ge (tgt := 108) hx hb dX6_agree_9 (by decide) (fun c5 => ?_) (fun c5 => ?_)
      · have h := h.1 c5
        refine lv_iconst (v := 1) hx hb dX6_agree_108 (by decide) ?_
        exact hret _ _ _ _ _ _ (Or.inr rfl) ⟨rfl, h⟩ hw dX6_agree_109
      · have h := h.2 c5
        refine lv_aload_n hx hb dX6_agree_12 rfl (lv_at hl 0 rfl) ?_
        refine gC_X6_15_sight E hw dX6_agree_13 ?_
        refine lv_iload hx hb dX6_agree_16 (lv_at hl 4 rfl) ?_
        refine g_aI E hw (g_rSN E hw (c_X9_cell (q0 := 3) rfl h _) ym_X9_cell km_26 ⟨rfl, rfl⟩ ⟨Nat.le_of_ble_eq_true rfl, Nat.le_of_ble_eq_true rfl⟩ rfl hl.1 rfl (Nat.le_of_ble_eq_true rfl) ⟨Nat.zero_le _, Nat.zero_le _⟩ dX6_agree_18) (fun r6 u H locs hq hw => ?_)
        obtain ⟨hu, h⟩ := hq
        rw [hu] at hw
        refine lv_istore (lv' := [(5, .int r6), (0, .ref (ad 5)), (1, .int p1), (2, .ref (ad 29)), (3, .ref (ad 15)), (4, .int x4)]) hx hb dX6_agree_21 hl (by decide) rfl (fun ls hl => ?_)
        refine lv_aload_n hx hb dX6_agree_23 rfl (lv_at hl 1 rfl) ?_
        refine gC_X6_9_sight E hw dX6_agree_24 ?_
        refine lv_iload hx hb dX6_agree_27 (lv_at hl 5 rfl) ?_
        refine g_aI E hw (g_rSN E hw (c_X9_cell (q0 := 4) rfl h _) ym_X9_cell km_26 ⟨rfl, rfl⟩ ⟨Nat.le_of_ble_eq_true rfl, Nat.le_of_ble_eq_true rfl⟩ rfl hl.1 rfl (Nat.le_of_ble_eq_true rfl) ⟨Nat.zero_le _, Nat.zero_le _⟩ dX6_agree_29) (fun r7 u H locs hq hw => ?_)
        obtain ⟨hu, h⟩ := hq
        rw [hu] at hw
        refine lv_iload_n hx hb dX6_agree_32 rfl (lv_at hl 2 rfl) ?_
        refine lv_icmp_ne (tgt := 102) hx hb dX6_agree_33 (by decide) (fun c8 => ?_) (fun c8 => ?_)
        · have h := h.1 c8
          exact J102 x4 _ _ _ h hw (lv_sub hl [1, 2, 3, 4, 5] rfl)
        · have h := h.2 c8
          refine lv_iload hx hb dX6_agree_36 (lv_at hl 0 rfl) ?_
          refine lv_aload_n hx hb dX6_agree_38 rfl (lv_at hl 3 rfl) ?_
          refine gC_X6_42_plan E hw dX6_agree_39 ?_
          refine lv_icmp_ge (tgt := 102) hx hb dX6_agree_42 (by decide) (fun c9 => ?_) (fun c9 => ?_)
          · have h := h.1 c9
            exact J102 x4 _ _ _ h hw (lv_sub hl [1, 2, 3, 4, 5] rfl)
          · have h := h.2 c9
            refine lv_aload_n hx hb dX6_agree_45 rfl (lv_at hl 4 rfl) ?_
            refine gC_X6_46_logic E hw dX6_agree_46 ?_
            refine lv_aload_n hx hb dX6_agree_49 rfl (lv_at hl 4 rfl) ?_
            refine gC_X6_51_logic E hw dX6_agree_50 ?_
            refine lv_iload hx hb dX6_agree_53 (lv_at hl 0 rfl) ?_
            refine g_aI E hw (g_rSN E hw (c_X9_valueIn h _) ym_X9_valueIn km_27 ⟨rfl, rfl⟩ ⟨Nat.le_of_ble_eq_true rfl, Nat.le_of_ble_eq_true rfl⟩ rfl hl.1 rfl (Nat.le_of_ble_eq_true rfl) ⟨Nat.zero_le _, Nat.zero_le _⟩ dX6_agree_55) (fun r10 u H locs hq hw => ?_)
            obtain ⟨hu, h⟩ := hq
            rw [hu] at hw
            refine lv_aload_n hx hb dX6_agree_58 rfl (lv_at hl 1 rfl) ?_
            refine gC_X6_18_sight E hw dX6_agree_59 ?_
            refine lv_iload hx hb dX6_agree_62 (lv_at hl 5 rfl) ?_
            refine g_aI E hw (g_rSN E hw (c_X9_cell (q0 := 2) rfl h _) ym_X9_cell km_26 ⟨rfl, rfl⟩ ⟨Nat.le_of_ble_eq_true rfl, Nat.le_of_ble_eq_true rfl⟩ rfl hl.1 rfl (Nat.le_of_ble_eq_true rfl) ⟨Nat.zero_le _, Nat.zero_le _⟩ dX6_agree_64) (fun r11 u H locs hq hw => ?_)
            obtain ⟨hu, h⟩ := hq
            rw [hu] at hw
            refine lv_icmp_ne (tgt := 74) hx hb dX6_agree_67 (by decide) (fun c12 => ?_) (fun c12 => ?_)
            · have h := h.1 c12
              refine lv_iconst (v := 0) hx hb dX6_agree_74 (by decide) ?_
              exact J75 x4 (0 : Int32) _ _ _ h hw (lv_sub hl [1, 2, 3, 4, 5] rfl)
            · have h := h.2 c12
              refine lv_iconst (v := 1) hx hb dX6_agree_70 (by decide) ?_
              refine lv_goto (tgt := 75) hx hb dX6_agree_71 (by decide) ?_
              exact J75 x4 (1 : Int32) _ _ _ h hw (lv_sub hl [1, 2, 3, 4, 5] rfl)
  unfold wp_X6_agree at h
  refine lv_iconst (v := 0) hx hb dX6_agree_0 (by decide) ?_
  refine lv_istore (lv' := [(4, .int (0 : Int32)), (0, .ref (ad 5)), (1, .int p1), (2, .ref (ad 29)), (3, .ref (ad 15))]) hx hb dX6_agree_1 hl (by decide) rfl (fun ls hl => ?_)
  obtain ⟨n, h⟩ := h
  exact L3 n (0 : Int32) _ _ _ h hw (lv_sub hl [1, 2, 3, 4, 0] rfl)
set_option maxRecDepth 100000 in
set_option maxHeartbeats 4000000 in
theorem c_X6_lastStep {l : Launch} {D : va_G} {cI cZ : ClassId} {ad : Nat → Nat} {f_keptSlots : Int32} {f_trace : Nat → Int32} {f_lastSeed : Int64} {f_text_letters : Nat → Int32} {f_text_length : Int32} {f_reader_place : Int32} {f_reader_greatestSource : Int32} {f_plan_chips : Int32} {f_plan_firstPins : Int32} {f_plan_firstPlaces : Int32} {f_plan_gates : Int32} {f_plan_inputs : Int32} {f_plan_registers : Int32} {f_plan_slowRegisters : Int32} {f_plan_kinds : Nat → Int32} {f_plan_firsts : Nat → Int32} {f_plan_seconds : Nat → Int32} {f_plan_clocks : Nat → Int32} {f_plan_sourceSets : Nat → Int32} {f_spare_chips : Int32} {f_spare_firstPins : Int32} {f_spare_firstPlaces : Int32} {f_spare_gates : Int32} {f_spare_inputs : Int32} {f_spare_registers : Int32} {f_spare_slowRegisters : Int32} {f_spare_kinds : Nat → Int32} {f_spare_firsts : Nat → Int32} {f_spare_seconds : Nat → Int32} {f_spare_clocks : Nat → Int32} {f_spare_sourceSets : Nat → Int32} {f_now_ones : Int32} {f_now_unknowns : Int32} {f_now_places : Int32} {f_now_pins : Int32} {f_now_count : Int32} {f_copy_ones : Int32} {f_copy_unknowns : Int32} {f_copy_places : Int32} {f_copy_pins : Int32} {f_copy_count : Int32} {f_logic_ones : Int32} {f_logic_unknowns : Int32} {f_logic_settled : Int32} {f_sched_available : Nat → Int32} {f_sched_wanted : Nat → Int32} {f_sched_coming : Nat → Int32} {f_sched_waiting : Int32} {f_sched_taken : Int32} {f_sched_sent : Int32} {f_sched_lastSent : Int32} {f_hist_next : Int32} {f_hist_held : Int32} {f_ring_cells : Nat → Int32} {f_kept_cells : Nat → Int32} {f_sight_steps : Nat → Int32} {f_sight_gates : Nat → Int32} {f_sight_values : Nat → Int32} {f_sight_truths : Nat → Int32} {f_sight_held : Int32} {X : va_W} {Q : Int32 → Prop} (h : wp_X6_lastStep f_sight_held f_sight_steps Q) : CtI l yX6_lastStep cX6_lastStep 3 (some .int) ({ frames := 1, cells := 0, slots := 0, locals := 21 } : Room) D [(cI, .int), (cZ, .boolean)] [.ref (ad 5)] (wC ad cI cZ f_keptSlots f_trace f_lastSeed f_text_letters f_text_length f_reader_place f_reader_greatestSource f_plan_chips f_plan_firstPins f_plan_firstPlaces f_plan_gates f_plan_inputs f_plan_registers f_plan_slowRegisters f_plan_kinds f_plan_firsts f_plan_seconds f_plan_clocks f_plan_sourceSets f_spare_chips f_spare_firstPins f_spare_firstPlaces f_spare_gates f_spare_inputs f_spare_registers f_spare_slowRegisters f_spare_kinds f_spare_firsts f_spare_seconds f_spare_clocks f_spare_sourceSets f_now_ones f_now_unknowns f_now_places f_now_pins f_now_count f_copy_ones f_copy_unknowns f_copy_places f_copy_pins f_copy_count f_logic_ones f_logic_unknowns f_logic_settled f_sched_available f_sched_wanted f_sched_coming f_sched_waiting f_sched_taken f_sched_sent f_sched_lastSent f_hist_next f_hist_held f_ring_cells f_kept_cells f_sight_steps f_sight_gates f_sight_values f_sight_truths f_sight_held X) (fun r u => u = (wC ad cI cZ f_keptSlots f_trace f_lastSeed f_text_letters f_text_length f_reader_place f_reader_greatestSource f_plan_chips f_plan_firstPins f_plan_firstPlaces f_plan_gates f_plan_inputs f_plan_registers f_plan_slowRegisters f_plan_kinds f_plan_firsts f_plan_seconds f_plan_clocks f_plan_sourceSets f_spare_chips f_spare_firstPins f_spare_firstPlaces f_spare_gates f_spare_inputs f_spare_registers f_spare_slowRegisters f_spare_kinds f_spare_firsts f_spare_seconds f_spare_clocks f_spare_sourceSets f_now_ones f_now_unknowns f_now_places f_now_pins f_now_count f_copy_ones f_copy_unknowns f_copy_places f_copy_pins f_copy_count f_logic_ones f_logic_unknowns f_logic_settled f_sched_available f_sched_wanted f_sched_coming f_sched_waiting f_sched_taken f_sched_sent f_sched_lastSent f_hist_next f_hist_held f_ring_cells f_kept_cells f_sight_steps f_sight_gates f_sight_values f_sight_truths f_sight_held X) ∧ Q r) := by
  refine CtI.of (by decide) rfl (Nat.le_of_ble_eq_true rfl) ?_
  intro p e s m args below meth c A Z E hret ls hl hw
  have E : gE p m c cX6_lastStep 3 s args RX6 D [(cI, .int), (cZ, .boolean)] A := E
  have hx := E.1.1
  have hb := E.1.2.1
  have hl : lv_has ls 3 [(0, .ref (ad 5))] := hl
  have L5 : ∀ (n : Nat) (x1 : Int32) (x2 : Int32) (H : Heap) (locs : List Loc) (ls : Array Slot), wp_X6_lastStep_h5 f_sight_held f_sight_steps Q  n x1 x2 → gW D s A (wC ad cI cZ f_keptSlots f_trace f_lastSeed f_text_letters f_text_length f_reader_place f_reader_greatestSource f_plan_chips f_plan_firstPins f_plan_firstPlaces f_plan_gates f_plan_inputs f_plan_registers f_plan_slowRegisters f_plan_kinds f_plan_firsts f_plan_seconds f_plan_clocks f_plan_sourceSets f_spare_chips f_spare_firstPins f_spare_firstPlaces f_spare_gates f_spare_inputs f_spare_registers f_spare_slowRegisters f_spare_kinds f_spare_firsts f_spare_seconds f_spare_clocks f_spare_sourceSets f_now_ones f_now_unknowns f_now_places f_now_pins f_now_count f_copy_ones f_copy_unknowns f_copy_places f_copy_pins f_copy_count f_logic_ones f_logic_unknowns f_logic_settled f_sched_available f_sched_wanted f_sched_coming f_sched_waiting f_sched_taken f_sched_sent f_sched_lastSent f_hist_next f_hist_held f_ring_cells f_kept_cells f_sight_steps f_sight_gates f_sight_values f_sight_truths f_sight_held X) H locs → lv_has ls 3 [(0, .ref (ad 5)), (1, .int x1), (2, .int x2)] → W p l e ({ frames := 1, cells := 0, slots := 0, locals := 21 } : Room) s m args below meth c H locs 0 0 Z (F0 m 5 ls []) := by
    intro n
    induction n with
    | zero => intro x1 x2 H locs ls h; exact False.elim h
    | succ n5 ih5 =>
      intro x1 x2 H locs ls h hw hl
      have h : wp_X6_lastStep_b5 f_sight_held f_sight_steps Q (wp_X6_lastStep_h5 f_sight_held f_sight_steps Q  n5) x1 x2 := h
      unfold wp_X6_lastStep_b5 at h
      refine lv_iload_n hx hb dX6_lastStep_5 rfl (lv_at hl 2 rfl) ?_
      refine lv_aload_n hx hb dX6_lastStep_6 rfl (lv_at hl 0 rfl) ?_
      refine gC_X6_24_sight E hw dX6_lastStep_7 ?_
      refine lv_icmp_ge (tgt := 32) hx hb dX6_lastStep_10 (by decide) (fun c1 => ?_) (fun c1 => ?_)
      · have h := h.1 c1
        refine lv_iload_n hx hb dX6_lastStep_32 rfl (lv_at hl 1 rfl) ?_
        exact hret _ _ _ _ _ _ ⟨rfl, h⟩ hw dX6_lastStep_33
      · have h := h.2 c1
        refine lv_iload_n hx hb dX6_lastStep_13 rfl (lv_at hl 1 rfl) ?_
        refine lv_aload_n hx hb dX6_lastStep_14 rfl (lv_at hl 0 rfl) ?_
        refine gC_X6_9_sight E hw dX6_lastStep_15 ?_
        refine lv_iload_n hx hb dX6_lastStep_18 rfl (lv_at hl 2 rfl) ?_
        refine g_aI E hw (g_rSN E hw (c_X9_cell (q0 := 4) rfl h _) ym_X9_cell km_26 ⟨rfl, rfl⟩ ⟨Nat.le_of_ble_eq_true rfl, Nat.le_of_ble_eq_true rfl⟩ rfl hl.1 rfl (Nat.le_of_ble_eq_true rfl) ⟨Nat.zero_le _, Nat.zero_le _⟩ dX6_lastStep_19) (fun r2 u H locs hq hw => ?_)
        obtain ⟨hu, h⟩ := hq
        rw [hu] at hw
        refine va_mmax hx hb (E.1.2.2.1.trans hl.1.symm) E.1.2.2.2.1 (E.1.2.2.2.2 _ k_518) (E.1.2.2.2.2 _ k_145) (E.1.2.2.2.2 _ k_59) (E.1.2.2.2.2 _ k_146) (Nat.le_of_ble_eq_true rfl) (Nat.le_of_ble_eq_true rfl) (Nat.zero_le _) (Nat.zero_le _) dX6_lastStep_22 ?_
        refine lv_topi (fun v3 ev3 => ?_)
        have h := h v3 ev3
        refine lv_istore_n (lv' := [(1, .int v3), (0, .ref (ad 5)), (2, .int x2)]) hx hb dX6_lastStep_25 rfl hl (by decide) rfl (fun ls hl => ?_)
        obtain ⟨v4, ev4⟩ : ∃ y : Int32, y = x2 + 1 := ⟨_, rfl⟩
        have h := h v4 ev4
        refine lv_iinc (v := v4) (lv' := [(2, .int v4), (1, .int v3), (0, .ref (ad 5))]) hx hb dX6_lastStep_26 hl (k := 2) rfl (by rw [ev4]; rfl) (by decide) rfl (fun ls hl => ?_)
        refine lv_goto (tgt := 5) hx hb dX6_lastStep_29 (by decide) ?_
        exact ih5 v3 v4 _ _ _ h hw (lv_sub hl [2, 1, 0] rfl)
  unfold wp_X6_lastStep at h
  refine lv_bipush (v := -9) hx hb dX6_lastStep_0 (by decide) ?_
  refine lv_istore_n (lv' := [(1, .int (-9 : Int32)), (0, .ref (ad 5))]) hx hb dX6_lastStep_2 rfl hl (by decide) rfl (fun ls hl => ?_)
  refine lv_iconst (v := 0) hx hb dX6_lastStep_3 (by decide) ?_
  refine lv_istore_n (lv' := [(2, .int (0 : Int32)), (1, .int (-9 : Int32)), (0, .ref (ad 5))]) hx hb dX6_lastStep_4 rfl hl (by decide) rfl (fun ls hl => ?_)
  obtain ⟨n, h⟩ := h
  exact L5 n (-9 : Int32) (0 : Int32) _ _ _ h hw (lv_sub hl [2, 1, 0] rfl)
set_option maxRecDepth 100000 in
set_option maxHeartbeats 4000000 in
theorem c_X2_allBefore_plan {l : Launch} {D : va_G} {cI cZ : ClassId} {ad : Nat → Nat} {f_keptSlots : Int32} {f_trace : Nat → Int32} {f_lastSeed : Int64} {f_text_letters : Nat → Int32} {f_text_length : Int32} {f_reader_place : Int32} {f_reader_greatestSource : Int32} {f_plan_chips : Int32} {f_plan_firstPins : Int32} {f_plan_firstPlaces : Int32} {f_plan_gates : Int32} {f_plan_inputs : Int32} {f_plan_registers : Int32} {f_plan_slowRegisters : Int32} {f_plan_kinds : Nat → Int32} {f_plan_firsts : Nat → Int32} {f_plan_seconds : Nat → Int32} {f_plan_clocks : Nat → Int32} {f_plan_sourceSets : Nat → Int32} {f_spare_chips : Int32} {f_spare_firstPins : Int32} {f_spare_firstPlaces : Int32} {f_spare_gates : Int32} {f_spare_inputs : Int32} {f_spare_registers : Int32} {f_spare_slowRegisters : Int32} {f_spare_kinds : Nat → Int32} {f_spare_firsts : Nat → Int32} {f_spare_seconds : Nat → Int32} {f_spare_clocks : Nat → Int32} {f_spare_sourceSets : Nat → Int32} {f_now_ones : Int32} {f_now_unknowns : Int32} {f_now_places : Int32} {f_now_pins : Int32} {f_now_count : Int32} {f_copy_ones : Int32} {f_copy_unknowns : Int32} {f_copy_places : Int32} {f_copy_pins : Int32} {f_copy_count : Int32} {f_logic_ones : Int32} {f_logic_unknowns : Int32} {f_logic_settled : Int32} {f_sched_available : Nat → Int32} {f_sched_wanted : Nat → Int32} {f_sched_coming : Nat → Int32} {f_sched_waiting : Int32} {f_sched_taken : Int32} {f_sched_sent : Int32} {f_sched_lastSent : Int32} {f_hist_next : Int32} {f_hist_held : Int32} {f_ring_cells : Nat → Int32} {f_kept_cells : Nat → Int32} {f_sight_steps : Nat → Int32} {f_sight_gates : Nat → Int32} {f_sight_values : Nat → Int32} {f_sight_truths : Nat → Int32} {f_sight_held : Int32} {X : va_W} {p1 : Int32} {Q : Int32 → Prop} (h : wp_X2_allBefore f_plan_gates f_plan_sourceSets p1 Q) : CtI l yX2_allBefore cX2_allBefore 6 (some .int) ({ frames := 2, cells := 0, slots := 0, locals := 42 } : Room) D [(cI, .int), (cZ, .boolean)] [.ref (ad 29), .int p1] (wC ad cI cZ f_keptSlots f_trace f_lastSeed f_text_letters f_text_length f_reader_place f_reader_greatestSource f_plan_chips f_plan_firstPins f_plan_firstPlaces f_plan_gates f_plan_inputs f_plan_registers f_plan_slowRegisters f_plan_kinds f_plan_firsts f_plan_seconds f_plan_clocks f_plan_sourceSets f_spare_chips f_spare_firstPins f_spare_firstPlaces f_spare_gates f_spare_inputs f_spare_registers f_spare_slowRegisters f_spare_kinds f_spare_firsts f_spare_seconds f_spare_clocks f_spare_sourceSets f_now_ones f_now_unknowns f_now_places f_now_pins f_now_count f_copy_ones f_copy_unknowns f_copy_places f_copy_pins f_copy_count f_logic_ones f_logic_unknowns f_logic_settled f_sched_available f_sched_wanted f_sched_coming f_sched_waiting f_sched_taken f_sched_sent f_sched_lastSent f_hist_next f_hist_held f_ring_cells f_kept_cells f_sight_steps f_sight_gates f_sight_values f_sight_truths f_sight_held X) (fun r u => u = (wC ad cI cZ f_keptSlots f_trace f_lastSeed f_text_letters f_text_length f_reader_place f_reader_greatestSource f_plan_chips f_plan_firstPins f_plan_firstPlaces f_plan_gates f_plan_inputs f_plan_registers f_plan_slowRegisters f_plan_kinds f_plan_firsts f_plan_seconds f_plan_clocks f_plan_sourceSets f_spare_chips f_spare_firstPins f_spare_firstPlaces f_spare_gates f_spare_inputs f_spare_registers f_spare_slowRegisters f_spare_kinds f_spare_firsts f_spare_seconds f_spare_clocks f_spare_sourceSets f_now_ones f_now_unknowns f_now_places f_now_pins f_now_count f_copy_ones f_copy_unknowns f_copy_places f_copy_pins f_copy_count f_logic_ones f_logic_unknowns f_logic_settled f_sched_available f_sched_wanted f_sched_coming f_sched_waiting f_sched_taken f_sched_sent f_sched_lastSent f_hist_next f_hist_held f_ring_cells f_kept_cells f_sight_steps f_sight_gates f_sight_values f_sight_truths f_sight_held X) ∧ Q r) := by
  refine CtI.of (by decide) rfl (Nat.le_of_ble_eq_true rfl) ?_
  intro p e s m args below meth c A Z E hret ls hl hw
  have E : gE p m c cX2_allBefore 6 s args RX2 D [(cI, .int), (cZ, .boolean)] A := E
  have hx := E.1.1
  have hb := E.1.2.1
  have hl : lv_has ls 6 [(0, .ref (ad 29)), (1, .int p1)] := hl
  have L7 : ∀ (n : Nat) (x2 : Int32) (x3 : Int32) (H : Heap) (locs : List Loc) (ls : Array Slot), wp_X2_allBefore_h7 f_plan_gates f_plan_sourceSets p1 Q  n x2 x3 → gW D s A (wC ad cI cZ f_keptSlots f_trace f_lastSeed f_text_letters f_text_length f_reader_place f_reader_greatestSource f_plan_chips f_plan_firstPins f_plan_firstPlaces f_plan_gates f_plan_inputs f_plan_registers f_plan_slowRegisters f_plan_kinds f_plan_firsts f_plan_seconds f_plan_clocks f_plan_sourceSets f_spare_chips f_spare_firstPins f_spare_firstPlaces f_spare_gates f_spare_inputs f_spare_registers f_spare_slowRegisters f_spare_kinds f_spare_firsts f_spare_seconds f_spare_clocks f_spare_sourceSets f_now_ones f_now_unknowns f_now_places f_now_pins f_now_count f_copy_ones f_copy_unknowns f_copy_places f_copy_pins f_copy_count f_logic_ones f_logic_unknowns f_logic_settled f_sched_available f_sched_wanted f_sched_coming f_sched_waiting f_sched_taken f_sched_sent f_sched_lastSent f_hist_next f_hist_held f_ring_cells f_kept_cells f_sight_steps f_sight_gates f_sight_values f_sight_truths f_sight_held X) H locs → lv_has ls 6 [(0, .ref (ad 29)), (2, .int x2), (3, .int x3)] → W p l e ({ frames := 2, cells := 0, slots := 0, locals := 42 } : Room) s m args below meth c H locs 0 0 Z (F0 m 7 ls []) := by
    intro n
    induction n with
    | zero => intro x2 x3 H locs ls h; exact False.elim h
    | succ n7 ih7 =>
      intro x2 x3 H locs ls h hw hl
      have h : wp_X2_allBefore_b7 f_plan_gates f_plan_sourceSets p1 Q (wp_X2_allBefore_h7 f_plan_gates f_plan_sourceSets p1 Q  n7) x2 x3 := h
      have L21 : ∀ (n : Nat) (x2 : Int32) (x3 : Int32) (x4 : Int32) (x5 : Int32) (H : Heap) (locs : List Loc) (ls : Array Slot), wp_X2_allBefore_h21 f_plan_gates f_plan_sourceSets p1 Q (wp_X2_allBefore_h7 f_plan_gates f_plan_sourceSets p1 Q  n7) n x2 x3 x4 x5 → gW D s A (wC ad cI cZ f_keptSlots f_trace f_lastSeed f_text_letters f_text_length f_reader_place f_reader_greatestSource f_plan_chips f_plan_firstPins f_plan_firstPlaces f_plan_gates f_plan_inputs f_plan_registers f_plan_slowRegisters f_plan_kinds f_plan_firsts f_plan_seconds f_plan_clocks f_plan_sourceSets f_spare_chips f_spare_firstPins f_spare_firstPlaces f_spare_gates f_spare_inputs f_spare_registers f_spare_slowRegisters f_spare_kinds f_spare_firsts f_spare_seconds f_spare_clocks f_spare_sourceSets f_now_ones f_now_unknowns f_now_places f_now_pins f_now_count f_copy_ones f_copy_unknowns f_copy_places f_copy_pins f_copy_count f_logic_ones f_logic_unknowns f_logic_settled f_sched_available f_sched_wanted f_sched_coming f_sched_waiting f_sched_taken f_sched_sent f_sched_lastSent f_hist_next f_hist_held f_ring_cells f_kept_cells f_sight_steps f_sight_gates f_sight_values f_sight_truths f_sight_held X) H locs → lv_has ls 6 [(0, .ref (ad 29)), (2, .int x2), (3, .int x3), (4, .int x4), (5, .int x5)] → W p l e ({ frames := 2, cells := 0, slots := 0, locals := 42 } : Room) s m args below meth c H locs 0 0 Z (F0 m 21 ls []) := by
        intro n
        induction n with
        | zero => intro x2 x3 x4 x5 H locs ls h; exact False.elim h
        | succ n21 ih21 =>
          intro x2 x3 x4 x5 H locs ls h hw hl
          have h : wp_X2_allBefore_b21 f_plan_gates f_plan_sourceSets p1 Q (wp_X2_allBefore_h7 f_plan_gates f_plan_sourceSets p1 Q  n7) (wp_X2_allBefore_h21 f_plan_gates f_plan_sourceSets p1 Q (wp_X2_allBefore_h7 f_plan_gates f_plan_sourceSets p1 Q  n7) n21) x2 x3 x4 x5 := h
          have J49 : ∀ (x2 : Int32) (x3 : Int32) (x4 : Int32) (x5 : Int32) (H : Heap) (locs : List Loc) (ls : Array Slot), wp_X2_allBefore_b49 f_plan_gates f_plan_sourceSets p1 Q (wp_X2_allBefore_h7 f_plan_gates f_plan_sourceSets p1 Q  n7) (wp_X2_allBefore_h21 f_plan_gates f_plan_sourceSets p1 Q (wp_X2_allBefore_h7 f_plan_gates f_plan_sourceSets p1 Q  n7) n21) x2 x3 x4 x5 → gW D s A (wC ad cI cZ f_keptSlots f_trace f_lastSeed f_text_letters f_text_length f_reader_place f_reader_greatestSource f_plan_chips f_plan_firstPins f_plan_firstPlaces f_plan_gates f_plan_inputs f_plan_registers f_plan_slowRegisters f_plan_kinds f_plan_firsts f_plan_seconds f_plan_clocks f_plan_sourceSets f_spare_chips f_spare_firstPins f_spare_firstPlaces f_spare_gates f_spare_inputs f_spare_registers f_spare_slowRegisters f_spare_kinds f_spare_firsts f_spare_seconds f_spare_clocks f_spare_sourceSets f_now_ones f_now_unknowns f_now_places f_now_pins f_now_count f_copy_ones f_copy_unknowns f_copy_places f_copy_pins f_copy_count f_logic_ones f_logic_unknowns f_logic_settled f_sched_available f_sched_wanted f_sched_coming f_sched_waiting f_sched_taken f_sched_sent f_sched_lastSent f_hist_next f_hist_held f_ring_cells f_kept_cells f_sight_steps f_sight_gates f_sight_values f_sight_truths f_sight_held X) H locs → lv_has ls 6 [(0, .ref (ad 29)), (2, .int x2), (3, .int x3), (4, .int x4), (5, .int x5)] → W p l e ({ frames := 2, cells := 0, slots := 0, locals := 42 } : Room) s m args below meth c H locs 0 0 Z (F0 m 49 ls []) := by
            intro x2 x3 x4 x5 H locs ls h hw hl
            unfold wp_X2_allBefore_b49 at h
            obtain ⟨v1, ev1⟩ : ∃ y : Int32, y = x5 + 1 := ⟨_, rfl⟩
            have h := h v1 ev1
            refine lv_iinc (v := v1) (lv' := [(5, .int v1), (0, .ref (ad 29)), (2, .int x2), (3, .int x3), (4, .int x4)]) hx hb dX2_allBefore_49 hl (k := 4) rfl (by rw [ev1]; rfl) (by decide) rfl (fun ls hl => ?_)
            refine lv_goto (tgt := 21) hx hb dX2_allBefore_52 (by decide) ?_
            exact ih21 x2 x3 x4 v1 _ _ _ h hw (lv_sub hl [1, 2, 3, 4, 0] rfl)
          unfold wp_X2_allBefore_b21 at h
          refine lv_iload hx hb dX2_allBefore_21 (lv_at hl 4 rfl) ?_
          refine lv_aload_n hx hb dX2_allBefore_23 rfl (lv_at hl 0 rfl) ?_
          refine gC_X2_21_plan E hw dX2_allBefore_24 ?_
          refine lv_icmp_ge (tgt := 55) hx hb dX2_allBefore_27 (by decide) (fun c2 => ?_) (fun c2 => ?_)
          · have h := h.1 c2
            refine lv_iload_n hx hb dX2_allBefore_55 rfl (lv_at hl 1 rfl) ?_
            refine lv_iload hx hb dX2_allBefore_56 (lv_at hl 3 rfl) ?_
            refine lv_icmp_ne (tgt := 64) hx hb dX2_allBefore_58 (by decide) (fun c3 => ?_) (fun c3 => ?_)
            · have h := h.1 c3
              obtain ⟨v4, ev4⟩ : ∃ y : Int32, y = x3 + 1 := ⟨_, rfl⟩
              have h := h v4 ev4
              refine lv_iinc (v := v4) (lv' := [(3, .int v4), (0, .ref (ad 29)), (2, .int x2), (4, .int x4), (5, .int x5)]) hx hb dX2_allBefore_64 hl (k := 2) rfl (by rw [ev4]; rfl) (by decide) rfl (fun ls hl => ?_)
              refine lv_goto (tgt := 7) hx hb dX2_allBefore_67 (by decide) ?_
              exact ih7 x2 v4 _ _ _ h hw (lv_sub hl [1, 2, 0] rfl)
            · have h := h.2 c3
              refine lv_goto (tgt := 70) hx hb dX2_allBefore_61 (by decide) ?_
              refine lv_iload_n hx hb dX2_allBefore_70 rfl (lv_at hl 1 rfl) ?_
              exact hret _ _ _ _ _ _ ⟨rfl, h⟩ hw dX2_allBefore_71
          · have h := h.2 c2
            refine lv_iload_n hx hb dX2_allBefore_30 rfl (lv_at hl 1 rfl) ?_
            refine lv_iload hx hb dX2_allBefore_31 (lv_at hl 4 rfl) ?_
            refine g_aI E hw (g_rSN E hw (c_X9_bit h _) ym_X9_bit km_12 ⟨rfl, rfl⟩ ⟨Nat.le_of_ble_eq_true rfl, Nat.le_of_ble_eq_true rfl⟩ rfl hl.1 rfl (Nat.le_of_ble_eq_true rfl) ⟨Nat.zero_le _, Nat.zero_le _⟩ dX2_allBefore_33) (fun r5 u H locs hq hw => ?_)
            obtain ⟨hu, h⟩ := hq
            rw [hu] at hw
            refine lv_iand hx hb dX2_allBefore_36 ?_
            refine lv_if_eq (tgt := 49) hx hb dX2_allBefore_37 (by decide) (fun c6 => ?_) (fun c6 => ?_)
            · have h := h.1 c6
              exact J49 x2 x3 x4 x5 _ _ _ h hw (lv_sub hl [0, 1, 2, 3, 4] rfl)
            · have h := h.2 c6
              refine lv_iload_n hx hb dX2_allBefore_40 rfl (lv_at hl 1 rfl) ?_
              refine lv_aload_n hx hb dX2_allBefore_41 rfl (lv_at hl 0 rfl) ?_
              refine lv_iload hx hb dX2_allBefore_42 (lv_at hl 4 rfl) ?_
              refine g_aI E hw (g_rV E hw (c_X2_sourcesOf_plan h _) ym_X2_sourcesOf k_252 ⟨rfl, rfl⟩ ⟨Nat.le_of_ble_eq_true rfl, Nat.le_of_ble_eq_true rfl⟩ 29 rfl rfl rfl rfl hl.1 rfl (Nat.le_of_ble_eq_true rfl) ⟨Nat.zero_le _, Nat.zero_le _⟩ dX2_allBefore_44) (fun r7 u H locs hq hw => ?_)
              obtain ⟨hu, h⟩ := hq
              rw [hu] at hw
              refine lv_ior hx hb dX2_allBefore_47 ?_
              refine lv_topi (fun v8 ev8 => ?_)
              have h := h v8 ev8
              refine lv_istore_n (lv' := [(2, .int v8), (0, .ref (ad 29)), (3, .int x3), (4, .int x4), (5, .int x5)]) hx hb dX2_allBefore_48 rfl hl (by decide) rfl (fun ls hl => ?_)
              exact J49 v8 x3 x4 x5 _ _ _ h hw (lv_sub hl [1, 0, 2, 3, 4] rfl)
      unfold wp_X2_allBefore_b7 at h
      refine lv_iload_n hx hb dX2_allBefore_7 rfl (lv_at hl 2 rfl) ?_
      refine lv_aload_n hx hb dX2_allBefore_8 rfl (lv_at hl 0 rfl) ?_
      refine gC_X2_21_plan E hw dX2_allBefore_9 ?_
      refine lv_icmp_ge (tgt := 70) hx hb dX2_allBefore_12 (by decide) (fun c9 => ?_) (fun c9 => ?_)
      · have h := h.1 c9
        refine lv_iload_n hx hb dX2_allBefore_70 rfl (lv_at hl 1 rfl) ?_
        exact hret _ _ _ _ _ _ ⟨rfl, h⟩ hw dX2_allBefore_71
      · have h := h.2 c9
        refine lv_iload_n hx hb dX2_allBefore_15 rfl (lv_at hl 1 rfl) ?_
        refine lv_istore (lv' := [(4, .int x2), (0, .ref (ad 29)), (2, .int x2), (3, .int x3)]) hx hb dX2_allBefore_16 hl (by decide) rfl (fun ls hl => ?_)
        refine lv_iconst (v := 0) hx hb dX2_allBefore_18 (by decide) ?_
        refine lv_istore (lv' := [(5, .int (0 : Int32)), (4, .int x2), (0, .ref (ad 29)), (2, .int x2), (3, .int x3)]) hx hb dX2_allBefore_19 hl (by decide) rfl (fun ls hl => ?_)
        obtain ⟨n, h⟩ := h
        exact L21 n x2 x3 x2 (0 : Int32) _ _ _ h hw (lv_sub hl [2, 3, 4, 1, 0] rfl)
  unfold wp_X2_allBefore at h
  refine lv_iload_n hx hb dX2_allBefore_0 rfl (lv_at hl 1 rfl) ?_
  refine g_aI E hw (g_rSN E hw (c_X9_bit h _) ym_X9_bit km_12 ⟨rfl, rfl⟩ ⟨Nat.le_of_ble_eq_true rfl, Nat.le_of_ble_eq_true rfl⟩ rfl hl.1 rfl (Nat.le_of_ble_eq_true rfl) ⟨Nat.zero_le _, Nat.zero_le _⟩ dX2_allBefore_1) (fun r10 u H locs hq hw => ?_)
  obtain ⟨hu, h⟩ := hq
  rw [hu] at hw
  refine lv_istore_n (lv' := [(2, .int r10), (0, .ref (ad 29)), (1, .int p1)]) hx hb dX2_allBefore_4 rfl hl (by decide) rfl (fun ls hl => ?_)
  refine lv_iconst (v := 0) hx hb dX2_allBefore_5 (by decide) ?_
  refine lv_istore_n (lv' := [(3, .int (0 : Int32)), (2, .int r10), (0, .ref (ad 29)), (1, .int p1)]) hx hb dX2_allBefore_6 rfl hl (by decide) rfl (fun ls hl => ?_)
  obtain ⟨n, h⟩ := h
  exact L7 n r10 (0 : Int32) _ _ _ h hw (lv_sub hl [2, 1, 0] rfl)
set_option maxRecDepth 100000 in
set_option maxHeartbeats 4000000 in
theorem c_X5_put_now_kept {l : Launch} {D : va_G} {cI cZ : ClassId} {ad : Nat → Nat} {f_keptSlots : Int32} {f_trace : Nat → Int32} {f_lastSeed : Int64} {f_text_letters : Nat → Int32} {f_text_length : Int32} {f_reader_place : Int32} {f_reader_greatestSource : Int32} {f_plan_chips : Int32} {f_plan_firstPins : Int32} {f_plan_firstPlaces : Int32} {f_plan_gates : Int32} {f_plan_inputs : Int32} {f_plan_registers : Int32} {f_plan_slowRegisters : Int32} {f_plan_kinds : Nat → Int32} {f_plan_firsts : Nat → Int32} {f_plan_seconds : Nat → Int32} {f_plan_clocks : Nat → Int32} {f_plan_sourceSets : Nat → Int32} {f_spare_chips : Int32} {f_spare_firstPins : Int32} {f_spare_firstPlaces : Int32} {f_spare_gates : Int32} {f_spare_inputs : Int32} {f_spare_registers : Int32} {f_spare_slowRegisters : Int32} {f_spare_kinds : Nat → Int32} {f_spare_firsts : Nat → Int32} {f_spare_seconds : Nat → Int32} {f_spare_clocks : Nat → Int32} {f_spare_sourceSets : Nat → Int32} {f_now_ones : Int32} {f_now_unknowns : Int32} {f_now_places : Int32} {f_now_pins : Int32} {f_now_count : Int32} {f_copy_ones : Int32} {f_copy_unknowns : Int32} {f_copy_places : Int32} {f_copy_pins : Int32} {f_copy_count : Int32} {f_logic_ones : Int32} {f_logic_unknowns : Int32} {f_logic_settled : Int32} {f_sched_available : Nat → Int32} {f_sched_wanted : Nat → Int32} {f_sched_coming : Nat → Int32} {f_sched_waiting : Int32} {f_sched_taken : Int32} {f_sched_sent : Int32} {f_sched_lastSent : Int32} {f_hist_next : Int32} {f_hist_held : Int32} {f_ring_cells : Nat → Int32} {f_kept_cells : Nat → Int32} {f_sight_steps : Nat → Int32} {f_sight_gates : Nat → Int32} {f_sight_values : Nat → Int32} {f_sight_truths : Nat → Int32} {f_sight_held : Int32} {X : va_W} {p1 : Int32} {Q : (Nat → Int32) → Prop} (h : wp_X5_put 10 f_kept_cells f_now_count f_now_ones f_now_pins f_now_places f_now_unknowns p1 Q) : CtV l yX5_put cX5_put 4 none ({ frames := 1, cells := 0, slots := 0, locals := 22 } : Room) D [(cI, .int), (cZ, .boolean)] [.ref (ad 7), .int p1, .ref (ad 17)] (wC ad cI cZ f_keptSlots f_trace f_lastSeed f_text_letters f_text_length f_reader_place f_reader_greatestSource f_plan_chips f_plan_firstPins f_plan_firstPlaces f_plan_gates f_plan_inputs f_plan_registers f_plan_slowRegisters f_plan_kinds f_plan_firsts f_plan_seconds f_plan_clocks f_plan_sourceSets f_spare_chips f_spare_firstPins f_spare_firstPlaces f_spare_gates f_spare_inputs f_spare_registers f_spare_slowRegisters f_spare_kinds f_spare_firsts f_spare_seconds f_spare_clocks f_spare_sourceSets f_now_ones f_now_unknowns f_now_places f_now_pins f_now_count f_copy_ones f_copy_unknowns f_copy_places f_copy_pins f_copy_count f_logic_ones f_logic_unknowns f_logic_settled f_sched_available f_sched_wanted f_sched_coming f_sched_waiting f_sched_taken f_sched_sent f_sched_lastSent f_hist_next f_hist_held f_ring_cells f_kept_cells f_sight_steps f_sight_gates f_sight_values f_sight_truths f_sight_held X) (fun  u => ∃ w0, u = (wC ad cI cZ f_keptSlots f_trace f_lastSeed f_text_letters f_text_length f_reader_place f_reader_greatestSource f_plan_chips f_plan_firstPins f_plan_firstPlaces f_plan_gates f_plan_inputs f_plan_registers f_plan_slowRegisters f_plan_kinds f_plan_firsts f_plan_seconds f_plan_clocks f_plan_sourceSets f_spare_chips f_spare_firstPins f_spare_firstPlaces f_spare_gates f_spare_inputs f_spare_registers f_spare_slowRegisters f_spare_kinds f_spare_firsts f_spare_seconds f_spare_clocks f_spare_sourceSets f_now_ones f_now_unknowns f_now_places f_now_pins f_now_count f_copy_ones f_copy_unknowns f_copy_places f_copy_pins f_copy_count f_logic_ones f_logic_unknowns f_logic_settled f_sched_available f_sched_wanted f_sched_coming f_sched_waiting f_sched_taken f_sched_sent f_sched_lastSent f_hist_next f_hist_held f_ring_cells w0 f_sight_steps f_sight_gates f_sight_values f_sight_truths f_sight_held X) ∧ Q w0) := by
  refine CtV.of (by decide) rfl (Nat.le_of_ble_eq_true rfl) ?_
  intro p e s m args below meth c A Z E hret ls hl hw
  have E : gE p m c cX5_put 4 s args RX5 D [(cI, .int), (cZ, .boolean)] A := E
  have hx := E.1.1
  have hb := E.1.2.1
  have hl : lv_has ls 4 [(0, .ref (ad 7)), (1, .int p1), (2, .ref (ad 17))] := hl
  unfold wp_X5_put at h
  refine lv_iload_n hx hb dX5_put_0 rfl (lv_at hl 1 rfl) ?_
  refine lv_iconst (v := 5) hx hb dX5_put_1 (by decide) ?_
  refine lv_imul hx hb dX5_put_2 ?_
  refine lv_topi (fun v1 ev1 => ?_)
  have h := h v1 ev1
  refine lv_istore_n (lv' := [(3, .int v1), (0, .ref (ad 7)), (1, .int p1), (2, .ref (ad 17))]) hx hb dX5_put_3 rfl hl (by decide) rfl (fun ls hl => ?_)
  refine lv_aload_n hx hb dX5_put_4 rfl (lv_at hl 1 rfl) ?_
  refine gC_X5_15_kept E hw dX5_put_5 ?_
  refine lv_iload_n hx hb dX5_put_8 rfl (lv_at hl 0 rfl) ?_
  refine lv_aload_n hx hb dX5_put_9 rfl (lv_at hl 3 rfl) ?_
  refine gC_X5_19_now E hw dX5_put_10 ?_
  refine g_aV E hw (g_rSN E hw (c_X9_setCell (q0 := 6) rfl h _) ym_X9_setCell km_17 ⟨rfl, rfl⟩ ⟨Nat.le_of_ble_eq_true rfl, Nat.le_of_ble_eq_true rfl⟩ rfl hl.1 rfl (Nat.le_of_ble_eq_true rfl) ⟨Nat.zero_le _, Nat.zero_le _⟩ dX5_put_13) (fun u H locs hq hw => ?_)
  obtain ⟨y3, hu, h⟩ := hq
  rw [hu] at hw
  have hw : gW D s A (wC ad cI cZ f_keptSlots f_trace f_lastSeed f_text_letters f_text_length f_reader_place f_reader_greatestSource f_plan_chips f_plan_firstPins f_plan_firstPlaces f_plan_gates f_plan_inputs f_plan_registers f_plan_slowRegisters f_plan_kinds f_plan_firsts f_plan_seconds f_plan_clocks f_plan_sourceSets f_spare_chips f_spare_firstPins f_spare_firstPlaces f_spare_gates f_spare_inputs f_spare_registers f_spare_slowRegisters f_spare_kinds f_spare_firsts f_spare_seconds f_spare_clocks f_spare_sourceSets f_now_ones f_now_unknowns f_now_places f_now_pins f_now_count f_copy_ones f_copy_unknowns f_copy_places f_copy_pins f_copy_count f_logic_ones f_logic_unknowns f_logic_settled f_sched_available f_sched_wanted f_sched_coming f_sched_waiting f_sched_taken f_sched_sent f_sched_lastSent f_hist_next f_hist_held f_ring_cells y3 f_sight_steps f_sight_gates f_sight_values f_sight_truths f_sight_held X) _ _ := hw
  refine lv_aload_n hx hb dX5_put_16 rfl (lv_at hl 1 rfl) ?_
  refine gC_X5_15_kept E hw dX5_put_17 ?_
  refine lv_iload_n hx hb dX5_put_20 rfl (lv_at hl 0 rfl) ?_
  refine lv_iconst (v := 1) hx hb dX5_put_21 (by decide) ?_
  refine lv_iadd hx hb dX5_put_22 ?_
  refine lv_aload_n hx hb dX5_put_23 rfl (lv_at hl 3 rfl) ?_
  refine gC_X5_31_now E hw dX5_put_24 ?_
  refine g_aV E hw (g_rSN E hw (c_X9_setCell (q0 := 6) rfl h _) ym_X9_setCell km_17 ⟨rfl, rfl⟩ ⟨Nat.le_of_ble_eq_true rfl, Nat.le_of_ble_eq_true rfl⟩ rfl hl.1 rfl (Nat.le_of_ble_eq_true rfl) ⟨Nat.zero_le _, Nat.zero_le _⟩ dX5_put_27) (fun u H locs hq hw => ?_)
  obtain ⟨y5, hu, h⟩ := hq
  rw [hu] at hw
  have hw : gW D s A (wC ad cI cZ f_keptSlots f_trace f_lastSeed f_text_letters f_text_length f_reader_place f_reader_greatestSource f_plan_chips f_plan_firstPins f_plan_firstPlaces f_plan_gates f_plan_inputs f_plan_registers f_plan_slowRegisters f_plan_kinds f_plan_firsts f_plan_seconds f_plan_clocks f_plan_sourceSets f_spare_chips f_spare_firstPins f_spare_firstPlaces f_spare_gates f_spare_inputs f_spare_registers f_spare_slowRegisters f_spare_kinds f_spare_firsts f_spare_seconds f_spare_clocks f_spare_sourceSets f_now_ones f_now_unknowns f_now_places f_now_pins f_now_count f_copy_ones f_copy_unknowns f_copy_places f_copy_pins f_copy_count f_logic_ones f_logic_unknowns f_logic_settled f_sched_available f_sched_wanted f_sched_coming f_sched_waiting f_sched_taken f_sched_sent f_sched_lastSent f_hist_next f_hist_held f_ring_cells y5 f_sight_steps f_sight_gates f_sight_values f_sight_truths f_sight_held X) _ _ := hw
  refine lv_aload_n hx hb dX5_put_30 rfl (lv_at hl 1 rfl) ?_
  refine gC_X5_15_kept E hw dX5_put_31 ?_
  refine lv_iload_n hx hb dX5_put_34 rfl (lv_at hl 0 rfl) ?_
  refine lv_iconst (v := 2) hx hb dX5_put_35 (by decide) ?_
  refine lv_iadd hx hb dX5_put_36 ?_
  refine lv_aload_n hx hb dX5_put_37 rfl (lv_at hl 3 rfl) ?_
  refine gC_X5_34_now E hw dX5_put_38 ?_
  refine g_aV E hw (g_rSN E hw (c_X9_setCell (q0 := 6) rfl h _) ym_X9_setCell km_17 ⟨rfl, rfl⟩ ⟨Nat.le_of_ble_eq_true rfl, Nat.le_of_ble_eq_true rfl⟩ rfl hl.1 rfl (Nat.le_of_ble_eq_true rfl) ⟨Nat.zero_le _, Nat.zero_le _⟩ dX5_put_41) (fun u H locs hq hw => ?_)
  obtain ⟨y7, hu, h⟩ := hq
  rw [hu] at hw
  have hw : gW D s A (wC ad cI cZ f_keptSlots f_trace f_lastSeed f_text_letters f_text_length f_reader_place f_reader_greatestSource f_plan_chips f_plan_firstPins f_plan_firstPlaces f_plan_gates f_plan_inputs f_plan_registers f_plan_slowRegisters f_plan_kinds f_plan_firsts f_plan_seconds f_plan_clocks f_plan_sourceSets f_spare_chips f_spare_firstPins f_spare_firstPlaces f_spare_gates f_spare_inputs f_spare_registers f_spare_slowRegisters f_spare_kinds f_spare_firsts f_spare_seconds f_spare_clocks f_spare_sourceSets f_now_ones f_now_unknowns f_now_places f_now_pins f_now_count f_copy_ones f_copy_unknowns f_copy_places f_copy_pins f_copy_count f_logic_ones f_logic_unknowns f_logic_settled f_sched_available f_sched_wanted f_sched_coming f_sched_waiting f_sched_taken f_sched_sent f_sched_lastSent f_hist_next f_hist_held f_ring_cells y7 f_sight_steps f_sight_gates f_sight_values f_sight_truths f_sight_held X) _ _ := hw
  refine lv_aload_n hx hb dX5_put_44 rfl (lv_at hl 1 rfl) ?_
  refine gC_X5_15_kept E hw dX5_put_45 ?_
  refine lv_iload_n hx hb dX5_put_48 rfl (lv_at hl 0 rfl) ?_
  refine lv_iconst (v := 3) hx hb dX5_put_49 (by decide) ?_
  refine lv_iadd hx hb dX5_put_50 ?_
  refine lv_aload_n hx hb dX5_put_51 rfl (lv_at hl 3 rfl) ?_
  refine gC_X5_37_now E hw dX5_put_52 ?_
  refine g_aV E hw (g_rSN E hw (c_X9_setCell (q0 := 6) rfl h _) ym_X9_setCell km_17 ⟨rfl, rfl⟩ ⟨Nat.le_of_ble_eq_true rfl, Nat.le_of_ble_eq_true rfl⟩ rfl hl.1 rfl (Nat.le_of_ble_eq_true rfl) ⟨Nat.zero_le _, Nat.zero_le _⟩ dX5_put_55) (fun u H locs hq hw => ?_)
  obtain ⟨y9, hu, h⟩ := hq
  rw [hu] at hw
  have hw : gW D s A (wC ad cI cZ f_keptSlots f_trace f_lastSeed f_text_letters f_text_length f_reader_place f_reader_greatestSource f_plan_chips f_plan_firstPins f_plan_firstPlaces f_plan_gates f_plan_inputs f_plan_registers f_plan_slowRegisters f_plan_kinds f_plan_firsts f_plan_seconds f_plan_clocks f_plan_sourceSets f_spare_chips f_spare_firstPins f_spare_firstPlaces f_spare_gates f_spare_inputs f_spare_registers f_spare_slowRegisters f_spare_kinds f_spare_firsts f_spare_seconds f_spare_clocks f_spare_sourceSets f_now_ones f_now_unknowns f_now_places f_now_pins f_now_count f_copy_ones f_copy_unknowns f_copy_places f_copy_pins f_copy_count f_logic_ones f_logic_unknowns f_logic_settled f_sched_available f_sched_wanted f_sched_coming f_sched_waiting f_sched_taken f_sched_sent f_sched_lastSent f_hist_next f_hist_held f_ring_cells y9 f_sight_steps f_sight_gates f_sight_values f_sight_truths f_sight_held X) _ _ := hw
  refine lv_aload_n hx hb dX5_put_58 rfl (lv_at hl 1 rfl) ?_
  refine gC_X5_15_kept E hw dX5_put_59 ?_
  refine lv_iload_n hx hb dX5_put_62 rfl (lv_at hl 0 rfl) ?_
  refine lv_iconst (v := 4) hx hb dX5_put_63 (by decide) ?_
  refine lv_iadd hx hb dX5_put_64 ?_
  refine lv_aload_n hx hb dX5_put_65 rfl (lv_at hl 3 rfl) ?_
  refine gC_X5_40_now E hw dX5_put_66 ?_
  refine g_aV E hw (g_rSN E hw (c_X9_setCell (q0 := 6) rfl h _) ym_X9_setCell km_17 ⟨rfl, rfl⟩ ⟨Nat.le_of_ble_eq_true rfl, Nat.le_of_ble_eq_true rfl⟩ rfl hl.1 rfl (Nat.le_of_ble_eq_true rfl) ⟨Nat.zero_le _, Nat.zero_le _⟩ dX5_put_69) (fun u H locs hq hw => ?_)
  obtain ⟨y11, hu, h⟩ := hq
  rw [hu] at hw
  have hw : gW D s A (wC ad cI cZ f_keptSlots f_trace f_lastSeed f_text_letters f_text_length f_reader_place f_reader_greatestSource f_plan_chips f_plan_firstPins f_plan_firstPlaces f_plan_gates f_plan_inputs f_plan_registers f_plan_slowRegisters f_plan_kinds f_plan_firsts f_plan_seconds f_plan_clocks f_plan_sourceSets f_spare_chips f_spare_firstPins f_spare_firstPlaces f_spare_gates f_spare_inputs f_spare_registers f_spare_slowRegisters f_spare_kinds f_spare_firsts f_spare_seconds f_spare_clocks f_spare_sourceSets f_now_ones f_now_unknowns f_now_places f_now_pins f_now_count f_copy_ones f_copy_unknowns f_copy_places f_copy_pins f_copy_count f_logic_ones f_logic_unknowns f_logic_settled f_sched_available f_sched_wanted f_sched_coming f_sched_waiting f_sched_taken f_sched_sent f_sched_lastSent f_hist_next f_hist_held f_ring_cells y11 f_sight_steps f_sight_gates f_sight_values f_sight_truths f_sight_held X) _ _ := hw
  exact hret _ _ _ _ _ ⟨_, rfl, h⟩ hw dX5_put_72
set_option maxRecDepth 100000 in
set_option maxHeartbeats 4000000 in
theorem c_X5_get_now_kept {l : Launch} {D : va_G} {cI cZ : ClassId} {ad : Nat → Nat} {f_keptSlots : Int32} {f_trace : Nat → Int32} {f_lastSeed : Int64} {f_text_letters : Nat → Int32} {f_text_length : Int32} {f_reader_place : Int32} {f_reader_greatestSource : Int32} {f_plan_chips : Int32} {f_plan_firstPins : Int32} {f_plan_firstPlaces : Int32} {f_plan_gates : Int32} {f_plan_inputs : Int32} {f_plan_registers : Int32} {f_plan_slowRegisters : Int32} {f_plan_kinds : Nat → Int32} {f_plan_firsts : Nat → Int32} {f_plan_seconds : Nat → Int32} {f_plan_clocks : Nat → Int32} {f_plan_sourceSets : Nat → Int32} {f_spare_chips : Int32} {f_spare_firstPins : Int32} {f_spare_firstPlaces : Int32} {f_spare_gates : Int32} {f_spare_inputs : Int32} {f_spare_registers : Int32} {f_spare_slowRegisters : Int32} {f_spare_kinds : Nat → Int32} {f_spare_firsts : Nat → Int32} {f_spare_seconds : Nat → Int32} {f_spare_clocks : Nat → Int32} {f_spare_sourceSets : Nat → Int32} {f_now_ones : Int32} {f_now_unknowns : Int32} {f_now_places : Int32} {f_now_pins : Int32} {f_now_count : Int32} {f_copy_ones : Int32} {f_copy_unknowns : Int32} {f_copy_places : Int32} {f_copy_pins : Int32} {f_copy_count : Int32} {f_logic_ones : Int32} {f_logic_unknowns : Int32} {f_logic_settled : Int32} {f_sched_available : Nat → Int32} {f_sched_wanted : Nat → Int32} {f_sched_coming : Nat → Int32} {f_sched_waiting : Int32} {f_sched_taken : Int32} {f_sched_sent : Int32} {f_sched_lastSent : Int32} {f_hist_next : Int32} {f_hist_held : Int32} {f_ring_cells : Nat → Int32} {f_kept_cells : Nat → Int32} {f_sight_steps : Nat → Int32} {f_sight_gates : Nat → Int32} {f_sight_values : Nat → Int32} {f_sight_truths : Nat → Int32} {f_sight_held : Int32} {X : va_W} {p1 : Int32} {Q : Int32 → Int32 → Int32 → Int32 → Int32 → Prop} (h : wp_X5_get 10 f_kept_cells f_now_count f_now_ones f_now_pins f_now_places f_now_unknowns p1 Q) : CtV l yX5_get cX5_get 4 none ({ frames := 1, cells := 0, slots := 0, locals := 21 } : Room) D [(cI, .int), (cZ, .boolean)] [.ref (ad 7), .int p1, .ref (ad 17)] (wC ad cI cZ f_keptSlots f_trace f_lastSeed f_text_letters f_text_length f_reader_place f_reader_greatestSource f_plan_chips f_plan_firstPins f_plan_firstPlaces f_plan_gates f_plan_inputs f_plan_registers f_plan_slowRegisters f_plan_kinds f_plan_firsts f_plan_seconds f_plan_clocks f_plan_sourceSets f_spare_chips f_spare_firstPins f_spare_firstPlaces f_spare_gates f_spare_inputs f_spare_registers f_spare_slowRegisters f_spare_kinds f_spare_firsts f_spare_seconds f_spare_clocks f_spare_sourceSets f_now_ones f_now_unknowns f_now_places f_now_pins f_now_count f_copy_ones f_copy_unknowns f_copy_places f_copy_pins f_copy_count f_logic_ones f_logic_unknowns f_logic_settled f_sched_available f_sched_wanted f_sched_coming f_sched_waiting f_sched_taken f_sched_sent f_sched_lastSent f_hist_next f_hist_held f_ring_cells f_kept_cells f_sight_steps f_sight_gates f_sight_values f_sight_truths f_sight_held X) (fun  u => ∃ w0 w1 w2 w3 w4, u = (wC ad cI cZ f_keptSlots f_trace f_lastSeed f_text_letters f_text_length f_reader_place f_reader_greatestSource f_plan_chips f_plan_firstPins f_plan_firstPlaces f_plan_gates f_plan_inputs f_plan_registers f_plan_slowRegisters f_plan_kinds f_plan_firsts f_plan_seconds f_plan_clocks f_plan_sourceSets f_spare_chips f_spare_firstPins f_spare_firstPlaces f_spare_gates f_spare_inputs f_spare_registers f_spare_slowRegisters f_spare_kinds f_spare_firsts f_spare_seconds f_spare_clocks f_spare_sourceSets w1 w4 w3 w2 w0 f_copy_ones f_copy_unknowns f_copy_places f_copy_pins f_copy_count f_logic_ones f_logic_unknowns f_logic_settled f_sched_available f_sched_wanted f_sched_coming f_sched_waiting f_sched_taken f_sched_sent f_sched_lastSent f_hist_next f_hist_held f_ring_cells f_kept_cells f_sight_steps f_sight_gates f_sight_values f_sight_truths f_sight_held X) ∧ Q w0 w1 w2 w3 w4) := by
  refine CtV.of (by decide) rfl (Nat.le_of_ble_eq_true rfl) ?_
  intro p e s m args below meth c A Z E hret ls hl hw
  have E : gE p m c cX5_get 4 s args RX5 D [(cI, .int), (cZ, .boolean)] A := E
  have hx := E.1.1
  have hb := E.1.2.1
  have hl : lv_has ls 4 [(0, .ref (ad 7)), (1, .int p1), (2, .ref (ad 17))] := hl
  unfold wp_X5_get at h
  refine lv_iload_n hx hb dX5_get_0 rfl (lv_at hl 1 rfl) ?_
  refine lv_iconst (v := 5) hx hb dX5_get_1 (by decide) ?_
  refine lv_imul hx hb dX5_get_2 ?_
  refine lv_topi (fun v1 ev1 => ?_)
  have h := h v1 ev1
  refine lv_istore_n (lv' := [(3, .int v1), (0, .ref (ad 7)), (1, .int p1), (2, .ref (ad 17))]) hx hb dX5_get_3 rfl hl (by decide) rfl (fun ls hl => ?_)
  refine lv_aload_n hx hb dX5_get_4 rfl (lv_at hl 3 rfl) ?_
  refine lv_aload_n hx hb dX5_get_5 rfl (lv_at hl 1 rfl) ?_
  refine gC_X5_15_kept E hw dX5_get_6 ?_
  refine lv_iload_n hx hb dX5_get_9 rfl (lv_at hl 0 rfl) ?_
  refine g_aI E hw (g_rSN E hw (c_X9_cell (q0 := 6) rfl h _) ym_X9_cell km_19 ⟨rfl, rfl⟩ ⟨Nat.le_of_ble_eq_true rfl, Nat.le_of_ble_eq_true rfl⟩ rfl hl.1 rfl (Nat.le_of_ble_eq_true rfl) ⟨Nat.zero_le _, Nat.zero_le _⟩ dX5_get_10) (fun r2 u H locs hq hw => ?_)
  obtain ⟨hu, h⟩ := hq
  rw [hu] at hw
  refine pC_X5_19_now E hw dX5_get_13 (fun H locs hw => ?_)
  refine lv_aload_n hx hb dX5_get_16 rfl (lv_at hl 3 rfl) ?_
  refine lv_aload_n hx hb dX5_get_17 rfl (lv_at hl 1 rfl) ?_
  refine gC_X5_15_kept E hw dX5_get_18 ?_
  refine lv_iload_n hx hb dX5_get_21 rfl (lv_at hl 0 rfl) ?_
  refine lv_iconst (v := 1) hx hb dX5_get_22 (by decide) ?_
  refine lv_iadd hx hb dX5_get_23 ?_
  refine g_aI E hw (g_rSN E hw (c_X9_cell (q0 := 6) rfl h _) ym_X9_cell km_19 ⟨rfl, rfl⟩ ⟨Nat.le_of_ble_eq_true rfl, Nat.le_of_ble_eq_true rfl⟩ rfl hl.1 rfl (Nat.le_of_ble_eq_true rfl) ⟨Nat.zero_le _, Nat.zero_le _⟩ dX5_get_24) (fun r3 u H locs hq hw => ?_)
  obtain ⟨hu, h⟩ := hq
  rw [hu] at hw
  refine pC_X5_31_now E hw dX5_get_27 (fun H locs hw => ?_)
  refine lv_aload_n hx hb dX5_get_30 rfl (lv_at hl 3 rfl) ?_
  refine lv_aload_n hx hb dX5_get_31 rfl (lv_at hl 1 rfl) ?_
  refine gC_X5_15_kept E hw dX5_get_32 ?_
  refine lv_iload_n hx hb dX5_get_35 rfl (lv_at hl 0 rfl) ?_
  refine lv_iconst (v := 2) hx hb dX5_get_36 (by decide) ?_
  refine lv_iadd hx hb dX5_get_37 ?_
  refine g_aI E hw (g_rSN E hw (c_X9_cell (q0 := 6) rfl h _) ym_X9_cell km_19 ⟨rfl, rfl⟩ ⟨Nat.le_of_ble_eq_true rfl, Nat.le_of_ble_eq_true rfl⟩ rfl hl.1 rfl (Nat.le_of_ble_eq_true rfl) ⟨Nat.zero_le _, Nat.zero_le _⟩ dX5_get_38) (fun r4 u H locs hq hw => ?_)
  obtain ⟨hu, h⟩ := hq
  rw [hu] at hw
  refine pC_X5_34_now E hw dX5_get_41 (fun H locs hw => ?_)
  refine lv_aload_n hx hb dX5_get_44 rfl (lv_at hl 3 rfl) ?_
  refine lv_aload_n hx hb dX5_get_45 rfl (lv_at hl 1 rfl) ?_
  refine gC_X5_15_kept E hw dX5_get_46 ?_
  refine lv_iload_n hx hb dX5_get_49 rfl (lv_at hl 0 rfl) ?_
  refine lv_iconst (v := 3) hx hb dX5_get_50 (by decide) ?_
  refine lv_iadd hx hb dX5_get_51 ?_
  refine g_aI E hw (g_rSN E hw (c_X9_cell (q0 := 6) rfl h _) ym_X9_cell km_19 ⟨rfl, rfl⟩ ⟨Nat.le_of_ble_eq_true rfl, Nat.le_of_ble_eq_true rfl⟩ rfl hl.1 rfl (Nat.le_of_ble_eq_true rfl) ⟨Nat.zero_le _, Nat.zero_le _⟩ dX5_get_52) (fun r5 u H locs hq hw => ?_)
  obtain ⟨hu, h⟩ := hq
  rw [hu] at hw
  refine pC_X5_37_now E hw dX5_get_55 (fun H locs hw => ?_)
  refine lv_aload_n hx hb dX5_get_58 rfl (lv_at hl 3 rfl) ?_
  refine lv_aload_n hx hb dX5_get_59 rfl (lv_at hl 1 rfl) ?_
  refine gC_X5_15_kept E hw dX5_get_60 ?_
  refine lv_iload_n hx hb dX5_get_63 rfl (lv_at hl 0 rfl) ?_
  refine lv_iconst (v := 4) hx hb dX5_get_64 (by decide) ?_
  refine lv_iadd hx hb dX5_get_65 ?_
  refine g_aI E hw (g_rSN E hw (c_X9_cell (q0 := 6) rfl h _) ym_X9_cell km_19 ⟨rfl, rfl⟩ ⟨Nat.le_of_ble_eq_true rfl, Nat.le_of_ble_eq_true rfl⟩ rfl hl.1 rfl (Nat.le_of_ble_eq_true rfl) ⟨Nat.zero_le _, Nat.zero_le _⟩ dX5_get_66) (fun r6 u H locs hq hw => ?_)
  obtain ⟨hu, h⟩ := hq
  rw [hu] at hw
  refine pC_X5_40_now E hw dX5_get_69 (fun H locs hw => ?_)
  exact hret _ _ _ _ _ ⟨_, _, _, _, _, rfl, h⟩ hw dX5_get_72
set_option maxRecDepth 100000 in
set_option maxHeartbeats 4000000 in
theorem c_X0_forget {l : Launch} {D : va_G} {cI cZ : ClassId} {ad : Nat → Nat} {f_keptSlots : Int32} {f_trace : Nat → Int32} {f_lastSeed : Int64} {f_text_letters : Nat → Int32} {f_text_length : Int32} {f_reader_place : Int32} {f_reader_greatestSource : Int32} {f_plan_chips : Int32} {f_plan_firstPins : Int32} {f_plan_firstPlaces : Int32} {f_plan_gates : Int32} {f_plan_inputs : Int32} {f_plan_registers : Int32} {f_plan_slowRegisters : Int32} {f_plan_kinds : Nat → Int32} {f_plan_firsts : Nat → Int32} {f_plan_seconds : Nat → Int32} {f_plan_clocks : Nat → Int32} {f_plan_sourceSets : Nat → Int32} {f_spare_chips : Int32} {f_spare_firstPins : Int32} {f_spare_firstPlaces : Int32} {f_spare_gates : Int32} {f_spare_inputs : Int32} {f_spare_registers : Int32} {f_spare_slowRegisters : Int32} {f_spare_kinds : Nat → Int32} {f_spare_firsts : Nat → Int32} {f_spare_seconds : Nat → Int32} {f_spare_clocks : Nat → Int32} {f_spare_sourceSets : Nat → Int32} {f_now_ones : Int32} {f_now_unknowns : Int32} {f_now_places : Int32} {f_now_pins : Int32} {f_now_count : Int32} {f_copy_ones : Int32} {f_copy_unknowns : Int32} {f_copy_places : Int32} {f_copy_pins : Int32} {f_copy_count : Int32} {f_logic_ones : Int32} {f_logic_unknowns : Int32} {f_logic_settled : Int32} {f_sched_available : Nat → Int32} {f_sched_wanted : Nat → Int32} {f_sched_coming : Nat → Int32} {f_sched_waiting : Int32} {f_sched_taken : Int32} {f_sched_sent : Int32} {f_sched_lastSent : Int32} {f_hist_next : Int32} {f_hist_held : Int32} {f_ring_cells : Nat → Int32} {f_kept_cells : Nat → Int32} {f_sight_steps : Nat → Int32} {f_sight_gates : Nat → Int32} {f_sight_values : Nat → Int32} {f_sight_truths : Nat → Int32} {f_sight_held : Int32} {X : va_W} {Q : Int32 → Prop} (h : wp_X0_forget f_hist_held Q) : CtV l yX0_forget cX0_forget 1 none ({ frames := 0, cells := 0, slots := 0, locals := 0 } : Room) D [(cI, .int), (cZ, .boolean)] [.ref (ad 10)] (wC ad cI cZ f_keptSlots f_trace f_lastSeed f_text_letters f_text_length f_reader_place f_reader_greatestSource f_plan_chips f_plan_firstPins f_plan_firstPlaces f_plan_gates f_plan_inputs f_plan_registers f_plan_slowRegisters f_plan_kinds f_plan_firsts f_plan_seconds f_plan_clocks f_plan_sourceSets f_spare_chips f_spare_firstPins f_spare_firstPlaces f_spare_gates f_spare_inputs f_spare_registers f_spare_slowRegisters f_spare_kinds f_spare_firsts f_spare_seconds f_spare_clocks f_spare_sourceSets f_now_ones f_now_unknowns f_now_places f_now_pins f_now_count f_copy_ones f_copy_unknowns f_copy_places f_copy_pins f_copy_count f_logic_ones f_logic_unknowns f_logic_settled f_sched_available f_sched_wanted f_sched_coming f_sched_waiting f_sched_taken f_sched_sent f_sched_lastSent f_hist_next f_hist_held f_ring_cells f_kept_cells f_sight_steps f_sight_gates f_sight_values f_sight_truths f_sight_held X) (fun  u => ∃ w0, u = (wC ad cI cZ f_keptSlots f_trace f_lastSeed f_text_letters f_text_length f_reader_place f_reader_greatestSource f_plan_chips f_plan_firstPins f_plan_firstPlaces f_plan_gates f_plan_inputs f_plan_registers f_plan_slowRegisters f_plan_kinds f_plan_firsts f_plan_seconds f_plan_clocks f_plan_sourceSets f_spare_chips f_spare_firstPins f_spare_firstPlaces f_spare_gates f_spare_inputs f_spare_registers f_spare_slowRegisters f_spare_kinds f_spare_firsts f_spare_seconds f_spare_clocks f_spare_sourceSets f_now_ones f_now_unknowns f_now_places f_now_pins f_now_count f_copy_ones f_copy_unknowns f_copy_places f_copy_pins f_copy_count f_logic_ones f_logic_unknowns f_logic_settled f_sched_available f_sched_wanted f_sched_coming f_sched_waiting f_sched_taken f_sched_sent f_sched_lastSent f_hist_next w0 f_ring_cells f_kept_cells f_sight_steps f_sight_gates f_sight_values f_sight_truths f_sight_held X) ∧ Q w0) := by
  refine CtV.of (by decide) rfl (Nat.le_of_ble_eq_true rfl) ?_
  intro p e s m args below meth c A Z E hret ls hl hw
  have E : gE p m c cX0_forget 1 s args RX0 D [(cI, .int), (cZ, .boolean)] A := E
  have hx := E.1.1
  have hb := E.1.2.1
  have hl : lv_has ls 1 [(0, .ref (ad 10))] := hl
  unfold wp_X0_forget at h
  refine lv_aload_n hx hb dX0_forget_0 rfl (lv_at hl 0 rfl) ?_
  refine lv_iconst (v := 0) hx hb dX0_forget_1 (by decide) ?_
  refine pC_X0_24_hist E hw dX0_forget_2 (fun H locs hw => ?_)
  exact hret _ _ _ _ _ ⟨_, rfl, h⟩ hw dX0_forget_5
set_option maxRecDepth 100000 in
set_option maxHeartbeats 4000000 in
theorem c_X7_begin_spare_now {l : Launch} {D : va_G} {cI cZ : ClassId} {ad : Nat → Nat} {f_keptSlots : Int32} {f_trace : Nat → Int32} {f_lastSeed : Int64} {f_text_letters : Nat → Int32} {f_text_length : Int32} {f_reader_place : Int32} {f_reader_greatestSource : Int32} {f_plan_chips : Int32} {f_plan_firstPins : Int32} {f_plan_firstPlaces : Int32} {f_plan_gates : Int32} {f_plan_inputs : Int32} {f_plan_registers : Int32} {f_plan_slowRegisters : Int32} {f_plan_kinds : Nat → Int32} {f_plan_firsts : Nat → Int32} {f_plan_seconds : Nat → Int32} {f_plan_clocks : Nat → Int32} {f_plan_sourceSets : Nat → Int32} {f_spare_chips : Int32} {f_spare_firstPins : Int32} {f_spare_firstPlaces : Int32} {f_spare_gates : Int32} {f_spare_inputs : Int32} {f_spare_registers : Int32} {f_spare_slowRegisters : Int32} {f_spare_kinds : Nat → Int32} {f_spare_firsts : Nat → Int32} {f_spare_seconds : Nat → Int32} {f_spare_clocks : Nat → Int32} {f_spare_sourceSets : Nat → Int32} {f_now_ones : Int32} {f_now_unknowns : Int32} {f_now_places : Int32} {f_now_pins : Int32} {f_now_count : Int32} {f_copy_ones : Int32} {f_copy_unknowns : Int32} {f_copy_places : Int32} {f_copy_pins : Int32} {f_copy_count : Int32} {f_logic_ones : Int32} {f_logic_unknowns : Int32} {f_logic_settled : Int32} {f_sched_available : Nat → Int32} {f_sched_wanted : Nat → Int32} {f_sched_coming : Nat → Int32} {f_sched_waiting : Int32} {f_sched_taken : Int32} {f_sched_sent : Int32} {f_sched_lastSent : Int32} {f_hist_next : Int32} {f_hist_held : Int32} {f_ring_cells : Nat → Int32} {f_kept_cells : Nat → Int32} {f_sight_steps : Nat → Int32} {f_sight_gates : Nat → Int32} {f_sight_values : Nat → Int32} {f_sight_truths : Nat → Int32} {f_sight_held : Int32} {X : va_W} {Q : Int32 → Int32 → Int32 → Int32 → Int32 → Prop} (h : wp_X7_begin f_now_count f_now_ones f_now_pins f_now_places f_now_unknowns f_spare_firstPins f_spare_firstPlaces Q) : CtV l yX7_begin cX7_begin 2 none ({ frames := 0, cells := 0, slots := 0, locals := 0 } : Room) D [(cI, .int), (cZ, .boolean)] [.ref (ad 17), .ref (ad 23)] (wC ad cI cZ f_keptSlots f_trace f_lastSeed f_text_letters f_text_length f_reader_place f_reader_greatestSource f_plan_chips f_plan_firstPins f_plan_firstPlaces f_plan_gates f_plan_inputs f_plan_registers f_plan_slowRegisters f_plan_kinds f_plan_firsts f_plan_seconds f_plan_clocks f_plan_sourceSets f_spare_chips f_spare_firstPins f_spare_firstPlaces f_spare_gates f_spare_inputs f_spare_registers f_spare_slowRegisters f_spare_kinds f_spare_firsts f_spare_seconds f_spare_clocks f_spare_sourceSets f_now_ones f_now_unknowns f_now_places f_now_pins f_now_count f_copy_ones f_copy_unknowns f_copy_places f_copy_pins f_copy_count f_logic_ones f_logic_unknowns f_logic_settled f_sched_available f_sched_wanted f_sched_coming f_sched_waiting f_sched_taken f_sched_sent f_sched_lastSent f_hist_next f_hist_held f_ring_cells f_kept_cells f_sight_steps f_sight_gates f_sight_values f_sight_truths f_sight_held X) (fun  u => ∃ w0 w1 w2 w3 w4, u = (wC ad cI cZ f_keptSlots f_trace f_lastSeed f_text_letters f_text_length f_reader_place f_reader_greatestSource f_plan_chips f_plan_firstPins f_plan_firstPlaces f_plan_gates f_plan_inputs f_plan_registers f_plan_slowRegisters f_plan_kinds f_plan_firsts f_plan_seconds f_plan_clocks f_plan_sourceSets f_spare_chips f_spare_firstPins f_spare_firstPlaces f_spare_gates f_spare_inputs f_spare_registers f_spare_slowRegisters f_spare_kinds f_spare_firsts f_spare_seconds f_spare_clocks f_spare_sourceSets w1 w4 w3 w2 w0 f_copy_ones f_copy_unknowns f_copy_places f_copy_pins f_copy_count f_logic_ones f_logic_unknowns f_logic_settled f_sched_available f_sched_wanted f_sched_coming f_sched_waiting f_sched_taken f_sched_sent f_sched_lastSent f_hist_next f_hist_held f_ring_cells f_kept_cells f_sight_steps f_sight_gates f_sight_values f_sight_truths f_sight_held X) ∧ Q w0 w1 w2 w3 w4) := by
  refine CtV.of (by decide) rfl (Nat.le_of_ble_eq_true rfl) ?_
  intro p e s m args below meth c A Z E hret ls hl hw
  have E : gE p m c cX7_begin 2 s args RX7 D [(cI, .int), (cZ, .boolean)] A := E
  have hx := E.1.1
  have hb := E.1.2.1
  have hl : lv_has ls 2 [(0, .ref (ad 17)), (1, .ref (ad 23))] := hl
  unfold wp_X7_begin at h
  refine lv_aload_n hx hb dX7_begin_0 rfl (lv_at hl 0 rfl) ?_
  refine lv_iconst (v := 0) hx hb dX7_begin_1 (by decide) ?_
  refine pC_X7_9_now E hw dX7_begin_2 (fun H locs hw => ?_)
  refine lv_aload_n hx hb dX7_begin_5 rfl (lv_at hl 0 rfl) ?_
  refine lv_iconst (v := 0) hx hb dX7_begin_6 (by decide) ?_
  refine pC_X7_15_now E hw dX7_begin_7 (fun H locs hw => ?_)
  refine lv_aload_n hx hb dX7_begin_10 rfl (lv_at hl 0 rfl) ?_
  refine lv_aload_n hx hb dX7_begin_11 rfl (lv_at hl 1 rfl) ?_
  refine gC_X7_27_spare E hw dX7_begin_12 ?_
  refine pC_X7_18_now E hw dX7_begin_15 (fun H locs hw => ?_)
  refine lv_aload_n hx hb dX7_begin_18 rfl (lv_at hl 0 rfl) ?_
  refine lv_aload_n hx hb dX7_begin_19 rfl (lv_at hl 1 rfl) ?_
  refine gC_X7_32_spare E hw dX7_begin_20 ?_
  refine pC_X7_21_now E hw dX7_begin_23 (fun H locs hw => ?_)
  refine lv_aload_n hx hb dX7_begin_26 rfl (lv_at hl 0 rfl) ?_
  refine lv_iconst (v := 0) hx hb dX7_begin_27 (by decide) ?_
  refine pC_X7_24_now E hw dX7_begin_28 (fun H locs hw => ?_)
  exact hret _ _ _ _ _ ⟨_, _, _, _, _, rfl, h⟩ hw dX7_begin_31
