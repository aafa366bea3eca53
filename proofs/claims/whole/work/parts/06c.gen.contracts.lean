set_option maxRecDepth 100000 in
set_option maxHeartbeats 4000000 in
theorem c_X1_setValue {l : Launch} {D : va_G} {cI cZ : ClassId} {ad : Nat → Nat} {f_keptSlots : Int32} {f_trace : Nat → Int32} {f_lastSeed : Int64} {f_text_letters : Nat → Int32} {f_text_length : Int32} {f_reader_place : Int32} {f_reader_greatestSource : Int32} {f_plan_chips : Int32} {f_plan_firstPins : Int32} {f_plan_firstPlaces : Int32} {f_plan_gates : Int32} {f_plan_inputs : Int32} {f_plan_registers : Int32} {f_plan_slowRegisters : Int32} {f_plan_kinds : Nat → Int32} {f_plan_firsts : Nat → Int32} {f_plan_seconds : Nat → Int32} {f_plan_clocks : Nat → Int32} {f_plan_sourceSets : Nat → Int32} {f_spare_chips : Int32} {f_spare_firstPins : Int32} {f_spare_firstPlaces : Int32} {f_spare_gates : Int32} {f_spare_inputs : Int32} {f_spare_registers : Int32} {f_spare_slowRegisters : Int32} {f_spare_kinds : Nat → Int32} {f_spare_firsts : Nat → Int32} {f_spare_seconds : Nat → Int32} {f_spare_clocks : Nat → Int32} {f_spare_sourceSets : Nat → Int32} {f_now_ones : Int32} {f_now_unknowns : Int32} {f_now_places : Int32} {f_now_pins : Int32} {f_now_count : Int32} {f_copy_ones : Int32} {f_copy_unknowns : Int32} {f_copy_places : Int32} {f_copy_pins : Int32} {f_copy_count : Int32} {f_logic_ones : Int32} {f_logic_unknowns : Int32} {f_logic_settled : Int32} {f_sched_available : Nat → Int32} {f_sched_wanted : Nat → Int32} {f_sched_coming : Nat → Int32} {f_sched_waiting : Int32} {f_sched_taken : Int32} {f_sched_sent : Int32} {f_sched_lastSent : Int32} {f_hist_next : Int32} {f_hist_held : Int32} {f_ring_cells : Nat → Int32} {f_kept_cells : Nat → Int32} {f_sight_steps : Nat → Int32} {f_sight_gates : Nat → Int32} {f_sight_values : Nat → Int32} {f_sight_truths : Nat → Int32} {f_sight_held : Int32} {X : va_W} {p1 : Int32} {p2 : Int32} {Q : Int32 → Int32 → Prop} (h : wp_X1_setValue f_logic_ones f_logic_unknowns p1 p2 Q) : CtV l yX1_setValue cX1_setValue 3 none ({ frames := 1, cells := 0, slots := 0, locals := 20 } : Room) D [(cI, .int), (cZ, .boolean)] [.ref (ad 15), .int p1, .int p2] (wC ad cI cZ f_keptSlots f_trace f_lastSeed f_text_letters f_text_length f_reader_place f_reader_greatestSource f_plan_chips f_plan_firstPins f_plan_firstPlaces f_plan_gates f_plan_inputs f_plan_registers f_plan_slowRegisters f_plan_kinds f_plan_firsts f_plan_seconds f_plan_clocks f_plan_sourceSets f_spare_chips f_spare_firstPins f_spare_firstPlaces f_spare_gates f_spare_inputs f_spare_registers f_spare_slowRegisters f_spare_kinds f_spare_firsts f_spare_seconds f_spare_clocks f_spare_sourceSets f_now_ones f_now_unknowns f_now_places f_now_pins f_now_count f_copy_ones f_copy_unknowns f_copy_places f_copy_pins f_copy_count f_logic_ones f_logic_unknowns f_logic_settled f_sched_available f_sched_wanted f_sched_coming f_sched_waiting f_sched_taken f_sched_sent f_sched_lastSent f_hist_next f_hist_held f_ring_cells f_kept_cells f_sight_steps f_sight_gates f_sight_values f_sight_truths f_sight_held X) (fun  u => ∃ w0 w1, u = (wC ad cI cZ f_keptSlots f_trace f_lastSeed f_text_letters f_text_length f_reader_place f_reader_greatestSource f_plan_chips f_plan_firstPins f_plan_firstPlaces f_plan_gates f_plan_inputs f_plan_registers f_plan_slowRegisters f_plan_kinds f_plan_firsts f_plan_seconds f_plan_clocks f_plan_sourceSets f_spare_chips f_spare_firstPins f_spare_firstPlaces f_spare_gates f_spare_inputs f_spare_registers f_spare_slowRegisters f_spare_kinds f_spare_firsts f_spare_seconds f_spare_clocks f_spare_sourceSets f_now_ones f_now_unknowns f_now_places f_now_pins f_now_count f_copy_ones f_copy_unknowns f_copy_places f_copy_pins f_copy_count w0 w1 f_logic_settled f_sched_available f_sched_wanted f_sched_coming f_sched_waiting f_sched_taken f_sched_sent f_sched_lastSent f_hist_next f_hist_held f_ring_cells f_kept_cells f_sight_steps f_sight_gates f_sight_values f_sight_truths f_sight_held X) ∧ Q w0 w1) := by
  refine CtV.of (by decide) rfl (Nat.le_of_ble_eq_true rfl) ?_
  intro p e s m args below meth c A Z E hret ls hl hw
  have E : gE p m c cX1_setValue 3 s args RX1 D [(cI, .int), (cZ, .boolean)] A := E
  have hx := E.1.1
  have hb := E.1.2.1
  have hl : lv_has ls 3 [(0, .ref (ad 15)), (1, .int p1), (2, .int p2)] := hl
  have J18 : ∀ (f_logic_ones : Int32) (f_logic_unknowns : Int32) (H : Heap) (locs : List Loc) (ls : Array Slot), wp_X1_setValue_b18 p1 p2 Q  f_logic_ones f_logic_unknowns → gW D s A (wC ad cI cZ f_keptSlots f_trace f_lastSeed f_text_letters f_text_length f_reader_place f_reader_greatestSource f_plan_chips f_plan_firstPins f_plan_firstPlaces f_plan_gates f_plan_inputs f_plan_registers f_plan_slowRegisters f_plan_kinds f_plan_firsts f_plan_seconds f_plan_clocks f_plan_sourceSets f_spare_chips f_spare_firstPins f_spare_firstPlaces f_spare_gates f_spare_inputs f_spare_registers f_spare_slowRegisters f_spare_kinds f_spare_firsts f_spare_seconds f_spare_clocks f_spare_sourceSets f_now_ones f_now_unknowns f_now_places f_now_pins f_now_count f_copy_ones f_copy_unknowns f_copy_places f_copy_pins f_copy_count f_logic_ones f_logic_unknowns f_logic_settled f_sched_available f_sched_wanted f_sched_coming f_sched_waiting f_sched_taken f_sched_sent f_sched_lastSent f_hist_next f_hist_held f_ring_cells f_kept_cells f_sight_steps f_sight_gates f_sight_values f_sight_truths f_sight_held X) H locs → lv_has ls 3 [(0, .ref (ad 15)), (1, .int p1), (2, .int p2)] → W p l e ({ frames := 1, cells := 0, slots := 0, locals := 20 } : Room) s m args below meth c H locs 0 0 Z (F0 m 18 ls []) := by
    intro f_logic_ones f_logic_unknowns H locs ls h hw hl
    unfold wp_X1_setValue_b18 at h
    refine lv_iload_n hx hb dX1_setValue_18 rfl (lv_at hl 2 rfl) ?_
    refine lv_iconst (v := 2) hx hb dX1_setValue_19 (by decide) ?_
    refine lv_icmp_ne (tgt := 36) hx hb dX1_setValue_20 (by decide) (fun c1 => ?_) (fun c1 => ?_)
    · have h := h.1 c1
      exact hret _ _ _ _ _ ⟨_, _, rfl, h⟩ hw dX1_setValue_36
    · have h := h.2 c1
      refine lv_aload_n hx hb dX1_setValue_23 rfl (lv_at hl 0 rfl) ?_
      refine lv_dup hx hb dX1_setValue_24 rfl ?_
      refine gC_X1_15_logic E hw dX1_setValue_25 ?_
      refine lv_iload_n hx hb dX1_setValue_28 rfl (lv_at hl 1 rfl) ?_
      refine g_aI E hw (g_rSN E hw (c_X9_bit h _) ym_X9_bit km_15 ⟨rfl, rfl⟩ ⟨Nat.le_of_ble_eq_true rfl, Nat.le_of_ble_eq_true rfl⟩ rfl hl.1 rfl (Nat.le_of_ble_eq_true rfl) ⟨Nat.zero_le _, Nat.zero_le _⟩ dX1_setValue_29) (fun r2 u H locs hq hw => ?_)
      obtain ⟨hu, h⟩ := hq
      rw [hu] at hw
      refine lv_ior hx hb dX1_setValue_32 ?_
      refine lv_topi (fun v3 ev3 => ?_)
      have h := h v3 ev3
      refine pC_X1_15_logic E hw dX1_setValue_33 (fun H locs hw => ?_)
      exact hret _ _ _ _ _ ⟨_, _, rfl, h⟩ hw dX1_setValue_36
  unfold wp_X1_setValue at h
  refine lv_iload_n hx hb dX1_setValue_0 rfl (lv_at hl 2 rfl) ?_
  refine lv_iconst (v := 1) hx hb dX1_setValue_1 (by decide) ?_
  refine lv_icmp_ne (tgt := 18) hx hb dX1_setValue_2 (by decide) (fun c4 => ?_) (fun c4 => ?_)
  · have h := h.1 c4
    exact J18 f_logic_ones f_logic_unknowns _ _ _ h hw (lv_sub hl [0, 1, 2] rfl)
  · have h := h.2 c4
    refine lv_aload_n hx hb dX1_setValue_5 rfl (lv_at hl 0 rfl) ?_
    refine lv_dup hx hb dX1_setValue_6 rfl ?_
    refine gC_X1_9_logic E hw dX1_setValue_7 ?_
    refine lv_iload_n hx hb dX1_setValue_10 rfl (lv_at hl 1 rfl) ?_
    refine g_aI E hw (g_rSN E hw (c_X9_bit h _) ym_X9_bit km_15 ⟨rfl, rfl⟩ ⟨Nat.le_of_ble_eq_true rfl, Nat.le_of_ble_eq_true rfl⟩ rfl hl.1 rfl (Nat.le_of_ble_eq_true rfl) ⟨Nat.zero_le _, Nat.zero_le _⟩ dX1_setValue_11) (fun r5 u H locs hq hw => ?_)
    obtain ⟨hu, h⟩ := hq
    rw [hu] at hw
    refine lv_ior hx hb dX1_setValue_14 ?_
    refine lv_topi (fun v6 ev6 => ?_)
    have h := h v6 ev6
    refine pC_X1_9_logic E hw dX1_setValue_15 (fun H locs hw => ?_)
    exact J18 v6 f_logic_unknowns _ _ _ h hw (lv_sub hl [0, 1, 2] rfl)
set_option maxRecDepth 100000 in
set_option maxHeartbeats 4000000 in
theorem c_X1_settle_plan {l : Launch} {D : va_G} {cI cZ : ClassId} {ad : Nat → Nat} {f_keptSlots : Int32} {f_trace : Nat → Int32} {f_lastSeed : Int64} {f_text_letters : Nat → Int32} {f_text_length : Int32} {f_reader_place : Int32} {f_reader_greatestSource : Int32} {f_plan_chips : Int32} {f_plan_firstPins : Int32} {f_plan_firstPlaces : Int32} {f_plan_gates : Int32} {f_plan_inputs : Int32} {f_plan_registers : Int32} {f_plan_slowRegisters : Int32} {f_plan_kinds : Nat → Int32} {f_plan_firsts : Nat → Int32} {f_plan_seconds : Nat → Int32} {f_plan_clocks : Nat → Int32} {f_plan_sourceSets : Nat → Int32} {f_spare_chips : Int32} {f_spare_firstPins : Int32} {f_spare_firstPlaces : Int32} {f_spare_gates : Int32} {f_spare_inputs : Int32} {f_spare_registers : Int32} {f_spare_slowRegisters : Int32} {f_spare_kinds : Nat → Int32} {f_spare_firsts : Nat → Int32} {f_spare_seconds : Nat → Int32} {f_spare_clocks : Nat → Int32} {f_spare_sourceSets : Nat → Int32} {f_now_ones : Int32} {f_now_unknowns : Int32} {f_now_places : Int32} {f_now_pins : Int32} {f_now_count : Int32} {f_copy_ones : Int32} {f_copy_unknowns : Int32} {f_copy_places : Int32} {f_copy_pins : Int32} {f_copy_count : Int32} {f_logic_ones : Int32} {f_logic_unknowns : Int32} {f_logic_settled : Int32} {f_sched_available : Nat → Int32} {f_sched_wanted : Nat → Int32} {f_sched_coming : Nat → Int32} {f_sched_waiting : Int32} {f_sched_taken : Int32} {f_sched_sent : Int32} {f_sched_lastSent : Int32} {f_hist_next : Int32} {f_hist_held : Int32} {f_ring_cells : Nat → Int32} {f_kept_cells : Nat → Int32} {f_sight_steps : Nat → Int32} {f_sight_gates : Nat → Int32} {f_sight_values : Nat → Int32} {f_sight_truths : Nat → Int32} {f_sight_held : Int32} {X : va_W} {Q : Int32 → Int32 → Int32 → Prop} (h : wp_X1_settle f_logic_ones f_logic_settled f_logic_unknowns f_plan_firsts f_plan_gates f_plan_kinds f_plan_seconds f_plan_sourceSets Q) : CtV l yX1_settle cX1_settle 5 none ({ frames := 2, cells := 0, slots := 0, locals := 42 } : Room) D [(cI, .int), (cZ, .boolean)] [.ref (ad 15), .ref (ad 29)] (wC ad cI cZ f_keptSlots f_trace f_lastSeed f_text_letters f_text_length f_reader_place f_reader_greatestSource f_plan_chips f_plan_firstPins f_plan_firstPlaces f_plan_gates f_plan_inputs f_plan_registers f_plan_slowRegisters f_plan_kinds f_plan_firsts f_plan_seconds f_plan_clocks f_plan_sourceSets f_spare_chips f_spare_firstPins f_spare_firstPlaces f_spare_gates f_spare_inputs f_spare_registers f_spare_slowRegisters f_spare_kinds f_spare_firsts f_spare_seconds f_spare_clocks f_spare_sourceSets f_now_ones f_now_unknowns f_now_places f_now_pins f_now_count f_copy_ones f_copy_unknowns f_copy_places f_copy_pins f_copy_count f_logic_ones f_logic_unknowns f_logic_settled f_sched_available f_sched_wanted f_sched_coming f_sched_waiting f_sched_taken f_sched_sent f_sched_lastSent f_hist_next f_hist_held f_ring_cells f_kept_cells f_sight_steps f_sight_gates f_sight_values f_sight_truths f_sight_held X) (fun  u => ∃ w0 w1 w2, u = (wC ad cI cZ f_keptSlots f_trace f_lastSeed f_text_letters f_text_length f_reader_place f_reader_greatestSource f_plan_chips f_plan_firstPins f_plan_firstPlaces f_plan_gates f_plan_inputs f_plan_registers f_plan_slowRegisters f_plan_kinds f_plan_firsts f_plan_seconds f_plan_clocks f_plan_sourceSets f_spare_chips f_spare_firstPins f_spare_firstPlaces f_spare_gates f_spare_inputs f_spare_registers f_spare_slowRegisters f_spare_kinds f_spare_firsts f_spare_seconds f_spare_clocks f_spare_sourceSets f_now_ones f_now_unknowns f_now_places f_now_pins f_now_count f_copy_ones f_copy_unknowns f_copy_places f_copy_pins f_copy_count w0 w2 w1 f_sched_available f_sched_wanted f_sched_coming f_sched_waiting f_sched_taken f_sched_sent f_sched_lastSent f_hist_next f_hist_held f_ring_cells f_kept_cells f_sight_steps f_sight_gates f_sight_values f_sight_truths f_sight_held X) ∧ Q w0 w1 w2) := by
  refine CtV.of (by decide) rfl (Nat.le_of_ble_eq_true rfl) ?_
  intro p e s m args below meth c A Z E hret ls hl hw
  have E : gE p m c cX1_settle 5 s args RX1 D [(cI, .int), (cZ, .boolean)] A := E
  have hx := E.1.1
  have hb := E.1.2.1
  have hl : lv_has ls 5 [(0, .ref (ad 15)), (1, .ref (ad 29))] := hl
  have L2 : ∀ (n : Nat) (x2 : Int32) (f_logic_ones : Int32) (f_logic_settled : Int32) (f_logic_unknowns : Int32) (H : Heap) (locs : List Loc) (ls : Array Slot), wp_X1_settle_h2 f_plan_firsts f_plan_gates f_plan_kinds f_plan_seconds f_plan_sourceSets Q  n x2 f_logic_ones f_logic_settled f_logic_unknowns → gW D s A (wC ad cI cZ f_keptSlots f_trace f_lastSeed f_text_letters f_text_length f_reader_place f_reader_greatestSource f_plan_chips f_plan_firstPins f_plan_firstPlaces f_plan_gates f_plan_inputs f_plan_registers f_plan_slowRegisters f_plan_kinds f_plan_firsts f_plan_seconds f_plan_clocks f_plan_sourceSets f_spare_chips f_spare_firstPins f_spare_firstPlaces f_spare_gates f_spare_inputs f_spare_registers f_spare_slowRegisters f_spare_kinds f_spare_firsts f_spare_seconds f_spare_clocks f_spare_sourceSets f_now_ones f_now_unknowns f_now_places f_now_pins f_now_count f_copy_ones f_copy_unknowns f_copy_places f_copy_pins f_copy_count f_logic_ones f_logic_unknowns f_logic_settled f_sched_available f_sched_wanted f_sched_coming f_sched_waiting f_sched_taken f_sched_sent f_sched_lastSent f_hist_next f_hist_held f_ring_cells f_kept_cells f_sight_steps f_sight_gates f_sight_values f_sight_truths f_sight_held X) H locs → lv_has ls 5 [(0, .ref (ad 15)), (1, .ref (ad 29)), (2, .int x2)] → W p l e ({ frames := 2, cells := 0, slots := 0, locals := 42 } : Room) s m args below meth c H locs 0 0 Z (F0 m 2 ls []) := by
    intro n
    induction n with
    | zero => intro x2 f_logic_ones f_logic_settled f_logic_unknowns H locs ls h; exact False.elim h
    | succ n2 ih2 =>
      intro x2 f_logic_ones f_logic_settled f_logic_unknowns H locs ls h hw hl
      have h : wp_X1_settle_b2 f_plan_firsts f_plan_gates f_plan_kinds f_plan_seconds f_plan_sourceSets Q (wp_X1_settle_h2 f_plan_firsts f_plan_gates f_plan_kinds f_plan_seconds f_plan_sourceSets Q  n2) x2 f_logic_ones f_logic_settled f_logic_unknowns := h
      have J101 : ∀ (x2 : Int32) (f_logic_ones : Int32) (f_logic_settled : Int32) (f_logic_unknowns : Int32) (H : Heap) (locs : List Loc) (ls : Array Slot), wp_X1_settle_b101 f_plan_firsts f_plan_gates f_plan_kinds f_plan_seconds f_plan_sourceSets Q (wp_X1_settle_h2 f_plan_firsts f_plan_gates f_plan_kinds f_plan_seconds f_plan_sourceSets Q  n2) x2 f_logic_ones f_logic_settled f_logic_unknowns → gW D s A (wC ad cI cZ f_keptSlots f_trace f_lastSeed f_text_letters f_text_length f_reader_place f_reader_greatestSource f_plan_chips f_plan_firstPins f_plan_firstPlaces f_plan_gates f_plan_inputs f_plan_registers f_plan_slowRegisters f_plan_kinds f_plan_firsts f_plan_seconds f_plan_clocks f_plan_sourceSets f_spare_chips f_spare_firstPins f_spare_firstPlaces f_spare_gates f_spare_inputs f_spare_registers f_spare_slowRegisters f_spare_kinds f_spare_firsts f_spare_seconds f_spare_clocks f_spare_sourceSets f_now_ones f_now_unknowns f_now_places f_now_pins f_now_count f_copy_ones f_copy_unknowns f_copy_places f_copy_pins f_copy_count f_logic_ones f_logic_unknowns f_logic_settled f_sched_available f_sched_wanted f_sched_coming f_sched_waiting f_sched_taken f_sched_sent f_sched_lastSent f_hist_next f_hist_held f_ring_cells f_kept_cells f_sight_steps f_sight_gates f_sight_values f_sight_truths f_sight_held X) H locs → lv_has ls 5 [(0, .ref (ad 15)), (1, .ref (ad 29)), (2, .int x2)] → W p l e ({ frames := 2, cells := 0, slots := 0, locals := 42 } : Room) s m args below meth c H locs 0 0 Z (F0 m 101 ls []) := by
        intro x2 f_logic_ones f_logic_settled f_logic_unknowns H locs ls h hw hl
        unfold wp_X1_settle_b101 at h
        obtain ⟨v1, ev1⟩ : ∃ y : Int32, y = x2 + 1 := ⟨_, rfl⟩
        have h := h v1 ev1
        refine lv_iinc (v := v1) (lv' := [(2, .int v1), (0, .ref (ad 15)), (1, .ref (ad 29))]) hx hb dX1_settle_101 hl (k := 2) rfl (by rw [ev1]; rfl) (by decide) rfl (fun ls hl => ?_)
        refine lv_goto (tgt := 2) hx hb dX1_settle_104 (by decide) ?_
        exact ih2 v1 f_logic_ones f_logic_settled f_logic_unknowns _ _ _ h hw (lv_sub hl [1, 2, 0] rfl)
      unfold wp_X1_settle_b2 at h
      refine lv_iload_n hx hb dX1_settle_2 rfl (lv_at hl 2 rfl) ?_
      refine lv_aload_n hx hb dX1_settle_3 rfl (lv_at hl 1 rfl) ?_
      refine gC_X1_35_plan E hw dX1_settle_4 ?_
      refine lv_icmp_ge (tgt := 107) hx hb dX1_settle_7 (by decide) (fun c2 => ?_) (fun c2 => ?_)
      · have h := h.1 c2
        exact hret _ _ _ _ _ ⟨_, _, _, rfl, h⟩ hw dX1_settle_107
      · have h := h.2 c2
        refine lv_aload_n hx hb dX1_settle_10 rfl (lv_at hl 0 rfl) ?_
        refine gC_X1_18_logic E hw dX1_settle_11 ?_
        refine lv_iload_n hx hb dX1_settle_14 rfl (lv_at hl 2 rfl) ?_
        refine g_aI E hw (g_rSN E hw (c_X9_bit h _) ym_X9_bit km_15 ⟨rfl, rfl⟩ ⟨Nat.le_of_ble_eq_true rfl, Nat.le_of_ble_eq_true rfl⟩ rfl hl.1 rfl (Nat.le_of_ble_eq_true rfl) ⟨Nat.zero_le _, Nat.zero_le _⟩ dX1_settle_15) (fun r3 u H locs hq hw => ?_)
        obtain ⟨hu, h⟩ := hq
        rw [hu] at hw
        refine lv_iand hx hb dX1_settle_18 ?_
        refine lv_if_ne (tgt := 101) hx hb dX1_settle_19 (by decide) (fun c4 => ?_) (fun c4 => ?_)
        · have h := h.1 c4
          exact J101 x2 f_logic_ones f_logic_settled f_logic_unknowns _ _ _ h hw (lv_sub hl [0, 1, 2] rfl)
        · have h := h.2 c4
          refine lv_aload_n hx hb dX1_settle_22 rfl (lv_at hl 1 rfl) ?_
          refine lv_iload_n hx hb dX1_settle_23 rfl (lv_at hl 2 rfl) ?_
          refine g_aI E hw (g_rV E hw (c_X2_sourcesOf_plan h _) ym_X2_sourcesOf k_309 ⟨rfl, rfl⟩ ⟨Nat.le_of_ble_eq_true rfl, Nat.le_of_ble_eq_true rfl⟩ 29 rfl rfl rfl rfl hl.1 rfl (Nat.le_of_ble_eq_true rfl) ⟨Nat.zero_le _, Nat.zero_le _⟩ dX1_settle_24) (fun r5 u H locs hq hw => ?_)
          obtain ⟨hu, h⟩ := hq
          rw [hu] at hw
          refine lv_aload_n hx hb dX1_settle_27 rfl (lv_at hl 0 rfl) ?_
          refine gC_X1_18_logic E hw dX1_settle_28 ?_
          refine lv_iconst (v := -1) hx hb dX1_settle_31 (by decide) ?_
          refine lv_ixor hx hb dX1_settle_32 ?_
          refine lv_iand hx hb dX1_settle_33 ?_
          refine lv_if_ne (tgt := 101) hx hb dX1_settle_34 (by decide) (fun c6 => ?_) (fun c6 => ?_)
          · have h := h.1 c6
            exact J101 x2 f_logic_ones f_logic_settled f_logic_unknowns _ _ _ h hw (lv_sub hl [0, 1, 2] rfl)
          · have h := h.2 c6
            refine lv_aload_n hx hb dX1_settle_37 rfl (lv_at hl 0 rfl) ?_
            refine gC_X1_9_logic E hw dX1_settle_38 ?_
            refine lv_aload_n hx hb dX1_settle_41 rfl (lv_at hl 0 rfl) ?_
            refine gC_X1_15_logic E hw dX1_settle_42 ?_
            refine lv_aload_n hx hb dX1_settle_45 rfl (lv_at hl 1 rfl) ?_
            refine lv_iload_n hx hb dX1_settle_46 rfl (lv_at hl 2 rfl) ?_
            refine g_aI E hw (g_rV E hw (c_X2_firstOf_plan h _) ym_X2_firstOf k_310 ⟨rfl, rfl⟩ ⟨Nat.le_of_ble_eq_true rfl, Nat.le_of_ble_eq_true rfl⟩ 29 rfl rfl rfl rfl hl.1 rfl (Nat.le_of_ble_eq_true rfl) ⟨Nat.zero_le _, Nat.zero_le _⟩ dX1_settle_47) (fun r7 u H locs hq hw => ?_)
            obtain ⟨hu, h⟩ := hq
            rw [hu] at hw
            refine g_aI E hw (g_rSN E hw (c_X9_valueIn h _) ym_X9_valueIn km_16 ⟨rfl, rfl⟩ ⟨Nat.le_of_ble_eq_true rfl, Nat.le_of_ble_eq_true rfl⟩ rfl hl.1 rfl (Nat.le_of_ble_eq_true rfl) ⟨Nat.zero_le _, Nat.zero_le _⟩ dX1_settle_50) (fun r8 u H locs hq hw => ?_)
            obtain ⟨hu, h⟩ := hq
            rw [hu] at hw
            refine lv_istore_n (lv' := [(3, .int r8), (0, .ref (ad 15)), (1, .ref (ad 29)), (2, .int x2)]) hx hb dX1_settle_53 rfl hl (by decide) rfl (fun ls hl => ?_)
            refine lv_aload_n hx hb dX1_settle_54 rfl (lv_at hl 1 rfl) ?_
            refine gC_X1_9_logic E hw dX1_settle_55 ?_
            refine lv_aload_n hx hb dX1_settle_58 rfl (lv_at hl 1 rfl) ?_
            refine gC_X1_15_logic E hw dX1_settle_59 ?_
            refine lv_aload_n hx hb dX1_settle_62 rfl (lv_at hl 2 rfl) ?_
            refine lv_iload_n hx hb dX1_settle_63 rfl (lv_at hl 3 rfl) ?_
            refine g_aI E hw (g_rV E hw (c_X2_secondOf_plan h _) ym_X2_secondOf k_314 ⟨rfl, rfl⟩ ⟨Nat.le_of_ble_eq_true rfl, Nat.le_of_ble_eq_true rfl⟩ 29 rfl rfl rfl rfl hl.1 rfl (Nat.le_of_ble_eq_true rfl) ⟨Nat.zero_le _, Nat.zero_le _⟩ dX1_settle_64) (fun r9 u H locs hq hw => ?_)
            obtain ⟨hu, h⟩ := hq
            rw [hu] at hw
            refine g_aI E hw (g_rSN E hw (c_X9_valueIn h _) ym_X9_valueIn km_16 ⟨rfl, rfl⟩ ⟨Nat.le_of_ble_eq_true rfl, Nat.le_of_ble_eq_true rfl⟩ rfl hl.1 rfl (Nat.le_of_ble_eq_true rfl) ⟨Nat.zero_le _, Nat.zero_le _⟩ dX1_settle_67) (fun r10 u H locs hq hw => ?_)
            obtain ⟨hu, h⟩ := hq
            rw [hu] at hw
            refine lv_istore (lv' := [(4, .int r10), (3, .int r8), (0, .ref (ad 15)), (1, .ref (ad 29)), (2, .int x2)]) hx hb dX1_settle_70 hl (by decide) rfl (fun ls hl => ?_)
            refine lv_aload_n hx hb dX1_settle_72 rfl (lv_at hl 2 rfl) ?_
            refine lv_iload_n hx hb dX1_settle_73 rfl (lv_at hl 4 rfl) ?_
            refine lv_aload_n hx hb dX1_settle_74 rfl (lv_at hl 3 rfl) ?_
            refine lv_iload_n hx hb dX1_settle_75 rfl (lv_at hl 4 rfl) ?_
            refine g_aI E hw (g_rV E hw (c_X2_kindOf_plan h _) ym_X2_kindOf k_315 ⟨rfl, rfl⟩ ⟨Nat.le_of_ble_eq_true rfl, Nat.le_of_ble_eq_true rfl⟩ 29 rfl rfl rfl rfl hl.1 rfl (Nat.le_of_ble_eq_true rfl) ⟨Nat.zero_le _, Nat.zero_le _⟩ dX1_settle_76) (fun r11 u H locs hq hw => ?_)
            obtain ⟨hu, h⟩ := hq
            rw [hu] at hw
            refine lv_iload_n hx hb dX1_settle_79 rfl (lv_at hl 1 rfl) ?_
            refine lv_iload hx hb dX1_settle_80 (lv_at hl 0 rfl) ?_
            refine g_aI E hw (g_rS E hw (c_X1_outcome h _) ym_X1_outcome k_316 ⟨rfl, rfl⟩ ⟨Nat.le_of_ble_eq_true rfl, Nat.le_of_ble_eq_true rfl⟩ rfl hl.1 rfl (Nat.le_of_ble_eq_true rfl) ⟨Nat.zero_le _, Nat.zero_le _⟩ dX1_settle_82) (fun r12 u H locs hq hw => ?_)
            obtain ⟨hu, h⟩ := hq
            rw [hu] at hw
            refine g_aV E hw (g_rV E hw (c_X1_setValue h _) ym_X1_setValue k_319 ⟨rfl, rfl⟩ ⟨Nat.le_of_ble_eq_true rfl, Nat.le_of_ble_eq_true rfl⟩ 15 rfl rfl rfl rfl hl.1 rfl (Nat.le_of_ble_eq_true rfl) ⟨Nat.zero_le _, Nat.zero_le _⟩ dX1_settle_85) (fun u H locs hq hw => ?_)
            obtain ⟨y14, y15, hu, h⟩ := hq
            rw [hu] at hw
            refine lv_aload_n hx hb dX1_settle_88 rfl (lv_at hl 2 rfl) ?_
            refine lv_dup hx hb dX1_settle_89 rfl ?_
            refine gC_X1_18_logic E hw dX1_settle_90 ?_
            refine lv_iload_n hx hb dX1_settle_93 rfl (lv_at hl 4 rfl) ?_
            refine g_aI E hw (g_rSN E hw (c_X9_bit h _) ym_X9_bit km_15 ⟨rfl, rfl⟩ ⟨Nat.le_of_ble_eq_true rfl, Nat.le_of_ble_eq_true rfl⟩ rfl hl.1 rfl (Nat.le_of_ble_eq_true rfl) ⟨Nat.zero_le _, Nat.zero_le _⟩ dX1_settle_94) (fun r16 u H locs hq hw => ?_)
            obtain ⟨hu, h⟩ := hq
            rw [hu] at hw
            refine lv_ior hx hb dX1_settle_97 ?_
            refine lv_topi (fun v17 ev17 => ?_)
            have h := h v17 ev17
            refine pC_X1_18_logic E hw dX1_settle_98 (fun H locs hw => ?_)
            exact J101 x2 y14 v17 y15 _ _ _ h hw (lv_sub hl [2, 3, 4] rfl)
  unfold wp_X1_settle at h
  refine lv_iconst (v := 0) hx hb dX1_settle_0 (by decide) ?_
  refine lv_istore_n (lv' := [(2, .int (0 : Int32)), (0, .ref (ad 15)), (1, .ref (ad 29))]) hx hb dX1_settle_1 rfl hl (by decide) rfl (fun ls hl => ?_)
  obtain ⟨n, h⟩ := h
  exact L2 n (0 : Int32) f_logic_ones f_logic_settled f_logic_unknowns _ _ _ h hw (lv_sub hl [1, 2, 0] rfl)
set_option maxRecDepth 100000 in
set_option maxHeartbeats 4000000 in
theorem c_X1_compute_plan_now {l : Launch} {D : va_G} {cI cZ : ClassId} {ad : Nat → Nat} {f_keptSlots : Int32} {f_trace : Nat → Int32} {f_lastSeed : Int64} {f_text_letters : Nat → Int32} {f_text_length : Int32} {f_reader_place : Int32} {f_reader_greatestSource : Int32} {f_plan_chips : Int32} {f_plan_firstPins : Int32} {f_plan_firstPlaces : Int32} {f_plan_gates : Int32} {f_plan_inputs : Int32} {f_plan_registers : Int32} {f_plan_slowRegisters : Int32} {f_plan_kinds : Nat → Int32} {f_plan_firsts : Nat → Int32} {f_plan_seconds : Nat → Int32} {f_plan_clocks : Nat → Int32} {f_plan_sourceSets : Nat → Int32} {f_spare_chips : Int32} {f_spare_firstPins : Int32} {f_spare_firstPlaces : Int32} {f_spare_gates : Int32} {f_spare_inputs : Int32} {f_spare_registers : Int32} {f_spare_slowRegisters : Int32} {f_spare_kinds : Nat → Int32} {f_spare_firsts : Nat → Int32} {f_spare_seconds : Nat → Int32} {f_spare_clocks : Nat → Int32} {f_spare_sourceSets : Nat → Int32} {f_now_ones : Int32} {f_now_unknowns : Int32} {f_now_places : Int32} {f_now_pins : Int32} {f_now_count : Int32} {f_copy_ones : Int32} {f_copy_unknowns : Int32} {f_copy_places : Int32} {f_copy_pins : Int32} {f_copy_count : Int32} {f_logic_ones : Int32} {f_logic_unknowns : Int32} {f_logic_settled : Int32} {f_sched_available : Nat → Int32} {f_sched_wanted : Nat → Int32} {f_sched_coming : Nat → Int32} {f_sched_waiting : Int32} {f_sched_taken : Int32} {f_sched_sent : Int32} {f_sched_lastSent : Int32} {f_hist_next : Int32} {f_hist_held : Int32} {f_ring_cells : Nat → Int32} {f_kept_cells : Nat → Int32} {f_sight_steps : Nat → Int32} {f_sight_gates : Nat → Int32} {f_sight_values : Nat → Int32} {f_sight_truths : Nat → Int32} {f_sight_held : Int32} {X : va_W} {p3 : Int32} {Q : Int32 → Int32 → Int32 → Prop} (h : wp_X1_compute f_logic_ones f_logic_settled f_logic_unknowns f_plan_firsts f_plan_gates f_plan_inputs f_plan_kinds f_plan_registers f_plan_seconds f_plan_sourceSets f_now_ones f_now_unknowns p3 Q) : CtV l yX1_compute cX1_compute 6 none ({ frames := 3, cells := 0, slots := 0, locals := 66 } : Room) D [(cI, .int), (cZ, .boolean)] [.ref (ad 15), .ref (ad 29), .ref (ad 17), .int p3] (wC ad cI cZ f_keptSlots f_trace f_lastSeed f_text_letters f_text_length f_reader_place f_reader_greatestSource f_plan_chips f_plan_firstPins f_plan_firstPlaces f_plan_gates f_plan_inputs f_plan_registers f_plan_slowRegisters f_plan_kinds f_plan_firsts f_plan_seconds f_plan_clocks f_plan_sourceSets f_spare_chips f_spare_firstPins f_spare_firstPlaces f_spare_gates f_spare_inputs f_spare_registers f_spare_slowRegisters f_spare_kinds f_spare_firsts f_spare_seconds f_spare_clocks f_spare_sourceSets f_now_ones f_now_unknowns f_now_places f_now_pins f_now_count f_copy_ones f_copy_unknowns f_copy_places f_copy_pins f_copy_count f_logic_ones f_logic_unknowns f_logic_settled f_sched_available f_sched_wanted f_sched_coming f_sched_waiting f_sched_taken f_sched_sent f_sched_lastSent f_hist_next f_hist_held f_ring_cells f_kept_cells f_sight_steps f_sight_gates f_sight_values f_sight_truths f_sight_held X) (fun  u => ∃ w0 w1 w2, u = (wC ad cI cZ f_keptSlots f_trace f_lastSeed f_text_letters f_text_length f_reader_place f_reader_greatestSource f_plan_chips f_plan_firstPins f_plan_firstPlaces f_plan_gates f_plan_inputs f_plan_registers f_plan_slowRegisters f_plan_kinds f_plan_firsts f_plan_seconds f_plan_clocks f_plan_sourceSets f_spare_chips f_spare_firstPins f_spare_firstPlaces f_spare_gates f_spare_inputs f_spare_registers f_spare_slowRegisters f_spare_kinds f_spare_firsts f_spare_seconds f_spare_clocks f_spare_sourceSets f_now_ones f_now_unknowns f_now_places f_now_pins f_now_count f_copy_ones f_copy_unknowns f_copy_places f_copy_pins f_copy_count w0 w2 w1 f_sched_available f_sched_wanted f_sched_coming f_sched_waiting f_sched_taken f_sched_sent f_sched_lastSent f_hist_next f_hist_held f_ring_cells f_kept_cells f_sight_steps f_sight_gates f_sight_values f_sight_truths f_sight_held X) ∧ Q w0 w1 w2) := by
  refine CtV.of (by decide) rfl (Nat.le_of_ble_eq_true rfl) ?_
  intro p e s m args below meth c A Z E hret ls hl hw
  have E : gE p m c cX1_compute 6 s args RX1 D [(cI, .int), (cZ, .boolean)] A := E
  have hx := E.1.1
  have hb := E.1.2.1
  have hl : lv_has ls 6 [(0, .ref (ad 15)), (1, .ref (ad 29)), (2, .ref (ad 17)), (3, .int p3)] := hl
  have J95 : ∀ (f_logic_ones : Int32) (f_logic_settled : Int32) (f_logic_unknowns : Int32) (H : Heap) (locs : List Loc) (ls : Array Slot), wp_X1_compute_b95 f_plan_firsts f_plan_gates f_plan_inputs f_plan_kinds f_plan_registers f_plan_seconds f_plan_sourceSets f_now_ones f_now_unknowns p3 Q  f_logic_ones f_logic_settled f_logic_unknowns → gW D s A (wC ad cI cZ f_keptSlots f_trace f_lastSeed f_text_letters f_text_length f_reader_place f_reader_greatestSource f_plan_chips f_plan_firstPins f_plan_firstPlaces f_plan_gates f_plan_inputs f_plan_registers f_plan_slowRegisters f_plan_kinds f_plan_firsts f_plan_seconds f_plan_clocks f_plan_sourceSets f_spare_chips f_spare_firstPins f_spare_firstPlaces f_spare_gates f_spare_inputs f_spare_registers f_spare_slowRegisters f_spare_kinds f_spare_firsts f_spare_seconds f_spare_clocks f_spare_sourceSets f_now_ones f_now_unknowns f_now_places f_now_pins f_now_count f_copy_ones f_copy_unknowns f_copy_places f_copy_pins f_copy_count f_logic_ones f_logic_unknowns f_logic_settled f_sched_available f_sched_wanted f_sched_coming f_sched_waiting f_sched_taken f_sched_sent f_sched_lastSent f_hist_next f_hist_held f_ring_cells f_kept_cells f_sight_steps f_sight_gates f_sight_values f_sight_truths f_sight_held X) H locs → lv_has ls 6 [(0, .ref (ad 15)), (1, .ref (ad 29))] → W p l e ({ frames := 3, cells := 0, slots := 0, locals := 66 } : Room) s m args below meth c H locs 0 0 Z (F0 m 95 ls []) := by
    intro f_logic_ones f_logic_settled f_logic_unknowns H locs ls h hw hl
    unfold wp_X1_compute_b95 at h
    refine lv_aload_n hx hb dX1_compute_95 rfl (lv_at hl 0 rfl) ?_
    refine lv_dup hx hb dX1_compute_96 rfl ?_
    refine gC_X1_15_logic E hw dX1_compute_97 ?_
    refine lv_aload_n hx hb dX1_compute_100 rfl (lv_at hl 1 rfl) ?_
    refine g_aI E hw (g_rV E hw (c_X2_all_plan h _) ym_X2_all k_322 ⟨rfl, rfl⟩ ⟨Nat.le_of_ble_eq_true rfl, Nat.le_of_ble_eq_true rfl⟩ 29 rfl rfl rfl rfl hl.1 rfl (Nat.le_of_ble_eq_true rfl) ⟨Nat.zero_le _, Nat.zero_le _⟩ dX1_compute_101) (fun r1 u H locs hq hw => ?_)
    obtain ⟨hu, h⟩ := hq
    rw [hu] at hw
    refine lv_aload_n hx hb dX1_compute_104 rfl (lv_at hl 0 rfl) ?_
    refine gC_X1_18_logic E hw dX1_compute_105 ?_
    refine lv_iconst (v := -1) hx hb dX1_compute_108 (by decide) ?_
    refine lv_ixor hx hb dX1_compute_109 ?_
    refine lv_iand hx hb dX1_compute_110 ?_
    refine lv_ior hx hb dX1_compute_111 ?_
    refine lv_topi (fun v2 ev2 => ?_)
    have h := h v2 ev2
    refine pC_X1_15_logic E hw dX1_compute_112 (fun H locs hw => ?_)
    exact hret _ _ _ _ _ ⟨_, _, _, rfl, h⟩ hw dX1_compute_115
  have L46 : ∀ (n : Nat) (x4 : Int32) (f_logic_ones : Int32) (f_logic_settled : Int32) (f_logic_unknowns : Int32) (H : Heap) (locs : List Loc) (ls : Array Slot), wp_X1_compute_h46 f_plan_firsts f_plan_gates f_plan_inputs f_plan_kinds f_plan_registers f_plan_seconds f_plan_sourceSets f_now_ones f_now_unknowns p3 Q  n x4 f_logic_ones f_logic_settled f_logic_unknowns → gW D s A (wC ad cI cZ f_keptSlots f_trace f_lastSeed f_text_letters f_text_length f_reader_place f_reader_greatestSource f_plan_chips f_plan_firstPins f_plan_firstPlaces f_plan_gates f_plan_inputs f_plan_registers f_plan_slowRegisters f_plan_kinds f_plan_firsts f_plan_seconds f_plan_clocks f_plan_sourceSets f_spare_chips f_spare_firstPins f_spare_firstPlaces f_spare_gates f_spare_inputs f_spare_registers f_spare_slowRegisters f_spare_kinds f_spare_firsts f_spare_seconds f_spare_clocks f_spare_sourceSets f_now_ones f_now_unknowns f_now_places f_now_pins f_now_count f_copy_ones f_copy_unknowns f_copy_places f_copy_pins f_copy_count f_logic_ones f_logic_unknowns f_logic_settled f_sched_available f_sched_wanted f_sched_coming f_sched_waiting f_sched_taken f_sched_sent f_sched_lastSent f_hist_next f_hist_held f_ring_cells f_kept_cells f_sight_steps f_sight_gates f_sight_values f_sight_truths f_sight_held X) H locs → lv_has ls 6 [(0, .ref (ad 15)), (1, .ref (ad 29)), (4, .int x4)] → W p l e ({ frames := 3, cells := 0, slots := 0, locals := 66 } : Room) s m args below meth c H locs 0 0 Z (F0 m 46 ls []) := by
    intro n
    induction n with
    | zero => intro x4 f_logic_ones f_logic_settled f_logic_unknowns H locs ls h; exact False.elim h
    | succ n46 ih46 =>
      intro x4 f_logic_ones f_logic_settled f_logic_unknowns H locs ls h hw hl
      have h : wp_X1_compute_b46 f_plan_firsts f_plan_gates f_plan_inputs f_plan_kinds f_plan_registers f_plan_seconds f_plan_sourceSets f_now_ones f_now_unknowns p3 Q (wp_X1_compute_h46 f_plan_firsts f_plan_gates f_plan_inputs f_plan_kinds f_plan_registers f_plan_seconds f_plan_sourceSets f_now_ones f_now_unknowns p3 Q  n46) x4 f_logic_ones f_logic_settled f_logic_unknowns := h
      unfold wp_X1_compute_b46 at h
      refine lv_iload hx hb dX1_compute_46 (lv_at hl 2 rfl) ?_
      refine lv_aload_n hx hb dX1_compute_48 rfl (lv_at hl 1 rfl) ?_
      refine gC_X1_35_plan E hw dX1_compute_49 ?_
      refine lv_icmp_ge (tgt := 95) hx hb dX1_compute_52 (by decide) (fun c3 => ?_) (fun c3 => ?_)
      · have h := h.1 c3
        exact J95 f_logic_ones f_logic_settled f_logic_unknowns _ _ _ h hw (lv_sub hl [0, 1] rfl)
      · have h := h.2 c3
        refine lv_aload_n hx hb dX1_compute_55 rfl (lv_at hl 0 rfl) ?_
        refine gC_X1_18_logic E hw dX1_compute_56 ?_
        refine lv_istore (lv' := [(5, .int f_logic_settled), (0, .ref (ad 15)), (1, .ref (ad 29)), (4, .int x4)]) hx hb dX1_compute_59 hl (by decide) rfl (fun ls hl => ?_)
        refine lv_aload_n hx hb dX1_compute_61 rfl (lv_at hl 1 rfl) ?_
        refine lv_aload_n hx hb dX1_compute_62 rfl (lv_at hl 2 rfl) ?_
        refine g_aV E hw (g_rV E hw (c_X1_settle_plan h _) ym_X1_settle k_306 ⟨rfl, rfl⟩ ⟨Nat.le_of_ble_eq_true rfl, Nat.le_of_ble_eq_true rfl⟩ 15 rfl rfl rfl rfl hl.1 rfl (Nat.le_of_ble_eq_true rfl) ⟨Nat.zero_le _, Nat.zero_le _⟩ dX1_compute_63) (fun u H locs hq hw => ?_)
        obtain ⟨y5, y6, y7, hu, h⟩ := hq
        rw [hu] at hw
        refine lv_aload_n hx hb dX1_compute_66 rfl (lv_at hl 1 rfl) ?_
        refine gC_X1_18_logic E hw dX1_compute_67 ?_
        refine lv_iload hx hb dX1_compute_70 (lv_at hl 0 rfl) ?_
        refine lv_icmp_eq (tgt := 95) hx hb dX1_compute_72 (by decide) (fun c8 => ?_) (fun c8 => ?_)
        · have h := h.1 c8
          exact J95 y5 y6 y7 _ _ _ h hw (lv_sub hl [1, 2] rfl)
        · have h := h.2 c8
          refine lv_aload_n hx hb dX1_compute_75 rfl (lv_at hl 1 rfl) ?_
          refine gC_X1_18_logic E hw dX1_compute_76 ?_
          refine lv_aload_n hx hb dX1_compute_79 rfl (lv_at hl 2 rfl) ?_
          refine g_aI E hw (g_rV E hw (c_X2_all_plan h _) ym_X2_all k_322 ⟨rfl, rfl⟩ ⟨Nat.le_of_ble_eq_true rfl, Nat.le_of_ble_eq_true rfl⟩ 29 rfl rfl rfl rfl hl.1 rfl (Nat.le_of_ble_eq_true rfl) ⟨Nat.zero_le _, Nat.zero_le _⟩ dX1_compute_80) (fun r9 u H locs hq hw => ?_)
          obtain ⟨hu, h⟩ := hq
          rw [hu] at hw
          refine lv_icmp_ne (tgt := 89) hx hb dX1_compute_83 (by decide) (fun c10 => ?_) (fun c10 => ?_)
          · have h := h.1 c10
            obtain ⟨v11, ev11⟩ : ∃ y : Int32, y = x4 + 1 := ⟨_, rfl⟩
            have h := h v11 ev11
            refine lv_iinc (v := v11) (lv' := [(4, .int v11), (5, .int f_logic_settled), (0, .ref (ad 15)), (1, .ref (ad 29))]) hx hb dX1_compute_89 hl (k := 3) rfl (by rw [ev11]; rfl) (by decide) rfl (fun ls hl => ?_)
            refine lv_goto (tgt := 46) hx hb dX1_compute_92 (by decide) ?_
            exact ih46 v11 y5 y6 y7 _ _ _ h hw (lv_sub hl [2, 3, 0] rfl)
          · have h := h.2 c10
            refine lv_goto (tgt := 95) hx hb dX1_compute_86 (by decide) ?_
            exact J95 y5 y6 y7 _ _ _ h hw (lv_sub hl [1, 2] rfl)
  unfold wp_X1_compute at h
  refine lv_aload_n hx hb dX1_compute_0 rfl (lv_at hl 0 rfl) ?_
  refine lv_aload_n hx hb dX1_compute_1 rfl (lv_at hl 1 rfl) ?_
  refine g_aI E hw (g_rV E hw (c_X2_storing_plan h _) ym_X2_storing k_302 ⟨rfl, rfl⟩ ⟨Nat.le_of_ble_eq_true rfl, Nat.le_of_ble_eq_true rfl⟩ 29 rfl rfl rfl rfl hl.1 rfl (Nat.le_of_ble_eq_true rfl) ⟨Nat.zero_le _, Nat.zero_le _⟩ dX1_compute_2) (fun r12 u H locs hq hw => ?_)
  obtain ⟨hu, h⟩ := hq
  rw [hu] at hw
  refine lv_iload_n hx hb dX1_compute_5 rfl (lv_at hl 3 rfl) ?_
  refine g_aI E hw (g_rSN E hw (c_X9_bit h _) ym_X9_bit km_15 ⟨rfl, rfl⟩ ⟨Nat.le_of_ble_eq_true rfl, Nat.le_of_ble_eq_true rfl⟩ rfl hl.1 rfl (Nat.le_of_ble_eq_true rfl) ⟨Nat.zero_le _, Nat.zero_le _⟩ dX1_compute_6) (fun r13 u H locs hq hw => ?_)
  obtain ⟨hu, h⟩ := hq
  rw [hu] at hw
  refine lv_ior hx hb dX1_compute_9 ?_
  refine lv_topi (fun v14 ev14 => ?_)
  have h := h v14 ev14
  refine pC_X1_18_logic E hw dX1_compute_10 (fun H locs hw => ?_)
  refine lv_aload_n hx hb dX1_compute_13 rfl (lv_at hl 0 rfl) ?_
  refine lv_aload_n hx hb dX1_compute_14 rfl (lv_at hl 2 rfl) ?_
  refine gC_X1_31_now E hw dX1_compute_15 ?_
  refine lv_iload_n hx hb dX1_compute_18 rfl (lv_at hl 3 rfl) ?_
  refine g_aI E hw (g_rSN E hw (c_X9_bit h _) ym_X9_bit km_15 ⟨rfl, rfl⟩ ⟨Nat.le_of_ble_eq_true rfl, Nat.le_of_ble_eq_true rfl⟩ rfl hl.1 rfl (Nat.le_of_ble_eq_true rfl) ⟨Nat.zero_le _, Nat.zero_le _⟩ dX1_compute_19) (fun r15 u H locs hq hw => ?_)
  obtain ⟨hu, h⟩ := hq
  rw [hu] at hw
  refine lv_iconst (v := -1) hx hb dX1_compute_22 (by decide) ?_
  refine lv_ixor hx hb dX1_compute_23 ?_
  refine lv_iand hx hb dX1_compute_24 ?_
  refine lv_topi (fun v16 ev16 => ?_)
  have h := h v16 ev16
  refine pC_X1_9_logic E hw dX1_compute_25 (fun H locs hw => ?_)
  refine lv_aload_n hx hb dX1_compute_28 rfl (lv_at hl 0 rfl) ?_
  refine lv_aload_n hx hb dX1_compute_29 rfl (lv_at hl 2 rfl) ?_
  refine gC_X1_34_now E hw dX1_compute_30 ?_
  refine lv_iload_n hx hb dX1_compute_33 rfl (lv_at hl 3 rfl) ?_
  refine g_aI E hw (g_rSN E hw (c_X9_bit h _) ym_X9_bit km_15 ⟨rfl, rfl⟩ ⟨Nat.le_of_ble_eq_true rfl, Nat.le_of_ble_eq_true rfl⟩ rfl hl.1 rfl (Nat.le_of_ble_eq_true rfl) ⟨Nat.zero_le _, Nat.zero_le _⟩ dX1_compute_34) (fun r17 u H locs hq hw => ?_)
  obtain ⟨hu, h⟩ := hq
  rw [hu] at hw
  refine lv_iconst (v := -1) hx hb dX1_compute_37 (by decide) ?_
  refine lv_ixor hx hb dX1_compute_38 ?_
  refine lv_iand hx hb dX1_compute_39 ?_
  refine lv_topi (fun v18 ev18 => ?_)
  have h := h v18 ev18
  refine pC_X1_15_logic E hw dX1_compute_40 (fun H locs hw => ?_)
  refine lv_iconst (v := 0) hx hb dX1_compute_43 (by decide) ?_
  refine lv_istore (lv' := [(4, .int (0 : Int32)), (0, .ref (ad 15)), (1, .ref (ad 29)), (2, .ref (ad 17)), (3, .int p3)]) hx hb dX1_compute_44 hl (by decide) rfl (fun ls hl => ?_)
  obtain ⟨n, h⟩ := h
  exact L46 n (0 : Int32) v16 v14 v18 _ _ _ h hw (lv_sub hl [1, 2, 0] rfl)
set_option maxRecDepth 100000 in
set_option maxHeartbeats 4000000 in
theorem c_X1_tick_plan_now {l : Launch} {D : va_G} {cI cZ : ClassId} {ad : Nat → Nat} {f_keptSlots : Int32} {f_trace : Nat → Int32} {f_lastSeed : Int64} {f_text_letters : Nat → Int32} {f_text_length : Int32} {f_reader_place : Int32} {f_reader_greatestSource : Int32} {f_plan_chips : Int32} {f_plan_firstPins : Int32} {f_plan_firstPlaces : Int32} {f_plan_gates : Int32} {f_plan_inputs : Int32} {f_plan_registers : Int32} {f_plan_slowRegisters : Int32} {f_plan_kinds : Nat → Int32} {f_plan_firsts : Nat → Int32} {f_plan_seconds : Nat → Int32} {f_plan_clocks : Nat → Int32} {f_plan_sourceSets : Nat → Int32} {f_spare_chips : Int32} {f_spare_firstPins : Int32} {f_spare_firstPlaces : Int32} {f_spare_gates : Int32} {f_spare_inputs : Int32} {f_spare_registers : Int32} {f_spare_slowRegisters : Int32} {f_spare_kinds : Nat → Int32} {f_spare_firsts : Nat → Int32} {f_spare_seconds : Nat → Int32} {f_spare_clocks : Nat → Int32} {f_spare_sourceSets : Nat → Int32} {f_now_ones : Int32} {f_now_unknowns : Int32} {f_now_places : Int32} {f_now_pins : Int32} {f_now_count : Int32} {f_copy_ones : Int32} {f_copy_unknowns : Int32} {f_copy_places : Int32} {f_copy_pins : Int32} {f_copy_count : Int32} {f_logic_ones : Int32} {f_logic_unknowns : Int32} {f_logic_settled : Int32} {f_sched_available : Nat → Int32} {f_sched_wanted : Nat → Int32} {f_sched_coming : Nat → Int32} {f_sched_waiting : Int32} {f_sched_taken : Int32} {f_sched_sent : Int32} {f_sched_lastSent : Int32} {f_hist_next : Int32} {f_hist_held : Int32} {f_ring_cells : Nat → Int32} {f_kept_cells : Nat → Int32} {f_sight_steps : Nat → Int32} {f_sight_gates : Nat → Int32} {f_sight_values : Nat → Int32} {f_sight_truths : Nat → Int32} {f_sight_held : Int32} {X : va_W} {Q : Int32 → Int32 → Int32 → Prop} (h : wp_X1_tick f_logic_ones f_logic_unknowns f_plan_firsts f_plan_gates f_plan_registers f_plan_slowRegisters f_now_count f_now_ones f_now_unknowns Q) : CtV l yX1_tick cX1_tick 6 none ({ frames := 2, cells := 0, slots := 0, locals := 42 } : Room) D [(cI, .int), (cZ, .boolean)] [.ref (ad 15), .ref (ad 29), .ref (ad 17)] (wC ad cI cZ f_keptSlots f_trace f_lastSeed f_text_letters f_text_length f_reader_place f_reader_greatestSource f_plan_chips f_plan_firstPins f_plan_firstPlaces f_plan_gates f_plan_inputs f_plan_registers f_plan_slowRegisters f_plan_kinds f_plan_firsts f_plan_seconds f_plan_clocks f_plan_sourceSets f_spare_chips f_spare_firstPins f_spare_firstPlaces f_spare_gates f_spare_inputs f_spare_registers f_spare_slowRegisters f_spare_kinds f_spare_firsts f_spare_seconds f_spare_clocks f_spare_sourceSets f_now_ones f_now_unknowns f_now_places f_now_pins f_now_count f_copy_ones f_copy_unknowns f_copy_places f_copy_pins f_copy_count f_logic_ones f_logic_unknowns f_logic_settled f_sched_available f_sched_wanted f_sched_coming f_sched_waiting f_sched_taken f_sched_sent f_sched_lastSent f_hist_next f_hist_held f_ring_cells f_kept_cells f_sight_steps f_sight_gates f_sight_values f_sight_truths f_sight_held X) (fun  u => ∃ w0 w1 w2, u = (wC ad cI cZ f_keptSlots f_trace f_lastSeed f_text_letters f_text_length f_reader_place f_reader_greatestSource f_plan_chips f_plan_firstPins f_plan_firstPlaces f_plan_gates f_plan_inputs f_plan_registers f_plan_slowRegisters f_plan_kinds f_plan_firsts f_plan_seconds f_plan_clocks f_plan_sourceSets f_spare_chips f_spare_firstPins f_spare_firstPlaces f_spare_gates f_spare_inputs f_spare_registers f_spare_slowRegisters f_spare_kinds f_spare_firsts f_spare_seconds f_spare_clocks f_spare_sourceSets w1 w2 f_now_places f_now_pins w0 f_copy_ones f_copy_unknowns f_copy_places f_copy_pins f_copy_count f_logic_ones f_logic_unknowns f_logic_settled f_sched_available f_sched_wanted f_sched_coming f_sched_waiting f_sched_taken f_sched_sent f_sched_lastSent f_hist_next f_hist_held f_ring_cells f_kept_cells f_sight_steps f_sight_gates f_sight_values f_sight_truths f_sight_held X) ∧ Q w0 w1 w2) := by
  refine CtV.of (by decide) rfl (Nat.le_of_ble_eq_true rfl) ?_
  intro p e s m args below meth c A Z E hret ls hl hw
  have E : gE p m c cX1_tick 6 s args RX1 D [(cI, .int), (cZ, .boolean)] A := E
  have hx := E.1.1
  have hb := E.1.2.1
  have hl : lv_has ls 6 [(0, .ref (ad 15)), (1, .ref (ad 29)), (2, .ref (ad 17))] := hl
  have L43 : ∀ (n : Nat) (x4 : Int32) (x5 : Int32) (f_now_count : Int32) (f_now_ones : Int32) (f_now_unknowns : Int32) (H : Heap) (locs : List Loc) (ls : Array Slot), wp_X1_tick_h43 f_logic_ones f_logic_unknowns f_plan_firsts f_plan_gates f_plan_registers f_plan_slowRegisters Q  n x4 x5 f_now_count f_now_ones f_now_unknowns → gW D s A (wC ad cI cZ f_keptSlots f_trace f_lastSeed f_text_letters f_text_length f_reader_place f_reader_greatestSource f_plan_chips f_plan_firstPins f_plan_firstPlaces f_plan_gates f_plan_inputs f_plan_registers f_plan_slowRegisters f_plan_kinds f_plan_firsts f_plan_seconds f_plan_clocks f_plan_sourceSets f_spare_chips f_spare_firstPins f_spare_firstPlaces f_spare_gates f_spare_inputs f_spare_registers f_spare_slowRegisters f_spare_kinds f_spare_firsts f_spare_seconds f_spare_clocks f_spare_sourceSets f_now_ones f_now_unknowns f_now_places f_now_pins f_now_count f_copy_ones f_copy_unknowns f_copy_places f_copy_pins f_copy_count f_logic_ones f_logic_unknowns f_logic_settled f_sched_available f_sched_wanted f_sched_coming f_sched_waiting f_sched_taken f_sched_sent f_sched_lastSent f_hist_next f_hist_held f_ring_cells f_kept_cells f_sight_steps f_sight_gates f_sight_values f_sight_truths f_sight_held X) H locs → lv_has ls 6 [(0, .ref (ad 15)), (1, .ref (ad 29)), (2, .ref (ad 17)), (4, .int x4), (5, .int x5)] → W p l e ({ frames := 2, cells := 0, slots := 0, locals := 42 } : Room) s m args below meth c H locs 0 0 Z (F0 m 43 ls []) := by
    intro n
    induction n with
    | zero => intro x4 x5 f_now_count f_now_ones f_now_unknowns H locs ls h; exact False.elim h
    | succ n43 ih43 =>
      intro x4 x5 f_now_count f_now_ones f_now_unknowns H locs ls h hw hl
      have h : wp_X1_tick_b43 f_logic_ones f_logic_unknowns f_plan_firsts f_plan_gates f_plan_registers f_plan_slowRegisters Q (wp_X1_tick_h43 f_logic_ones f_logic_unknowns f_plan_firsts f_plan_gates f_plan_registers f_plan_slowRegisters Q  n43) x4 x5 f_now_count f_now_ones f_now_unknowns := h
      have J86 : ∀ (x4 : Int32) (x5 : Int32) (f_now_count : Int32) (f_now_ones : Int32) (f_now_unknowns : Int32) (H : Heap) (locs : List Loc) (ls : Array Slot), wp_X1_tick_b86 f_logic_ones f_logic_unknowns f_plan_firsts f_plan_gates f_plan_registers f_plan_slowRegisters Q (wp_X1_tick_h43 f_logic_ones f_logic_unknowns f_plan_firsts f_plan_gates f_plan_registers f_plan_slowRegisters Q  n43) x4 x5 f_now_count f_now_ones f_now_unknowns → gW D s A (wC ad cI cZ f_keptSlots f_trace f_lastSeed f_text_letters f_text_length f_reader_place f_reader_greatestSource f_plan_chips f_plan_firstPins f_plan_firstPlaces f_plan_gates f_plan_inputs f_plan_registers f_plan_slowRegisters f_plan_kinds f_plan_firsts f_plan_seconds f_plan_clocks f_plan_sourceSets f_spare_chips f_spare_firstPins f_spare_firstPlaces f_spare_gates f_spare_inputs f_spare_registers f_spare_slowRegisters f_spare_kinds f_spare_firsts f_spare_seconds f_spare_clocks f_spare_sourceSets f_now_ones f_now_unknowns f_now_places f_now_pins f_now_count f_copy_ones f_copy_unknowns f_copy_places f_copy_pins f_copy_count f_logic_ones f_logic_unknowns f_logic_settled f_sched_available f_sched_wanted f_sched_coming f_sched_waiting f_sched_taken f_sched_sent f_sched_lastSent f_hist_next f_hist_held f_ring_cells f_kept_cells f_sight_steps f_sight_gates f_sight_values f_sight_truths f_sight_held X) H locs → lv_has ls 6 [(0, .ref (ad 15)), (1, .ref (ad 29)), (2, .ref (ad 17)), (4, .int x4), (5, .int x5)] → W p l e ({ frames := 2, cells := 0, slots := 0, locals := 42 } : Room) s m args below meth c H locs 0 0 Z (F0 m 86 ls []) := by
        intro x4 x5 f_now_count f_now_ones f_now_unknowns H locs ls h hw hl
        unfold wp_X1_tick_b86 at h
        obtain ⟨v1, ev1⟩ : ∃ y : Int32, y = x5 + 1 := ⟨_, rfl⟩
        have h := h v1 ev1
        refine lv_iinc (v := v1) (lv' := [(5, .int v1), (0, .ref (ad 15)), (1, .ref (ad 29)), (2, .ref (ad 17)), (4, .int x4)]) hx hb dX1_tick_86 hl (k := 4) rfl (by rw [ev1]; rfl) (by decide) rfl (fun ls hl => ?_)
        refine lv_goto (tgt := 43) hx hb dX1_tick_89 (by decide) ?_
        exact ih43 x4 v1 f_now_count f_now_ones f_now_unknowns _ _ _ h hw (lv_sub hl [1, 2, 3, 4, 0] rfl)
      unfold wp_X1_tick_b43 at h
      refine lv_iload hx hb dX1_tick_43 (lv_at hl 4 rfl) ?_
      refine lv_aload_n hx hb dX1_tick_45 rfl (lv_at hl 1 rfl) ?_
      refine gC_X1_35_plan E hw dX1_tick_46 ?_
      refine lv_icmp_ge (tgt := 92) hx hb dX1_tick_49 (by decide) (fun c2 => ?_) (fun c2 => ?_)
      · have h := h.1 c2
        refine lv_aload_n hx hb dX1_tick_92 rfl (lv_at hl 2 rfl) ?_
        refine lv_dup hx hb dX1_tick_93 rfl ?_
        refine gC_X1_68_now E hw dX1_tick_94 ?_
        refine lv_iconst (v := 1) hx hb dX1_tick_97 (by decide) ?_
        refine lv_iadd hx hb dX1_tick_98 ?_
        refine lv_topi (fun v3 ev3 => ?_)
        have h := h v3 ev3
        refine pC_X1_68_now E hw dX1_tick_99 (fun H locs hw => ?_)
        exact hret _ _ _ _ _ ⟨_, _, _, rfl, h⟩ hw dX1_tick_102
      · have h := h.2 c2
        refine lv_iload hx hb dX1_tick_52 (lv_at hl 3 rfl) ?_
        refine lv_iload hx hb dX1_tick_54 (lv_at hl 4 rfl) ?_
        refine g_aI E hw (g_rSN E hw (c_X9_bit h _) ym_X9_bit km_15 ⟨rfl, rfl⟩ ⟨Nat.le_of_ble_eq_true rfl, Nat.le_of_ble_eq_true rfl⟩ rfl hl.1 rfl (Nat.le_of_ble_eq_true rfl) ⟨Nat.zero_le _, Nat.zero_le _⟩ dX1_tick_56) (fun r4 u H locs hq hw => ?_)
        obtain ⟨hu, h⟩ := hq
        rw [hu] at hw
        refine lv_iand hx hb dX1_tick_59 ?_
        refine lv_if_eq (tgt := 86) hx hb dX1_tick_60 (by decide) (fun c5 => ?_) (fun c5 => ?_)
        · have h := h.1 c5
          exact J86 x4 x5 f_now_count f_now_ones f_now_unknowns _ _ _ h hw (lv_sub hl [0, 1, 2, 3, 4] rfl)
        · have h := h.2 c5
          refine lv_aload_n hx hb dX1_tick_63 rfl (lv_at hl 2 rfl) ?_
          refine lv_iload hx hb dX1_tick_64 (lv_at hl 4 rfl) ?_
          refine lv_aload_n hx hb dX1_tick_66 rfl (lv_at hl 0 rfl) ?_
          refine gC_X1_9_logic E hw dX1_tick_67 ?_
          refine lv_aload_n hx hb dX1_tick_70 rfl (lv_at hl 0 rfl) ?_
          refine gC_X1_15_logic E hw dX1_tick_71 ?_
          refine lv_aload_n hx hb dX1_tick_74 rfl (lv_at hl 1 rfl) ?_
          refine lv_iload hx hb dX1_tick_75 (lv_at hl 4 rfl) ?_
          refine g_aI E hw (g_rV E hw (c_X2_firstOf_plan h _) ym_X2_firstOf k_310 ⟨rfl, rfl⟩ ⟨Nat.le_of_ble_eq_true rfl, Nat.le_of_ble_eq_true rfl⟩ 29 rfl rfl rfl rfl hl.1 rfl (Nat.le_of_ble_eq_true rfl) ⟨Nat.zero_le _, Nat.zero_le _⟩ dX1_tick_77) (fun r6 u H locs hq hw => ?_)
          obtain ⟨hu, h⟩ := hq
          rw [hu] at hw
          refine g_aI E hw (g_rSN E hw (c_X9_valueIn h _) ym_X9_valueIn km_16 ⟨rfl, rfl⟩ ⟨Nat.le_of_ble_eq_true rfl, Nat.le_of_ble_eq_true rfl⟩ rfl hl.1 rfl (Nat.le_of_ble_eq_true rfl) ⟨Nat.zero_le _, Nat.zero_le _⟩ dX1_tick_80) (fun r7 u H locs hq hw => ?_)
          obtain ⟨hu, h⟩ := hq
          rw [hu] at hw
          refine g_aV E hw (g_rV E hw (c_X7_store_now h _) ym_X7_store k_353 ⟨rfl, rfl⟩ ⟨Nat.le_of_ble_eq_true rfl, Nat.le_of_ble_eq_true rfl⟩ 17 rfl rfl rfl rfl hl.1 rfl (Nat.le_of_ble_eq_true rfl) ⟨Nat.zero_le _, Nat.zero_le _⟩ dX1_tick_83) (fun u H locs hq hw => ?_)
          obtain ⟨y9, y10, hu, h⟩ := hq
          rw [hu] at hw
          exact J86 x4 x5 f_now_count y9 y10 _ _ _ h hw (lv_sub hl [0, 1, 2, 3, 4] rfl)
  have J38 : ∀ (s0 : Int32) (f_now_count : Int32) (f_now_ones : Int32) (f_now_unknowns : Int32) (H : Heap) (locs : List Loc) (ls : Array Slot), wp_X1_tick_b38 f_logic_ones f_logic_unknowns f_plan_firsts f_plan_gates f_plan_registers f_plan_slowRegisters Q  s0 f_now_count f_now_ones f_now_unknowns → gW D s A (wC ad cI cZ f_keptSlots f_trace f_lastSeed f_text_letters f_text_length f_reader_place f_reader_greatestSource f_plan_chips f_plan_firstPins f_plan_firstPlaces f_plan_gates f_plan_inputs f_plan_registers f_plan_slowRegisters f_plan_kinds f_plan_firsts f_plan_seconds f_plan_clocks f_plan_sourceSets f_spare_chips f_spare_firstPins f_spare_firstPlaces f_spare_gates f_spare_inputs f_spare_registers f_spare_slowRegisters f_spare_kinds f_spare_firsts f_spare_seconds f_spare_clocks f_spare_sourceSets f_now_ones f_now_unknowns f_now_places f_now_pins f_now_count f_copy_ones f_copy_unknowns f_copy_places f_copy_pins f_copy_count f_logic_ones f_logic_unknowns f_logic_settled f_sched_available f_sched_wanted f_sched_coming f_sched_waiting f_sched_taken f_sched_sent f_sched_lastSent f_hist_next f_hist_held f_ring_cells f_kept_cells f_sight_steps f_sight_gates f_sight_values f_sight_truths f_sight_held X) H locs → lv_has ls 6 [(0, .ref (ad 15)), (1, .ref (ad 29)), (2, .ref (ad 17))] → W p l e ({ frames := 2, cells := 0, slots := 0, locals := 42 } : Room) s m args below meth c H locs 0 0 Z (F0 m 38 ls [.int s0]) := by
    intro s0 f_now_count f_now_ones f_now_unknowns H locs ls h hw hl
    unfold wp_X1_tick_b38 at h
    refine lv_istore (lv' := [(4, .int s0), (0, .ref (ad 15)), (1, .ref (ad 29)), (2, .ref (ad 17))]) hx hb dX1_tick_38 hl (by decide) rfl (fun ls hl => ?_)
    refine lv_iconst (v := 0) hx hb dX1_tick_40 (by decide) ?_
    refine lv_istore (lv' := [(5, .int (0 : Int32)), (4, .int s0), (0, .ref (ad 15)), (1, .ref (ad 29)), (2, .ref (ad 17))]) hx hb dX1_tick_41 hl (by decide) rfl (fun ls hl => ?_)
    obtain ⟨n, h⟩ := h
    exact L43 n s0 (0 : Int32) f_now_count f_now_ones f_now_unknowns _ _ _ h hw (lv_sub hl [2, 3, 4, 1, 0] rfl)
  have J15 : ∀ (s0 : Int32) (f_now_count : Int32) (f_now_ones : Int32) (f_now_unknowns : Int32) (H : Heap) (locs : List Loc) (ls : Array Slot), wp_X1_tick_b15 f_logic_ones f_logic_unknowns f_plan_firsts f_plan_gates f_plan_registers f_plan_slowRegisters Q  s0 f_now_count f_now_ones f_now_unknowns → gW D s A (wC ad cI cZ f_keptSlots f_trace f_lastSeed f_text_letters f_text_length f_reader_place f_reader_greatestSource f_plan_chips f_plan_firstPins f_plan_firstPlaces f_plan_gates f_plan_inputs f_plan_registers f_plan_slowRegisters f_plan_kinds f_plan_firsts f_plan_seconds f_plan_clocks f_plan_sourceSets f_spare_chips f_spare_firstPins f_spare_firstPlaces f_spare_gates f_spare_inputs f_spare_registers f_spare_slowRegisters f_spare_kinds f_spare_firsts f_spare_seconds f_spare_clocks f_spare_sourceSets f_now_ones f_now_unknowns f_now_places f_now_pins f_now_count f_copy_ones f_copy_unknowns f_copy_places f_copy_pins f_copy_count f_logic_ones f_logic_unknowns f_logic_settled f_sched_available f_sched_wanted f_sched_coming f_sched_waiting f_sched_taken f_sched_sent f_sched_lastSent f_hist_next f_hist_held f_ring_cells f_kept_cells f_sight_steps f_sight_gates f_sight_values f_sight_truths f_sight_held X) H locs → lv_has ls 6 [(0, .ref (ad 15)), (1, .ref (ad 29)), (2, .ref (ad 17))] → W p l e ({ frames := 2, cells := 0, slots := 0, locals := 42 } : Room) s m args below meth c H locs 0 0 Z (F0 m 15 ls [.int s0]) := by
    intro s0 f_now_count f_now_ones f_now_unknowns H locs ls h hw hl
    unfold wp_X1_tick_b15 at h
    refine lv_istore_n (lv' := [(3, .int s0), (0, .ref (ad 15)), (1, .ref (ad 29)), (2, .ref (ad 17))]) hx hb dX1_tick_15 rfl hl (by decide) rfl (fun ls hl => ?_)
    refine lv_iload_n hx hb dX1_tick_16 rfl (lv_at hl 0 rfl) ?_
    refine lv_if_eq (tgt := 27) hx hb dX1_tick_17 (by decide) (fun c11 => ?_) (fun c11 => ?_)
    · have h := h.1 c11
      refine lv_aload_n hx hb dX1_tick_27 rfl (lv_at hl 2 rfl) ?_
      refine gC_X1_71_plan E hw dX1_tick_28 ?_
      refine lv_aload_n hx hb dX1_tick_31 rfl (lv_at hl 2 rfl) ?_
      refine gC_X1_74_plan E hw dX1_tick_32 ?_
      refine lv_iconst (v := -1) hx hb dX1_tick_35 (by decide) ?_
      refine lv_ixor hx hb dX1_tick_36 ?_
      refine lv_iand hx hb dX1_tick_37 ?_
      exact J38 ((f_plan_registers &&& (f_plan_slowRegisters ^^^ (-1 : Int32)))) f_now_count f_now_ones f_now_unknowns _ _ _ h hw (lv_sub hl [1, 2, 3] rfl)
    · have h := h.2 c11
      refine lv_aload_n hx hb dX1_tick_20 rfl (lv_at hl 2 rfl) ?_
      refine gC_X1_71_plan E hw dX1_tick_21 ?_
      refine lv_goto (tgt := 38) hx hb dX1_tick_24 (by decide) ?_
      exact J38 f_plan_registers f_now_count f_now_ones f_now_unknowns _ _ _ h hw (lv_sub hl [1, 2, 3] rfl)
  unfold wp_X1_tick at h
  refine lv_aload_n hx hb dX1_tick_0 rfl (lv_at hl 2 rfl) ?_
  refine gC_X1_68_now E hw dX1_tick_1 ?_
  refine lv_iconst (v := 1) hx hb dX1_tick_4 (by decide) ?_
  refine lv_iand hx hb dX1_tick_5 ?_
  refine lv_iconst (v := 1) hx hb dX1_tick_6 (by decide) ?_
  refine lv_icmp_ne (tgt := 14) hx hb dX1_tick_7 (by decide) (fun c12 => ?_) (fun c12 => ?_)
  · have h := h.1 c12
    refine lv_iconst (v := 0) hx hb dX1_tick_14 (by decide) ?_
    exact J15 (0 : Int32) f_now_count f_now_ones f_now_unknowns _ _ _ h hw (lv_sub hl [0, 1, 2] rfl)
  · have h := h.2 c12
    refine lv_iconst (v := 1) hx hb dX1_tick_10 (by decide) ?_
    refine lv_goto (tgt := 15) hx hb dX1_tick_11 (by decide) ?_
    exact J15 (1 : Int32) f_now_count f_now_ones f_now_unknowns _ _ _ h hw (lv_sub hl [0, 1, 2] rfl)
set_option maxRecDepth 100000 in
set_option maxHeartbeats 4000000 in
theorem c_X1_compute_plan_copy {l : Launch} {D : va_G} {cI cZ : ClassId} {ad : Nat → Nat} {f_keptSlots : Int32} {f_trace : Nat → Int32} {f_lastSeed : Int64} {f_text_letters : Nat → Int32} {f_text_length : Int32} {f_reader_place : Int32} {f_reader_greatestSource : Int32} {f_plan_chips : Int32} {f_plan_firstPins : Int32} {f_plan_firstPlaces : Int32} {f_plan_gates : Int32} {f_plan_inputs : Int32} {f_plan_registers : Int32} {f_plan_slowRegisters : Int32} {f_plan_kinds : Nat → Int32} {f_plan_firsts : Nat → Int32} {f_plan_seconds : Nat → Int32} {f_plan_clocks : Nat → Int32} {f_plan_sourceSets : Nat → Int32} {f_spare_chips : Int32} {f_spare_firstPins : Int32} {f_spare_firstPlaces : Int32} {f_spare_gates : Int32} {f_spare_inputs : Int32} {f_spare_registers : Int32} {f_spare_slowRegisters : Int32} {f_spare_kinds : Nat → Int32} {f_spare_firsts : Nat → Int32} {f_spare_seconds : Nat → Int32} {f_spare_clocks : Nat → Int32} {f_spare_sourceSets : Nat → Int32} {f_now_ones : Int32} {f_now_unknowns : Int32} {f_now_places : Int32} {f_now_pins : Int32} {f_now_count : Int32} {f_copy_ones : Int32} {f_copy_unknowns : Int32} {f_copy_places : Int32} {f_copy_pins : Int32} {f_copy_count : Int32} {f_logic_ones : Int32} {f_logic_unknowns : Int32} {f_logic_settled : Int32} {f_sched_available : Nat → Int32} {f_sched_wanted : Nat → Int32} {f_sched_coming : Nat → Int32} {f_sched_waiting : Int32} {f_sched_taken : Int32} {f_sched_sent : Int32} {f_sched_lastSent : Int32} {f_hist_next : Int32} {f_hist_held : Int32} {f_ring_cells : Nat → Int32} {f_kept_cells : Nat → Int32} {f_sight_steps : Nat → Int32} {f_sight_gates : Nat → Int32} {f_sight_values : Nat → Int32} {f_sight_truths : Nat → Int32} {f_sight_held : Int32} {X : va_W} {p3 : Int32} {Q : Int32 → Int32 → Int32 → Prop} (h : wp_X1_compute f_logic_ones f_logic_settled f_logic_unknowns f_plan_firsts f_plan_gates f_plan_inputs f_plan_kinds f_plan_registers f_plan_seconds f_plan_sourceSets f_copy_ones f_copy_unknowns p3 Q) : CtV l yX1_compute cX1_compute 6 none ({ frames := 3, cells := 0, slots := 0, locals := 66 } : Room) D [(cI, .int), (cZ, .boolean)] [.ref (ad 15), .ref (ad 29), .ref (ad 16), .int p3] (wC ad cI cZ f_keptSlots f_trace f_lastSeed f_text_letters f_text_length f_reader_place f_reader_greatestSource f_plan_chips f_plan_firstPins f_plan_firstPlaces f_plan_gates f_plan_inputs f_plan_registers f_plan_slowRegisters f_plan_kinds f_plan_firsts f_plan_seconds f_plan_clocks f_plan_sourceSets f_spare_chips f_spare_firstPins f_spare_firstPlaces f_spare_gates f_spare_inputs f_spare_registers f_spare_slowRegisters f_spare_kinds f_spare_firsts f_spare_seconds f_spare_clocks f_spare_sourceSets f_now_ones f_now_unknowns f_now_places f_now_pins f_now_count f_copy_ones f_copy_unknowns f_copy_places f_copy_pins f_copy_count f_logic_ones f_logic_unknowns f_logic_settled f_sched_available f_sched_wanted f_sched_coming f_sched_waiting f_sched_taken f_sched_sent f_sched_lastSent f_hist_next f_hist_held f_ring_cells f_kept_cells f_sight_steps f_sight_gates f_sight_values f_sight_truths f_sight_held X) (fun  u => ∃ w0 w1 w2, u = (wC ad cI cZ f_keptSlots f_trace f_lastSeed f_text_letters f_text_length f_reader_place f_reader_greatestSource f_plan_chips f_plan_firstPins f_plan_firstPlaces f_plan_gates f_plan_inputs f_plan_registers f_plan_slowRegisters f_plan_kinds f_plan_firsts f_plan_seconds f_plan_clocks f_plan_sourceSets f_spare_chips f_spare_firstPins f_spare_firstPlaces f_spare_gates f_spare_inputs f_spare_registers f_spare_slowRegisters f_spare_kinds f_spare_firsts f_spare_seconds f_spare_clocks f_spare_sourceSets f_now_ones f_now_unknowns f_now_places f_now_pins f_now_count f_copy_ones f_copy_unknowns f_copy_places f_copy_pins f_copy_count w0 w2 w1 f_sched_available f_sched_wanted f_sched_coming f_sched_waiting f_sched_taken f_sched_sent f_sched_lastSent f_hist_next f_hist_held f_ring_cells f_kept_cells f_sight_steps f_sight_gates f_sight_values f_sight_truths f_sight_held X) ∧ Q w0 w1 w2) := by
  refine CtV.of (by decide) rfl (Nat.le_of_ble_eq_true rfl) ?_
  intro p e s m args below meth c A Z E hret ls hl hw
  have E : gE p m c cX1_compute 6 s args RX1 D [(cI, .int), (cZ, .boolean)] A := E
  have hx := E.1.1
  have hb := E.1.2.1
  have hl : lv_has ls 6 [(0, .ref (ad 15)), (1, .ref (ad 29)), (2, .ref (ad 16)), (3, .int p3)] := hl
  have J95 : ∀ (f_logic_ones : Int32) (f_logic_settled : Int32) (f_logic_unknowns : Int32) (H : Heap) (locs : List Loc) (ls : Array Slot), wp_X1_compute_b95 f_plan_firsts f_plan_gates f_plan_inputs f_plan_kinds f_plan_registers f_plan_seconds f_plan_sourceSets f_copy_ones f_copy_unknowns p3 Q  f_logic_ones f_logic_settled f_logic_unknowns → gW D s A (wC ad cI cZ f_keptSlots f_trace f_lastSeed f_text_letters f_text_length f_reader_place f_reader_greatestSource f_plan_chips f_plan_firstPins f_plan_firstPlaces f_plan_gates f_plan_inputs f_plan_registers f_plan_slowRegisters f_plan_kinds f_plan_firsts f_plan_seconds f_plan_clocks f_plan_sourceSets f_spare_chips f_spare_firstPins f_spare_firstPlaces f_spare_gates f_spare_inputs f_spare_registers f_spare_slowRegisters f_spare_kinds f_spare_firsts f_spare_seconds f_spare_clocks f_spare_sourceSets f_now_ones f_now_unknowns f_now_places f_now_pins f_now_count f_copy_ones f_copy_unknowns f_copy_places f_copy_pins f_copy_count f_logic_ones f_logic_unknowns f_logic_settled f_sched_available f_sched_wanted f_sched_coming f_sched_waiting f_sched_taken f_sched_sent f_sched_lastSent f_hist_next f_hist_held f_ring_cells f_kept_cells f_sight_steps f_sight_gates f_sight_values f_sight_truths f_sight_held X) H locs → lv_has ls 6 [(0, .ref (ad 15)), (1, .ref (ad 29))] → W p l e ({ frames := 3, cells := 0, slots := 0, locals := 66 } : Room) s m args below meth c H locs 0 0 Z (F0 m 95 ls []) := by
    intro f_logic_ones f_logic_settled f_logic_unknowns H locs ls h hw hl
    unfold wp_X1_compute_b95 at h
    refine lv_aload_n hx hb dX1_compute_95 rfl (lv_at hl 0 rfl) ?_
    refine lv_dup hx hb dX1_compute_96 rfl ?_
    refine gC_X1_15_logic E hw dX1_compute_97 ?_
    refine lv_aload_n hx hb dX1_compute_100 rfl (lv_at hl 1 rfl) ?_
    refine g_aI E hw (g_rV E hw (c_X2_all_plan h _) ym_X2_all k_322 ⟨rfl, rfl⟩ ⟨Nat.le_of_ble_eq_true rfl, Nat.le_of_ble_eq_true rfl⟩ 29 rfl rfl rfl rfl hl.1 rfl (Nat.le_of_ble_eq_true rfl) ⟨Nat.zero_le _, Nat.zero_le _⟩ dX1_compute_101) (fun r1 u H locs hq hw => ?_)
    obtain ⟨hu, h⟩ := hq
    rw [hu] at hw
    refine lv_aload_n hx hb dX1_compute_104 rfl (lv_at hl 0 rfl) ?_
    refine gC_X1_18_logic E hw dX1_compute_105 ?_
    refine lv_iconst (v := -1) hx hb dX1_compute_108 (by decide) ?_
    refine lv_ixor hx hb dX1_compute_109 ?_
    refine lv_iand hx hb dX1_compute_110 ?_
    refine lv_ior hx hb dX1_compute_111 ?_
    refine lv_topi (fun v2 ev2 => ?_)
    have h := h v2 ev2
    refine pC_X1_15_logic E hw dX1_compute_112 (fun H locs hw => ?_)
    exact hret _ _ _ _ _ ⟨_, _, _, rfl, h⟩ hw dX1_compute_115
  have L46 : ∀ (n : Nat) (x4 : Int32) (f_logic_ones : Int32) (f_logic_settled : Int32) (f_logic_unknowns : Int32) (H : Heap) (locs : List Loc) (ls : Array Slot), wp_X1_compute_h46 f_plan_firsts f_plan_gates f_plan_inputs f_plan_kinds f_plan_registers f_plan_seconds f_plan_sourceSets f_copy_ones f_copy_unknowns p3 Q  n x4 f_logic_ones f_logic_settled f_logic_unknowns → gW D s A (wC ad cI cZ f_keptSlots f_trace f_lastSeed f_text_letters f_text_length f_reader_place f_reader_greatestSource f_plan_chips f_plan_firstPins f_plan_firstPlaces f_plan_gates f_plan_inputs f_plan_registers f_plan_slowRegisters f_plan_kinds f_plan_firsts f_plan_seconds f_plan_clocks f_plan_sourceSets f_spare_chips f_spare_firstPins f_spare_firstPlaces f_spare_gates f_spare_inputs f_spare_registers f_spare_slowRegisters f_spare_kinds f_spare_firsts f_spare_seconds f_spare_clocks f_spare_sourceSets f_now_ones f_now_unknowns f_now_places f_now_pins f_now_count f_copy_ones f_copy_unknowns f_copy_places f_copy_pins f_copy_count f_logic_ones f_logic_unknowns f_logic_settled f_sched_available f_sched_wanted f_sched_coming f_sched_waiting f_sched_taken f_sched_sent f_sched_lastSent f_hist_next f_hist_held f_ring_cells f_kept_cells f_sight_steps f_sight_gates f_sight_values f_sight_truths f_sight_held X) H locs → lv_has ls 6 [(0, .ref (ad 15)), (1, .ref (ad 29)), (4, .int x4)] → W p l e ({ frames := 3, cells := 0, slots := 0, locals := 66 } : Room) s m args below meth c H locs 0 0 Z (F0 m 46 ls []) := by
    intro n
    induction n with
    | zero => intro x4 f_logic_ones f_logic_settled f_logic_unknowns H locs ls h; exact False.elim h
    | succ n46 ih46 =>
      intro x4 f_logic_ones f_logic_settled f_logic_unknowns H locs ls h hw hl
      have h : wp_X1_compute_b46 f_plan_firsts f_plan_gates f_plan_inputs f_plan_kinds f_plan_registers f_plan_seconds f_plan_sourceSets f_copy_ones f_copy_unknowns p3 Q (wp_X1_compute_h46 f_plan_firsts f_plan_gates f_plan_inputs f_plan_kinds f_plan_registers f_plan_seconds f_plan_sourceSets f_copy_ones f_copy_unknowns p3 Q  n46) x4 f_logic_ones f_logic_settled f_logic_unknowns := h
      unfold wp_X1_compute_b46 at h
      refine lv_iload hx hb dX1_compute_46 (lv_at hl 2 rfl) ?_
      refine lv_aload_n hx hb dX1_compute_48 rfl (lv_at hl 1 rfl) ?_
      refine gC_X1_35_plan E hw dX1_compute_49 ?_
      refine lv_icmp_ge (tgt := 95) hx hb dX1_compute_52 (by decide) (fun c3 => ?_) (fun c3 => ?_)
      · have h := h.1 c3
        exact J95 f_logic_ones f_logic_settled f_logic_unknowns _ _ _ h hw (lv_sub hl [0, 1] rfl)
      · have h := h.2 c3
        refine lv_aload_n hx hb dX1_compute_55 rfl (lv_at hl 0 rfl) ?_
        refine gC_X1_18_logic E hw dX1_compute_56 ?_
        refine lv_istore (lv' := [(5, .int f_logic_settled), (0, .ref (ad 15)), (1, .ref (ad 29)), (4, .int x4)]) hx hb dX1_compute_59 hl (by decide) rfl (fun ls hl => ?_)
        refine lv_aload_n hx hb dX1_compute_61 rfl (lv_at hl 1 rfl) ?_
        refine lv_aload_n hx hb dX1_compute_62 rfl (lv_at hl 2 rfl) ?_
        refine g_aV E hw (g_rV E hw (c_X1_settle_plan h _) ym_X1_settle k_306 ⟨rfl, rfl⟩ ⟨Nat.le_of_ble_eq_true rfl, Nat.le_of_ble_eq_true rfl⟩ 15 rfl rfl rfl rfl hl.1 rfl (Nat.le_of_ble_eq_true rfl) ⟨Nat.zero_le _, Nat.zero_le _⟩ dX1_compute_63) (fun u H locs hq hw => ?_)
        obtain ⟨y5, y6, y7, hu, h⟩ := hq
        rw [hu] at hw
        refine lv_aload_n hx hb dX1_compute_66 rfl (lv_at hl 1 rfl) ?_
        refine gC_X1_18_logic E hw dX1_compute_67 ?_
        refine lv_iload hx hb dX1_compute_70 (lv_at hl 0 rfl) ?_
        refine lv_icmp_eq (tgt := 95) hx hb dX1_compute_72 (by decide) (fun c8 => ?_) (fun c8 => ?_)
        · have h := h.1 c8
          exact J95 y5 y6 y7 _ _ _ h hw (lv_sub hl [1, 2] rfl)
        · have h := h.2 c8
          refine lv_aload_n hx hb dX1_compute_75 rfl (lv_at hl 1 rfl) ?_
          refine gC_X1_18_logic E hw dX1_compute_76 ?_
          refine lv_aload_n hx hb dX1_compute_79 rfl (lv_at hl 2 rfl) ?_
          refine g_aI E hw (g_rV E hw (c_X2_all_plan h _) ym_X2_all k_322 ⟨rfl, rfl⟩ ⟨Nat.le_of_ble_eq_true rfl, Nat.le_of_ble_eq_true rfl⟩ 29 rfl rfl rfl rfl hl.1 rfl (Nat.le_of_ble_eq_true rfl) ⟨Nat.zero_le _, Nat.zero_le _⟩ dX1_compute_80) (fun r9 u H locs hq hw => ?_)
          obtain ⟨hu, h⟩ := hq
          rw [hu] at hw
          refine lv_icmp_ne (tgt := 89) hx hb dX1_compute_83 (by decide) (fun c10 => ?_) (fun c10 => ?_)
          · have h := h.1 c10
            obtain ⟨v11, ev11⟩ : ∃ y : Int32, y = x4 + 1 := ⟨_, rfl⟩
            have h := h v11 ev11
            refine lv_iinc (v := v11) (lv' := [(4, .int v11), (5, .int f_logic_settled), (0, .ref (ad 15)), (1, .ref (ad 29))]) hx hb dX1_compute_89 hl (k := 3) rfl (by rw [ev11]; rfl) (by decide) rfl (fun ls hl => ?_)
            refine lv_goto (tgt := 46) hx hb dX1_compute_92 (by decide) ?_
            exact ih46 v11 y5 y6 y7 _ _ _ h hw (lv_sub hl [2, 3, 0] rfl)
          · have h := h.2 c10
            refine lv_goto (tgt := 95) hx hb dX1_compute_86 (by decide) ?_
            exact J95 y5 y6 y7 _ _ _ h hw (lv_sub hl [1, 2] rfl)
  unfold wp_X1_compute at h
  refine lv_aload_n hx hb dX1_compute_0 rfl (lv_at hl 0 rfl) ?_
  refine lv_aload_n hx hb dX1_compute_1 rfl (lv_at hl 1 rfl) ?_
  refine g_aI E hw (g_rV E hw (c_X2_storing_plan h _) ym_X2_storing k_302 ⟨rfl, rfl⟩ ⟨Nat.le_of_ble_eq_true rfl, Nat.le_of_ble_eq_true rfl⟩ 29 rfl rfl rfl rfl hl.1 rfl (Nat.le_of_ble_eq_true rfl) ⟨Nat.zero_le _, Nat.zero_le _⟩ dX1_compute_2) (fun r12 u H locs hq hw => ?_)
  obtain ⟨hu, h⟩ := hq
  rw [hu] at hw
  refine lv_iload_n hx hb dX1_compute_5 rfl (lv_at hl 3 rfl) ?_
  refine g_aI E hw (g_rSN E hw (c_X9_bit h _) ym_X9_bit km_15 ⟨rfl, rfl⟩ ⟨Nat.le_of_ble_eq_true rfl, Nat.le_of_ble_eq_true rfl⟩ rfl hl.1 rfl (Nat.le_of_ble_eq_true rfl) ⟨Nat.zero_le _, Nat.zero_le _⟩ dX1_compute_6) (fun r13 u H locs hq hw => ?_)
  obtain ⟨hu, h⟩ := hq
  rw [hu] at hw
  refine lv_ior hx hb dX1_compute_9 ?_
  refine lv_topi (fun v14 ev14 => ?_)
  have h := h v14 ev14
  refine pC_X1_18_logic E hw dX1_compute_10 (fun H locs hw => ?_)
  refine lv_aload_n hx hb dX1_compute_13 rfl (lv_at hl 0 rfl) ?_
  refine lv_aload_n hx hb dX1_compute_14 rfl (lv_at hl 2 rfl) ?_
  refine gC_X1_31_copy E hw dX1_compute_15 ?_
  refine lv_iload_n hx hb dX1_compute_18 rfl (lv_at hl 3 rfl) ?_
  refine g_aI E hw (g_rSN E hw (c_X9_bit h _) ym_X9_bit km_15 ⟨rfl, rfl⟩ ⟨Nat.le_of_ble_eq_true rfl, Nat.le_of_ble_eq_true rfl⟩ rfl hl.1 rfl (Nat.le_of_ble_eq_true rfl) ⟨Nat.zero_le _, Nat.zero_le _⟩ dX1_compute_19) (fun r15 u H locs hq hw => ?_)
  obtain ⟨hu, h⟩ := hq
  rw [hu] at hw
  refine lv_iconst (v := -1) hx hb dX1_compute_22 (by decide) ?_
  refine lv_ixor hx hb dX1_compute_23 ?_
  refine lv_iand hx hb dX1_compute_24 ?_
  refine lv_topi (fun v16 ev16 => ?_)
  have h := h v16 ev16
  refine pC_X1_9_logic E hw dX1_compute_25 (fun H locs hw => ?_)
  refine lv_aload_n hx hb dX1_compute_28 rfl (lv_at hl 0 rfl) ?_
  refine lv_aload_n hx hb dX1_compute_29 rfl (lv_at hl 2 rfl) ?_
  refine gC_X1_34_copy E hw dX1_compute_30 ?_
  refine lv_iload_n hx hb dX1_compute_33 rfl (lv_at hl 3 rfl) ?_
  refine g_aI E hw (g_rSN E hw (c_X9_bit h _) ym_X9_bit km_15 ⟨rfl, rfl⟩ ⟨Nat.le_of_ble_eq_true rfl, Nat.le_of_ble_eq_true rfl⟩ rfl hl.1 rfl (Nat.le_of_ble_eq_true rfl) ⟨Nat.zero_le _, Nat.zero_le _⟩ dX1_compute_34) (fun r17 u H locs hq hw => ?_)
  obtain ⟨hu, h⟩ := hq
  rw [hu] at hw
  refine lv_iconst (v := -1) hx hb dX1_compute_37 (by decide) ?_
  refine lv_ixor hx hb dX1_compute_38 ?_
  refine lv_iand hx hb dX1_compute_39 ?_
  refine lv_topi (fun v18 ev18 => ?_)
  have h := h v18 ev18
  refine pC_X1_15_logic E hw dX1_compute_40 (fun H locs hw => ?_)
  refine lv_iconst (v := 0) hx hb dX1_compute_43 (by decide) ?_
  refine lv_istore (lv' := [(4, .int (0 : Int32)), (0, .ref (ad 15)), (1, .ref (ad 29)), (2, .ref (ad 16)), (3, .int p3)]) hx hb dX1_compute_44 hl (by decide) rfl (fun ls hl => ?_)
  obtain ⟨n, h⟩ := h
  exact L46 n (0 : Int32) v16 v14 v18 _ _ _ h hw (lv_sub hl [1, 2, 0] rfl)
set_option maxRecDepth 100000 in
set_option maxHeartbeats 4000000 in
theorem c_X1_tick_plan_copy {l : Launch} {D : va_G} {cI cZ : ClassId} {ad : Nat → Nat} {f_keptSlots : Int32} {f_trace : Nat → Int32} {f_lastSeed : Int64} {f_text_letters : Nat → Int32} {f_text_length : Int32} {f_reader_place : Int32} {f_reader_greatestSource : Int32} {f_plan_chips : Int32} {f_plan_firstPins : Int32} {f_plan_firstPlaces : Int32} {f_plan_gates : Int32} {f_plan_inputs : Int32} {f_plan_registers : Int32} {f_plan_slowRegisters : Int32} {f_plan_kinds : Nat → Int32} {f_plan_firsts : Nat → Int32} {f_plan_seconds : Nat → Int32} {f_plan_clocks : Nat → Int32} {f_plan_sourceSets : Nat → Int32} {f_spare_chips : Int32} {f_spare_firstPins : Int32} {f_spare_firstPlaces : Int32} {f_spare_gates : Int32} {f_spare_inputs : Int32} {f_spare_registers : Int32} {f_spare_slowRegisters : Int32} {f_spare_kinds : Nat → Int32} {f_spare_firsts : Nat → Int32} {f_spare_seconds : Nat → Int32} {f_spare_clocks : Nat → Int32} {f_spare_sourceSets : Nat → Int32} {f_now_ones : Int32} {f_now_unknowns : Int32} {f_now_places : Int32} {f_now_pins : Int32} {f_now_count : Int32} {f_copy_ones : Int32} {f_copy_unknowns : Int32} {f_copy_places : Int32} {f_copy_pins : Int32} {f_copy_count : Int32} {f_logic_ones : Int32} {f_logic_unknowns : Int32} {f_logic_settled : Int32} {f_sched_available : Nat → Int32} {f_sched_wanted : Nat → Int32} {f_sched_coming : Nat → Int32} {f_sched_waiting : Int32} {f_sched_taken : Int32} {f_sched_sent : Int32} {f_sched_lastSent : Int32} {f_hist_next : Int32} {f_hist_held : Int32} {f_ring_cells : Nat → Int32} {f_kept_cells : Nat → Int32} {f_sight_steps : Nat → Int32} {f_sight_gates : Nat → Int32} {f_sight_values : Nat → Int32} {f_sight_truths : Nat → Int32} {f_sight_held : Int32} {X : va_W} {Q : Int32 → Int32 → Int32 → Prop} (h : wp_X1_tick f_logic_ones f_logic_unknowns f_plan_firsts f_plan_gates f_plan_registers f_plan_slowRegisters f_copy_count f_copy_ones f_copy_unknowns Q) : CtV l yX1_tick cX1_tick 6 none ({ frames := 2, cells := 0, slots := 0, locals := 42 } : Room) D [(cI, .int), (cZ, .boolean)] [.ref (ad 15), .ref (ad 29), .ref (ad 16)] (wC ad cI cZ f_keptSlots f_trace f_lastSeed f_text_letters f_text_length f_reader_place f_reader_greatestSource f_plan_chips f_plan_firstPins f_plan_firstPlaces f_plan_gates f_plan_inputs f_plan_registers f_plan_slowRegisters f_plan_kinds f_plan_firsts f_plan_seconds f_plan_clocks f_plan_sourceSets f_spare_chips f_spare_firstPins f_spare_firstPlaces f_spare_gates f_spare_inputs f_spare_registers f_spare_slowRegisters f_spare_kinds f_spare_firsts f_spare_seconds f_spare_clocks f_spare_sourceSets f_now_ones f_now_unknowns f_now_places f_now_pins f_now_count f_copy_ones f_copy_unknowns f_copy_places f_copy_pins f_copy_count f_logic_ones f_logic_unknowns f_logic_settled f_sched_available f_sched_wanted f_sched_coming f_sched_waiting f_sched_taken f_sched_sent f_sched_lastSent f_hist_next f_hist_held f_ring_cells f_kept_cells f_sight_steps f_sight_gates f_sight_values f_sight_truths f_sight_held X) (fun  u => ∃ w0 w1 w2, u = (wC ad cI cZ f_keptSlots f_trace f_lastSeed f_text_letters f_text_length f_reader_place f_reader_greatestSource f_plan_chips f_plan_firstPins f_plan_firstPlaces f_plan_gates f_plan_inputs f_plan_registers f_plan_slowRegisters f_plan_kinds f_plan_firsts f_plan_seconds f_plan_clocks f_plan_sourceSets f_spare_chips f_spare_firstPins f_spare_firstPlaces f_spare_gates f_spare_inputs f_spare_registers f_spare_slowRegisters f_spare_kinds f_spare_firsts f_spare_seconds f_spare_clocks f_spare_sourceSets f_now_ones f_now_unknowns f_now_places f_now_pins f_now_count w1 w2 f_copy_places f_copy_pins w0 f_logic_ones f_logic_unknowns f_logic_settled f_sched_available f_sched_wanted f_sched_coming f_sched_waiting f_sched_taken f_sched_sent f_sched_lastSent f_hist_next f_hist_held f_ring_cells f_kept_cells f_sight_steps f_sight_gates f_sight_values f_sight_truths f_sight_held X) ∧ Q w0 w1 w2) := by
  refine CtV.of (by decide) rfl (Nat.le_of_ble_eq_true rfl) ?_
  intro p e s m args below meth c A Z E hret ls hl hw
  have E : gE p m c cX1_tick 6 s args RX1 D [(cI, .int), (cZ, .boolean)] A := E
  have hx := E.1.1
  have hb := E.1.2.1
  have hl : lv_has ls 6 [(0, .ref (ad 15)), (1, .ref (ad 29)), (2, .ref (ad 16))] := hl
  have L43 : ∀ (n : Nat) (x4 : Int32) (x5 : Int32) (f_copy_count : Int32) (f_copy_ones : Int32) (f_copy_unknowns : Int32) (H : Heap) (locs : List Loc) (ls : Array Slot), wp_X1_tick_h43 f_logic_ones f_logic_unknowns f_plan_firsts f_plan_gates f_plan_registers f_plan_slowRegisters Q  n x4 x5 f_copy_count f_copy_ones f_copy_unknowns → gW D s A (wC ad cI cZ f_keptSlots f_trace f_lastSeed f_text_letters f_text_length f_reader_place f_reader_greatestSource f_plan_chips f_plan_firstPins f_plan_firstPlaces f_plan_gates f_plan_inputs f_plan_registers f_plan_slowRegisters f_plan_kinds f_plan_firsts f_plan_seconds f_plan_clocks f_plan_sourceSets f_spare_chips f_spare_firstPins f_spare_firstPlaces f_spare_gates f_spare_inputs f_spare_registers f_spare_slowRegisters f_spare_kinds f_spare_firsts f_spare_seconds f_spare_clocks f_spare_sourceSets f_now_ones f_now_unknowns f_now_places f_now_pins f_now_count f_copy_ones f_copy_unknowns f_copy_places f_copy_pins f_copy_count f_logic_ones f_logic_unknowns f_logic_settled f_sched_available f_sched_wanted f_sched_coming f_sched_waiting f_sched_taken f_sched_sent f_sched_lastSent f_hist_next f_hist_held f_ring_cells f_kept_cells f_sight_steps f_sight_gates f_sight_values f_sight_truths f_sight_held X) H locs → lv_has ls 6 [(0, .ref (ad 15)), (1, .ref (ad 29)), (2, .ref (ad 16)), (4, .int x4), (5, .int x5)] → W p l e ({ frames := 2, cells := 0, slots := 0, locals := 42 } : Room) s m args below meth c H locs 0 0 Z (F0 m 43 ls []) := by
    intro n
    induction n with
    | zero => intro x4 x5 f_copy_count f_copy_ones f_copy_unknowns H locs ls h; exact False.elim h
    | succ n43 ih43 =>
      intro x4 x5 f_copy_count f_copy_ones f_copy_unknowns H locs ls h hw hl
      have h : wp_X1_tick_b43 f_logic_ones f_logic_unknowns f_plan_firsts f_plan_gates f_plan_registers f_plan_slowRegisters Q (wp_X1_tick_h43 f_logic_ones f_logic_unknowns f_plan_firsts f_plan_gates f_plan_registers f_plan_slowRegisters Q  n43) x4 x5 f_copy_count f_copy_ones f_copy_unknowns := h
      have J86 : ∀ (x4 : Int32) (x5 : Int32) (f_copy_count : Int32) (f_copy_ones : Int32) (f_copy_unknowns : Int32) (H : Heap) (locs : List Loc) (ls : Array Slot), wp_X1_tick_b86 f_logic_ones f_logic_unknowns f_plan_firsts f_plan_gates f_plan_registers f_plan_slowRegisters Q (wp_X1_tick_h43 f_logic_ones f_logic_unknowns f_plan_firsts f_plan_gates f_plan_registers f_plan_slowRegisters Q  n43) x4 x5 f_copy_count f_copy_ones f_copy_unknowns → gW D s A (wC ad cI cZ f_keptSlots f_trace f_lastSeed f_text_letters f_text_length f_reader_place f_reader_greatestSource f_plan_chips f_plan_firstPins f_plan_firstPlaces f_plan_gates f_plan_inputs f_plan_registers f_plan_slowRegisters f_plan_kinds f_plan_firsts f_plan_seconds f_plan_clocks f_plan_sourceSets f_spare_chips f_spare_firstPins f_spare_firstPlaces f_spare_gates f_spare_inputs f_spare_registers f_spare_slowRegisters f_spare_kinds f_spare_firsts f_spare_seconds f_spare_clocks f_spare_sourceSets f_now_ones f_now_unknowns f_now_places f_now_pins f_now_count f_copy_ones f_copy_unknowns f_copy_places f_copy_pins f_copy_count f_logic_ones f_logic_unknowns f_logic_settled f_sched_available f_sched_wanted f_sched_coming f_sched_waiting f_sched_taken f_sched_sent f_sched_lastSent f_hist_next f_hist_held f_ring_cells f_kept_cells f_sight_steps f_sight_gates f_sight_values f_sight_truths f_sight_held X) H locs → lv_has ls 6 [(0, .ref (ad 15)), (1, .ref (ad 29)), (2, .ref (ad 16)), (4, .int x4), (5, .int x5)] → W p l e ({ frames := 2, cells := 0, slots := 0, locals := 42 } : Room) s m args below meth c H locs 0 0 Z (F0 m 86 ls []) := by
        intro x4 x5 f_copy_count f_copy_ones f_copy_unknowns H locs ls h hw hl
        unfold wp_X1_tick_b86 at h
        obtain ⟨v1, ev1⟩ : ∃ y : Int32, y = x5 + 1 := ⟨_, rfl⟩
        have h := h v1 ev1
        refine lv_iinc (v := v1) (lv' := [(5, .int v1), (0, .ref (ad 15)), (1, .ref (ad 29)), (2, .ref (ad 16)), (4, .int x4)]) hx hb dX1_tick_86 hl (k := 4) rfl (by rw [ev1]; rfl) (by decide) rfl (fun ls hl => ?_)
        refine lv_goto (tgt := 43) hx hb dX1_tick_89 (by decide) ?_
        exact ih43 x4 v1 f_copy_count f_copy_ones f_copy_unknowns _ _ _ h hw (lv_sub hl [1, 2, 3, 4, 0] rfl)
      unfold wp_X1_tick_b43 at h
      refine lv_iload hx hb dX1_tick_43 (lv_at hl 4 rfl) ?_
      refine lv_aload_n hx hb dX1_tick_45 rfl (lv_at hl 1 rfl) ?_
      refine gC_X1_35_plan E hw dX1_tick_46 ?_
      refine lv_icmp_ge (tgt := 92) hx hb dX1_tick_49 (by decide) (fun c2 => ?_) (fun c2 => ?_)
      · have h := h.1 c2
        refine lv_aload_n hx hb dX1_tick_92 rfl (lv_at hl 2 rfl) ?_
        refine lv_dup hx hb dX1_tick_93 rfl ?_
        refine gC_X1_68_copy E hw dX1_tick_94 ?_
        refine lv_iconst (v := 1) hx hb dX1_tick_97 (by decide) ?_
        refine lv_iadd hx hb dX1_tick_98 ?_
        refine lv_topi (fun v3 ev3 => ?_)
        have h := h v3 ev3
        refine pC_X1_68_copy E hw dX1_tick_99 (fun H locs hw => ?_)
        exact hret _ _ _ _ _ ⟨_, _, _, rfl, h⟩ hw dX1_tick_102
      · have h := h.2 c2
        refine lv_iload hx hb dX1_tick_52 (lv_at hl 3 rfl) ?_
        refine lv_iload hx hb dX1_tick_54 (lv_at hl 4 rfl) ?_
        refine g_aI E hw (g_rSN E hw (c_X9_bit h _) ym_X9_bit km_15 ⟨rfl, rfl⟩ ⟨Nat.le_of_ble_eq_true rfl, Nat.le_of_ble_eq_true rfl⟩ rfl hl.1 rfl (Nat.le_of_ble_eq_true rfl) ⟨Nat.zero_le _, Nat.zero_le _⟩ dX1_tick_56) (fun r4 u H locs hq hw => ?_)
        obtain ⟨hu, h⟩ := hq
        rw [hu] at hw
        refine lv_iand hx hb dX1_tick_59 ?_
        refine lv_if_eq (tgt := 86) hx hb dX1_tick_60 (by decide) (fun c5 => ?_) (fun c5 => ?_)
        · have h := h.1 c5
          exact J86 x4 x5 f_copy_count f_copy_ones f_copy_unknowns _ _ _ h hw (lv_sub hl [0, 1, 2, 3, 4] rfl)
        · have h := h.2 c5
          refine lv_aload_n hx hb dX1_tick_63 rfl (lv_at hl 2 rfl) ?_
          refine lv_iload hx hb dX1_tick_64 (lv_at hl 4 rfl) ?_
          refine lv_aload_n hx hb dX1_tick_66 rfl (lv_at hl 0 rfl) ?_
          refine gC_X1_9_logic E hw dX1_tick_67 ?_
          refine lv_aload_n hx hb dX1_tick_70 rfl (lv_at hl 0 rfl) ?_
          refine gC_X1_15_logic E hw dX1_tick_71 ?_
          refine lv_aload_n hx hb dX1_tick_74 rfl (lv_at hl 1 rfl) ?_
          refine lv_iload hx hb dX1_tick_75 (lv_at hl 4 rfl) ?_
          refine g_aI E hw (g_rV E hw (c_X2_firstOf_plan h _) ym_X2_firstOf k_310 ⟨rfl, rfl⟩ ⟨Nat.le_of_ble_eq_true rfl, Nat.le_of_ble_eq_true rfl⟩ 29 rfl rfl rfl rfl hl.1 rfl (Nat.le_of_ble_eq_true rfl) ⟨Nat.zero_le _, Nat.zero_le _⟩ dX1_tick_77) (fun r6 u H locs hq hw => ?_)
          obtain ⟨hu, h⟩ := hq
          rw [hu] at hw
          refine g_aI E hw (g_rSN E hw (c_X9_valueIn h _) ym_X9_valueIn km_16 ⟨rfl, rfl⟩ ⟨Nat.le_of_ble_eq_true rfl, Nat.le_of_ble_eq_true rfl⟩ rfl hl.1 rfl (Nat.le_of_ble_eq_true rfl) ⟨Nat.zero_le _, Nat.zero_le _⟩ dX1_tick_80) (fun r7 u H locs hq hw => ?_)
          obtain ⟨hu, h⟩ := hq
          rw [hu] at hw
          refine g_aV E hw (g_rV E hw (c_X7_store_copy h _) ym_X7_store k_353 ⟨rfl, rfl⟩ ⟨Nat.le_of_ble_eq_true rfl, Nat.le_of_ble_eq_true rfl⟩ 16 rfl rfl rfl rfl hl.1 rfl (Nat.le_of_ble_eq_true rfl) ⟨Nat.zero_le _, Nat.zero_le _⟩ dX1_tick_83) (fun u H locs hq hw => ?_)
          obtain ⟨y9, y10, hu, h⟩ := hq
          rw [hu] at hw
          exact J86 x4 x5 f_copy_count y9 y10 _ _ _ h hw (lv_sub hl [0, 1, 2, 3, 4] rfl)
  have J38 : ∀ (s0 : Int32) (f_copy_count : Int32) (f_copy_ones : Int32) (f_copy_unknowns : Int32) (H : Heap) (locs : List Loc) (ls : Array Slot), wp_X1_tick_b38 f_logic_ones f_logic_unknowns f_plan_firsts f_plan_gates f_plan_registers f_plan_slowRegisters Q  s0 f_copy_count f_copy_ones f_copy_unknowns → gW D s A (wC ad cI cZ f_keptSlots f_trace f_lastSeed f_text_letters f_text_length f_reader_place f_reader_greatestSource f_plan_chips f_plan_firstPins f_plan_firstPlaces f_plan_gates f_plan_inputs f_plan_registers f_plan_slowRegisters f_plan_kinds f_plan_firsts f_plan_seconds f_plan_clocks f_plan_sourceSets f_spare_chips f_spare_firstPins f_spare_firstPlaces f_spare_gates f_spare_inputs f_spare_registers f_spare_slowRegisters f_spare_kinds f_spare_firsts f_spare_seconds f_spare_clocks f_spare_sourceSets f_now_ones f_now_unknowns f_now_places f_now_pins f_now_count f_copy_ones f_copy_unknowns f_copy_places f_copy_pins f_copy_count f_logic_ones f_logic_unknowns f_logic_settled f_sched_available f_sched_wanted f_sched_coming f_sched_waiting f_sched_taken f_sched_sent f_sched_lastSent f_hist_next f_hist_held f_ring_cells f_kept_cells f_sight_steps f_sight_gates f_sight_values f_sight_truths f_sight_held X) H locs → lv_has ls 6 [(0, .ref (ad 15)), (1, .ref (ad 29)), (2, .ref (ad 16))] → W p l e ({ frames := 2, cells := 0, slots := 0, locals := 42 } : Room) s m args below meth c H locs 0 0 Z (F0 m 38 ls [.int s0]) := by
    intro s0 f_copy_count f_copy_ones f_copy_unknowns H locs ls h hw hl
    unfold wp_X1_tick_b38 at h
    refine lv_istore (lv' := [(4, .int s0), (0, .ref (ad 15)), (1, .ref (ad 29)), (2, .ref (ad 16))]) hx hb dX1_tick_38 hl (by decide) rfl (fun ls hl => ?_)
    refine lv_iconst (v := 0) hx hb dX1_tick_40 (by decide) ?_
    refine lv_istore (lv' := [(5, .int (0 : Int32)), (4, .int s0), (0, .ref (ad 15)), (1, .ref (ad 29)), (2, .ref (ad 16))]) hx hb dX1_tick_41 hl (by decide) rfl (fun ls hl => ?_)
    obtain ⟨n, h⟩ := h
    exact L43 n s0 (0 : Int32) f_copy_count f_copy_ones f_copy_unknowns _ _ _ h hw (lv_sub hl [2, 3, 4, 1, 0] rfl)
  have J15 : ∀ (s0 : Int32) (f_copy_count : Int32) (f_copy_ones : Int32) (f_copy_unknowns : Int32) (H : Heap) (locs : List Loc) (ls : Array Slot), wp_X1_tick_b15 f_logic_ones f_logic_unknowns f_plan_firsts f_plan_gates f_plan_registers f_plan_slowRegisters Q  s0 f_copy_count f_copy_ones f_copy_unknowns → gW D s A (wC ad cI cZ f_keptSlots f_trace f_lastSeed f_text_letters f_text_length f_reader_place f_reader_greatestSource f_plan_chips f_plan_firstPins f_plan_firstPlaces f_plan_gates f_plan_inputs f_plan_registers f_plan_slowRegisters f_plan_kinds f_plan_firsts f_plan_seconds f_plan_clocks f_plan_sourceSets f_spare_chips f_spare_firstPins f_spare_firstPlaces f_spare_gates f_spare_inputs f_spare_registers f_spare_slowRegisters f_spare_kinds f_spare_firsts f_spare_seconds f_spare_clocks f_spare_sourceSets f_now_ones f_now_unknowns f_now_places f_now_pins f_now_count f_copy_ones f_copy_unknowns f_copy_places f_copy_pins f_copy_count f_logic_ones f_logic_unknowns f_logic_settled f_sched_available f_sched_wanted f_sched_coming f_sched_waiting f_sched_taken f_sched_sent f_sched_lastSent f_hist_next f_hist_held f_ring_cells f_kept_cells f_sight_steps f_sight_gates f_sight_values f_sight_truths f_sight_held X) H locs → lv_has ls 6 [(0, .ref (ad 15)), (1, .ref (ad 29)), (2, .ref (ad 16))] → W p l e ({ frames := 2, cells := 0, slots := 0, locals := 42 } : Room) s m args below meth c H locs 0 0 Z (F0 m 15 ls [.int s0]) := by
    intro s0 f_copy_count f_copy_ones f_copy_unknowns H locs ls h hw hl
    unfold wp_X1_tick_b15 at h
    refine lv_istore_n (lv' := [(3, .int s0), (0, .ref (ad 15)), (1, .ref (ad 29)), (2, .ref (ad 16))]) hx hb dX1_tick_15 rfl hl (by decide) rfl (fun ls hl => ?_)
    refine lv_iload_n hx hb dX1_tick_16 rfl (lv_at hl 0 rfl) ?_
    refine lv_if_eq (tgt := 27) hx hb dX1_tick_17 (by decide) (fun c11 => ?_) (fun c11 => ?_)
    · have h := h.1 c11
      refine lv_aload_n hx hb dX1_tick_27 rfl (lv_at hl 2 rfl) ?_
      refine gC_X1_71_plan E hw dX1_tick_28 ?_
      refine lv_aload_n hx hb dX1_tick_31 rfl (lv_at hl 2 rfl) ?_
      refine gC_X1_74_plan E hw dX1_tick_32 ?_
      refine lv_iconst (v := -1) hx hb dX1_tick_35 (by decide) ?_
      refine lv_ixor hx hb dX1_tick_36 ?_
      refine lv_iand hx hb dX1_tick_37 ?_
      exact J38 ((f_plan_registers &&& (f_plan_slowRegisters ^^^ (-1 : Int32)))) f_copy_count f_copy_ones f_copy_unknowns _ _ _ h hw (lv_sub hl [1, 2, 3] rfl)
    · have h := h.2 c11
      refine lv_aload_n hx hb dX1_tick_20 rfl (lv_at hl 2 rfl) ?_
      refine gC_X1_71_plan E hw dX1_tick_21 ?_
      refine lv_goto (tgt := 38) hx hb dX1_tick_24 (by decide) ?_
      exact J38 f_plan_registers f_copy_count f_copy_ones f_copy_unknowns _ _ _ h hw (lv_sub hl [1, 2, 3] rfl)
  unfold wp_X1_tick at h
  refine lv_aload_n hx hb dX1_tick_0 rfl (lv_at hl 2 rfl) ?_
  refine gC_X1_68_copy E hw dX1_tick_1 ?_
  refine lv_iconst (v := 1) hx hb dX1_tick_4 (by decide) ?_
  refine lv_iand hx hb dX1_tick_5 ?_
  refine lv_iconst (v := 1) hx hb dX1_tick_6 (by decide) ?_
  refine lv_icmp_ne (tgt := 14) hx hb dX1_tick_7 (by decide) (fun c12 => ?_) (fun c12 => ?_)
  · have h := h.1 c12
    refine lv_iconst (v := 0) hx hb dX1_tick_14 (by decide) ?_
    exact J15 (0 : Int32) f_copy_count f_copy_ones f_copy_unknowns _ _ _ h hw (lv_sub hl [0, 1, 2] rfl)
  · have h := h.2 c12
    refine lv_iconst (v := 1) hx hb dX1_tick_10 (by decide) ?_
    refine lv_goto (tgt := 15) hx hb dX1_tick_11 (by decide) ?_
    exact J15 (1 : Int32) f_copy_count f_copy_ones f_copy_unknowns _ _ _ h hw (lv_sub hl [0, 1, 2] rfl)
set_option maxRecDepth 100000 in
set_option maxHeartbeats 4000000 in
theorem c_X4_settle_plan {l : Launch} {D : va_G} {cI cZ : ClassId} {ad : Nat → Nat} {f_keptSlots : Int32} {f_trace : Nat → Int32} {f_lastSeed : Int64} {f_text_letters : Nat → Int32} {f_text_length : Int32} {f_reader_place : Int32} {f_reader_greatestSource : Int32} {f_plan_chips : Int32} {f_plan_firstPins : Int32} {f_plan_firstPlaces : Int32} {f_plan_gates : Int32} {f_plan_inputs : Int32} {f_plan_registers : Int32} {f_plan_slowRegisters : Int32} {f_plan_kinds : Nat → Int32} {f_plan_firsts : Nat → Int32} {f_plan_seconds : Nat → Int32} {f_plan_clocks : Nat → Int32} {f_plan_sourceSets : Nat → Int32} {f_spare_chips : Int32} {f_spare_firstPins : Int32} {f_spare_firstPlaces : Int32} {f_spare_gates : Int32} {f_spare_inputs : Int32} {f_spare_registers : Int32} {f_spare_slowRegisters : Int32} {f_spare_kinds : Nat → Int32} {f_spare_firsts : Nat → Int32} {f_spare_seconds : Nat → Int32} {f_spare_clocks : Nat → Int32} {f_spare_sourceSets : Nat → Int32} {f_now_ones : Int32} {f_now_unknowns : Int32} {f_now_places : Int32} {f_now_pins : Int32} {f_now_count : Int32} {f_copy_ones : Int32} {f_copy_unknowns : Int32} {f_copy_places : Int32} {f_copy_pins : Int32} {f_copy_count : Int32} {f_logic_ones : Int32} {f_logic_unknowns : Int32} {f_logic_settled : Int32} {f_sched_available : Nat → Int32} {f_sched_wanted : Nat → Int32} {f_sched_coming : Nat → Int32} {f_sched_waiting : Int32} {f_sched_taken : Int32} {f_sched_sent : Int32} {f_sched_lastSent : Int32} {f_hist_next : Int32} {f_hist_held : Int32} {f_ring_cells : Nat → Int32} {f_kept_cells : Nat → Int32} {f_sight_steps : Nat → Int32} {f_sight_gates : Nat → Int32} {f_sight_values : Nat → Int32} {f_sight_truths : Nat → Int32} {f_sight_held : Int32} {X : va_W} {p2 : Int32} {Q : (Nat → Int32) → Int32 → Prop} (h : wp_X4_settle f_sched_available f_sched_waiting f_plan_gates f_plan_sourceSets p2 Q) : CtV l yX4_settle cX4_settle 8 none ({ frames := 2, cells := 0, slots := 0, locals := 44 } : Room) D [(cI, .int), (cZ, .boolean)] [.ref (ad 14), .ref (ad 29), .int p2] (wC ad cI cZ f_keptSlots f_trace f_lastSeed f_text_letters f_text_length f_reader_place f_reader_greatestSource f_plan_chips f_plan_firstPins f_plan_firstPlaces f_plan_gates f_plan_inputs f_plan_registers f_plan_slowRegisters f_plan_kinds f_plan_firsts f_plan_seconds f_plan_clocks f_plan_sourceSets f_spare_chips f_spare_firstPins f_spare_firstPlaces f_spare_gates f_spare_inputs f_spare_registers f_spare_slowRegisters f_spare_kinds f_spare_firsts f_spare_seconds f_spare_clocks f_spare_sourceSets f_now_ones f_now_unknowns f_now_places f_now_pins f_now_count f_copy_ones f_copy_unknowns f_copy_places f_copy_pins f_copy_count f_logic_ones f_logic_unknowns f_logic_settled f_sched_available f_sched_wanted f_sched_coming f_sched_waiting f_sched_taken f_sched_sent f_sched_lastSent f_hist_next f_hist_held f_ring_cells f_kept_cells f_sight_steps f_sight_gates f_sight_values f_sight_truths f_sight_held X) (fun  u => ∃ w0 w1, u = (wC ad cI cZ f_keptSlots f_trace f_lastSeed f_text_letters f_text_length f_reader_place f_reader_greatestSource f_plan_chips f_plan_firstPins f_plan_firstPlaces f_plan_gates f_plan_inputs f_plan_registers f_plan_slowRegisters f_plan_kinds f_plan_firsts f_plan_seconds f_plan_clocks f_plan_sourceSets f_spare_chips f_spare_firstPins f_spare_firstPlaces f_spare_gates f_spare_inputs f_spare_registers f_spare_slowRegisters f_spare_kinds f_spare_firsts f_spare_seconds f_spare_clocks f_spare_sourceSets f_now_ones f_now_unknowns f_now_places f_now_pins f_now_count f_copy_ones f_copy_unknowns f_copy_places f_copy_pins f_copy_count f_logic_ones f_logic_unknowns f_logic_settled w0 f_sched_wanted f_sched_coming w1 f_sched_taken f_sched_sent f_sched_lastSent f_hist_next f_hist_held f_ring_cells f_kept_cells f_sight_steps f_sight_gates f_sight_values f_sight_truths f_sight_held X) ∧ Q w0 w1) := by
  refine CtV.of (by decide) rfl (Nat.le_of_ble_eq_true rfl) ?_
  intro p e s m args below meth c A Z E hret ls hl hw
  have E : gE p m c cX4_settle 8 s args RX4 D [(cI, .int), (cZ, .boolean)] A := E
  have hx := E.1.1
  have hb := E.1.2.1
  have hl : lv_has ls 8 [(0, .ref (ad 14)), (1, .ref (ad 29)), (2, .int p2)] := hl
  have L2 : ∀ (n : Nat) (x3 : Int32) (f_sched_available : Nat → Int32) (f_sched_waiting : Int32) (H : Heap) (locs : List Loc) (ls : Array Slot), wp_X4_settle_h2 f_plan_gates f_plan_sourceSets p2 Q  n x3 f_sched_available f_sched_waiting → gW D s A (wC ad cI cZ f_keptSlots f_trace f_lastSeed f_text_letters f_text_length f_reader_place f_reader_greatestSource f_plan_chips f_plan_firstPins f_plan_firstPlaces f_plan_gates f_plan_inputs f_plan_registers f_plan_slowRegisters f_plan_kinds f_plan_firsts f_plan_seconds f_plan_clocks f_plan_sourceSets f_spare_chips f_spare_firstPins f_spare_firstPlaces f_spare_gates f_spare_inputs f_spare_registers f_spare_slowRegisters f_spare_kinds f_spare_firsts f_spare_seconds f_spare_clocks f_spare_sourceSets f_now_ones f_now_unknowns f_now_places f_now_pins f_now_count f_copy_ones f_copy_unknowns f_copy_places f_copy_pins f_copy_count f_logic_ones f_logic_unknowns f_logic_settled f_sched_available f_sched_wanted f_sched_coming f_sched_waiting f_sched_taken f_sched_sent f_sched_lastSent f_hist_next f_hist_held f_ring_cells f_kept_cells f_sight_steps f_sight_gates f_sight_values f_sight_truths f_sight_held X) H locs → lv_has ls 8 [(0, .ref (ad 14)), (1, .ref (ad 29)), (2, .int p2), (3, .int x3)] → W p l e ({ frames := 2, cells := 0, slots := 0, locals := 44 } : Room) s m args below meth c H locs 0 0 Z (F0 m 2 ls []) := by
    intro n
    induction n with
    | zero => intro x3 f_sched_available f_sched_waiting H locs ls h; exact False.elim h
    | succ n2 ih2 =>
      intro x3 f_sched_available f_sched_waiting H locs ls h hw hl
      have h : wp_X4_settle_b2 f_plan_gates f_plan_sourceSets p2 Q (wp_X4_settle_h2 f_plan_gates f_plan_sourceSets p2 Q  n2) x3 f_sched_available f_sched_waiting := h
      have L26 : ∀ (n : Nat) (x3 : Int32) (x4 : Int32) (x5 : Int32) (f_sched_available : Nat → Int32) (f_sched_waiting : Int32) (H : Heap) (locs : List Loc) (ls : Array Slot), wp_X4_settle_h26 f_plan_gates f_plan_sourceSets p2 Q (wp_X4_settle_h2 f_plan_gates f_plan_sourceSets p2 Q  n2) n x3 x4 x5 f_sched_available f_sched_waiting → gW D s A (wC ad cI cZ f_keptSlots f_trace f_lastSeed f_text_letters f_text_length f_reader_place f_reader_greatestSource f_plan_chips f_plan_firstPins f_plan_firstPlaces f_plan_gates f_plan_inputs f_plan_registers f_plan_slowRegisters f_plan_kinds f_plan_firsts f_plan_seconds f_plan_clocks f_plan_sourceSets f_spare_chips f_spare_firstPins f_spare_firstPlaces f_spare_gates f_spare_inputs f_spare_registers f_spare_slowRegisters f_spare_kinds f_spare_firsts f_spare_seconds f_spare_clocks f_spare_sourceSets f_now_ones f_now_unknowns f_now_places f_now_pins f_now_count f_copy_ones f_copy_unknowns f_copy_places f_copy_pins f_copy_count f_logic_ones f_logic_unknowns f_logic_settled f_sched_available f_sched_wanted f_sched_coming f_sched_waiting f_sched_taken f_sched_sent f_sched_lastSent f_hist_next f_hist_held f_ring_cells f_kept_cells f_sight_steps f_sight_gates f_sight_values f_sight_truths f_sight_held X) H locs → lv_has ls 8 [(0, .ref (ad 14)), (1, .ref (ad 29)), (2, .int p2), (3, .int x3), (4, .int x4), (5, .int x5)] → W p l e ({ frames := 2, cells := 0, slots := 0, locals := 44 } : Room) s m args below meth c H locs 0 0 Z (F0 m 26 ls []) := by
        intro n
        induction n with
        | zero => intro x3 x4 x5 f_sched_available f_sched_waiting H locs ls h; exact False.elim h
        | succ n26 ih26 =>
          intro x3 x4 x5 f_sched_available f_sched_waiting H locs ls h hw hl
          have h : wp_X4_settle_b26 f_plan_gates f_plan_sourceSets p2 Q (wp_X4_settle_h2 f_plan_gates f_plan_sourceSets p2 Q  n2) (wp_X4_settle_h26 f_plan_gates f_plan_sourceSets p2 Q (wp_X4_settle_h2 f_plan_gates f_plan_sourceSets p2 Q  n2) n26) x3 x4 x5 f_sched_available f_sched_waiting := h
          have J108 : ∀ (x3 : Int32) (x4 : Int32) (x5 : Int32) (f_sched_available : Nat → Int32) (f_sched_waiting : Int32) (H : Heap) (locs : List Loc) (ls : Array Slot), wp_X4_settle_b108 f_plan_gates f_plan_sourceSets p2 Q (wp_X4_settle_h2 f_plan_gates f_plan_sourceSets p2 Q  n2) (wp_X4_settle_h26 f_plan_gates f_plan_sourceSets p2 Q (wp_X4_settle_h2 f_plan_gates f_plan_sourceSets p2 Q  n2) n26) x3 x4 x5 f_sched_available f_sched_waiting → gW D s A (wC ad cI cZ f_keptSlots f_trace f_lastSeed f_text_letters f_text_length f_reader_place f_reader_greatestSource f_plan_chips f_plan_firstPins f_plan_firstPlaces f_plan_gates f_plan_inputs f_plan_registers f_plan_slowRegisters f_plan_kinds f_plan_firsts f_plan_seconds f_plan_clocks f_plan_sourceSets f_spare_chips f_spare_firstPins f_spare_firstPlaces f_spare_gates f_spare_inputs f_spare_registers f_spare_slowRegisters f_spare_kinds f_spare_firsts f_spare_seconds f_spare_clocks f_spare_sourceSets f_now_ones f_now_unknowns f_now_places f_now_pins f_now_count f_copy_ones f_copy_unknowns f_copy_places f_copy_pins f_copy_count f_logic_ones f_logic_unknowns f_logic_settled f_sched_available f_sched_wanted f_sched_coming f_sched_waiting f_sched_taken f_sched_sent f_sched_lastSent f_hist_next f_hist_held f_ring_cells f_kept_cells f_sight_steps f_sight_gates f_sight_values f_sight_truths f_sight_held X) H locs → lv_has ls 8 [(0, .ref (ad 14)), (1, .ref (ad 29)), (2, .int p2), (3, .int x3), (4, .int x4), (5, .int x5)] → W p l e ({ frames := 2, cells := 0, slots := 0, locals := 44 } : Room) s m args below meth c H locs 0 0 Z (F0 m 108 ls []) := by
            intro x3 x4 x5 f_sched_available f_sched_waiting H locs ls h hw hl
            unfold wp_X4_settle_b108 at h
            obtain ⟨v1, ev1⟩ : ∃ y : Int32, y = x5 + 1 := ⟨_, rfl⟩
            have h := h v1 ev1
            refine lv_iinc (v := v1) (lv' := [(5, .int v1), (0, .ref (ad 14)), (1, .ref (ad 29)), (2, .int p2), (3, .int x3), (4, .int x4)]) hx hb dX4_settle_108 hl (k := 5) rfl (by rw [ev1]; rfl) (by decide) rfl (fun ls hl => ?_)
            refine lv_goto (tgt := 26) hx hb dX4_settle_111 (by decide) ?_
            exact ih26 x3 x4 v1 f_sched_available f_sched_waiting _ _ _ h hw (lv_sub hl [1, 2, 3, 4, 5, 0] rfl)
          unfold wp_X4_settle_b26 at h
          refine lv_iload hx hb dX4_settle_26 (lv_at hl 5 rfl) ?_
          refine lv_aload_n hx hb dX4_settle_28 rfl (lv_at hl 1 rfl) ?_
          refine gC_X4_70_plan E hw dX4_settle_29 ?_
          refine lv_icmp_ge (tgt := 114) hx hb dX4_settle_32 (by decide) (fun c2 => ?_) (fun c2 => ?_)
          · have h := h.1 c2
            refine lv_aload_n hx hb dX4_settle_114 rfl (lv_at hl 0 rfl) ?_
            refine gC_X4_21_sched E hw dX4_settle_115 ?_
            refine lv_iload hx hb dX4_settle_118 (lv_at hl 4 rfl) ?_
            refine lv_icmp_ne (tgt := 126) hx hb dX4_settle_120 (by decide) (fun c3 => ?_) (fun c3 => ?_)
            · have h := h.1 c3
              obtain ⟨v4, ev4⟩ : ∃ y : Int32, y = x3 + 1 := ⟨_, rfl⟩
              have h := h v4 ev4
              refine lv_iinc (v := v4) (lv' := [(3, .int v4), (0, .ref (ad 14)), (1, .ref (ad 29)), (2, .int p2), (4, .int x4), (5, .int x5)]) hx hb dX4_settle_126 hl (k := 3) rfl (by rw [ev4]; rfl) (by decide) rfl (fun ls hl => ?_)
              refine lv_goto (tgt := 2) hx hb dX4_settle_129 (by decide) ?_
              exact ih2 v4 f_sched_available f_sched_waiting _ _ _ h hw (lv_sub hl [1, 2, 3, 0] rfl)
            · have h := h.2 c3
              refine lv_goto (tgt := 132) hx hb dX4_settle_123 (by decide) ?_
              exact hret _ _ _ _ _ ⟨_, _, rfl, h⟩ hw dX4_settle_132
          · have h := h.2 c2
            refine lv_iload_n hx hb dX4_settle_35 rfl (lv_at hl 2 rfl) ?_
            refine lv_iload hx hb dX4_settle_36 (lv_at hl 5 rfl) ?_
            refine g_aI E hw (g_rSN E hw (c_X9_chipIn h _) ym_X9_chipIn km_20 ⟨rfl, rfl⟩ ⟨Nat.le_of_ble_eq_true rfl, Nat.le_of_ble_eq_true rfl⟩ rfl hl.1 rfl (Nat.le_of_ble_eq_true rfl) ⟨Nat.zero_le _, Nat.zero_le _⟩ dX4_settle_38) (fun r5 u H locs hq hw => ?_)
            obtain ⟨hu, h⟩ := hq
            rw [hu] at hw
            refine lv_istore (lv' := [(6, .int r5), (0, .ref (ad 14)), (1, .ref (ad 29)), (2, .int p2), (3, .int x3), (4, .int x4), (5, .int x5)]) hx hb dX4_settle_41 hl (by decide) rfl (fun ls hl => ?_)
            refine lv_aload_n hx hb dX4_settle_43 rfl (lv_at hl 2 rfl) ?_
            refine lv_iload hx hb dX4_settle_44 (lv_at hl 6 rfl) ?_
            refine g_aI E hw (g_rV E hw (c_X2_sourcesOf_plan h _) ym_X2_sourcesOf k_435 ⟨rfl, rfl⟩ ⟨Nat.le_of_ble_eq_true rfl, Nat.le_of_ble_eq_true rfl⟩ 29 rfl rfl rfl rfl hl.1 rfl (Nat.le_of_ble_eq_true rfl) ⟨Nat.zero_le _, Nat.zero_le _⟩ dX4_settle_46) (fun r6 u H locs hq hw => ?_)
            obtain ⟨hu, h⟩ := hq
            rw [hu] at hw
            refine lv_aload_n hx hb dX4_settle_49 rfl (lv_at hl 1 rfl) ?_
            refine gC_X4_9_sched E hw dX4_settle_50 ?_
            refine lv_iload hx hb dX4_settle_53 (lv_at hl 0 rfl) ?_
            refine g_aI E hw (g_rSN E hw (c_X9_cell (q0 := 13) rfl h _) ym_X9_cell km_22 ⟨rfl, rfl⟩ ⟨Nat.le_of_ble_eq_true rfl, Nat.le_of_ble_eq_true rfl⟩ rfl hl.1 rfl (Nat.le_of_ble_eq_true rfl) ⟨Nat.zero_le _, Nat.zero_le _⟩ dX4_settle_55) (fun r7 u H locs hq hw => ?_)
            obtain ⟨hu, h⟩ := hq
            rw [hu] at hw
            refine lv_iconst (v := -1) hx hb dX4_settle_58 (by decide) ?_
            refine lv_ixor hx hb dX4_settle_59 ?_
            refine lv_iand hx hb dX4_settle_60 ?_
            refine lv_topi (fun v8 ev8 => ?_)
            have h := h v8 ev8
            refine lv_istore (lv' := [(7, .int v8), (6, .int r5), (0, .ref (ad 14)), (1, .ref (ad 29)), (2, .int p2), (3, .int x3), (4, .int x4), (5, .int x5)]) hx hb dX4_settle_61 hl (by decide) rfl (fun ls hl => ?_)
            refine lv_aload_n hx hb dX4_settle_63 rfl (lv_at hl 2 rfl) ?_
            refine gC_X4_21_sched E hw dX4_settle_64 ?_
            refine lv_iload hx hb dX4_settle_67 (lv_at hl 7 rfl) ?_
            refine g_aI E hw (g_rSN E hw (c_X9_bit h _) ym_X9_bit km_21 ⟨rfl, rfl⟩ ⟨Nat.le_of_ble_eq_true rfl, Nat.le_of_ble_eq_true rfl⟩ rfl hl.1 rfl (Nat.le_of_ble_eq_true rfl) ⟨Nat.zero_le _, Nat.zero_le _⟩ dX4_settle_69) (fun r9 u H locs hq hw => ?_)
            obtain ⟨hu, h⟩ := hq
            rw [hu] at hw
            refine lv_iand hx hb dX4_settle_72 ?_
            refine lv_if_eq (tgt := 108) hx hb dX4_settle_73 (by decide) (fun c10 => ?_) (fun c10 => ?_)
            · have h := h.1 c10
              exact J108 x3 x4 x5 f_sched_available f_sched_waiting _ _ _ h hw (lv_sub hl [2, 3, 4, 5, 6, 7] rfl)
            · have h := h.2 c10
              refine lv_iload hx hb dX4_settle_76 (lv_at hl 0 rfl) ?_
              refine lv_if_ne (tgt := 108) hx hb dX4_settle_78 (by decide) (fun c11 => ?_) (fun c11 => ?_)
              · have h := h.1 c11
                exact J108 x3 x4 x5 f_sched_available f_sched_waiting _ _ _ h hw (lv_sub hl [2, 3, 4, 5, 6, 7] rfl)
              · have h := h.2 c11
                refine lv_aload_n hx hb dX4_settle_81 rfl (lv_at hl 2 rfl) ?_
                refine gC_X4_9_sched E hw dX4_settle_82 ?_
                refine lv_iload hx hb dX4_settle_85 (lv_at hl 1 rfl) ?_
                refine lv_iload hx hb dX4_settle_87 (lv_at hl 7 rfl) ?_
                refine g_aV E hw (g_rS E hw (c_X4_add (q0 := 13) rfl h _) ym_X4_add k_422 ⟨rfl, rfl⟩ ⟨Nat.le_of_ble_eq_true rfl, Nat.le_of_ble_eq_true rfl⟩ rfl hl.1 rfl (Nat.le_of_ble_eq_true rfl) ⟨Nat.zero_le _, Nat.zero_le _⟩ dX4_settle_89) (fun u H locs hq hw => ?_)
                obtain ⟨y13, hu, h⟩ := hq
                rw [hu] at hw
                have hw : gW D s A (wC ad cI cZ f_keptSlots f_trace f_lastSeed f_text_letters f_text_length f_reader_place f_reader_greatestSource f_plan_chips f_plan_firstPins f_plan_firstPlaces f_plan_gates f_plan_inputs f_plan_registers f_plan_slowRegisters f_plan_kinds f_plan_firsts f_plan_seconds f_plan_clocks f_plan_sourceSets f_spare_chips f_spare_firstPins f_spare_firstPlaces f_spare_gates f_spare_inputs f_spare_registers f_spare_slowRegisters f_spare_kinds f_spare_firsts f_spare_seconds f_spare_clocks f_spare_sourceSets f_now_ones f_now_unknowns f_now_places f_now_pins f_now_count f_copy_ones f_copy_unknowns f_copy_places f_copy_pins f_copy_count f_logic_ones f_logic_unknowns f_logic_settled y13 f_sched_wanted f_sched_coming f_sched_waiting f_sched_taken f_sched_sent f_sched_lastSent f_hist_next f_hist_held f_ring_cells f_kept_cells f_sight_steps f_sight_gates f_sight_values f_sight_truths f_sight_held X) _ _ := hw
                refine lv_aload_n hx hb dX4_settle_92 rfl (lv_at hl 2 rfl) ?_
                refine lv_dup hx hb dX4_settle_93 rfl ?_
                refine gC_X4_21_sched E hw dX4_settle_94 ?_
                refine lv_iload hx hb dX4_settle_97 (lv_at hl 7 rfl) ?_
                refine g_aI E hw (g_rSN E hw (c_X9_bit h _) ym_X9_bit km_21 ⟨rfl, rfl⟩ ⟨Nat.le_of_ble_eq_true rfl, Nat.le_of_ble_eq_true rfl⟩ rfl hl.1 rfl (Nat.le_of_ble_eq_true rfl) ⟨Nat.zero_le _, Nat.zero_le _⟩ dX4_settle_99) (fun r14 u H locs hq hw => ?_)
                obtain ⟨hu, h⟩ := hq
                rw [hu] at hw
                refine lv_iconst (v := -1) hx hb dX4_settle_102 (by decide) ?_
                refine lv_ixor hx hb dX4_settle_103 ?_
                refine lv_iand hx hb dX4_settle_104 ?_
                refine lv_topi (fun v15 ev15 => ?_)
                have h := h v15 ev15
                refine pC_X4_21_sched E hw dX4_settle_105 (fun H locs hw => ?_)
                exact J108 x3 x4 x5 y13 v15 _ _ _ h hw (lv_sub hl [2, 3, 4, 5, 6, 7] rfl)
      unfold wp_X4_settle_b2 at h
      refine lv_iload_n hx hb dX4_settle_2 rfl (lv_at hl 3 rfl) ?_
      refine lv_aload_n hx hb dX4_settle_3 rfl (lv_at hl 1 rfl) ?_
      refine gC_X4_70_plan E hw dX4_settle_4 ?_
      refine lv_icmp_ge (tgt := 132) hx hb dX4_settle_7 (by decide) (fun c16 => ?_) (fun c16 => ?_)
      · have h := h.1 c16
        exact hret _ _ _ _ _ ⟨_, _, rfl, h⟩ hw dX4_settle_132
      · have h := h.2 c16
        refine lv_aload_n hx hb dX4_settle_10 rfl (lv_at hl 0 rfl) ?_
        refine gC_X4_21_sched E hw dX4_settle_11 ?_
        refine lv_if_eq (tgt := 132) hx hb dX4_settle_14 (by decide) (fun c17 => ?_) (fun c17 => ?_)
        · have h := h.1 c17
          exact hret _ _ _ _ _ ⟨_, _, rfl, h⟩ hw dX4_settle_132
        · have h := h.2 c17
          refine lv_aload_n hx hb dX4_settle_17 rfl (lv_at hl 0 rfl) ?_
          refine gC_X4_21_sched E hw dX4_settle_18 ?_
          refine lv_istore (lv' := [(4, .int f_sched_waiting), (0, .ref (ad 14)), (1, .ref (ad 29)), (2, .int p2), (3, .int x3)]) hx hb dX4_settle_21 hl (by decide) rfl (fun ls hl => ?_)
          refine lv_iconst (v := 0) hx hb dX4_settle_23 (by decide) ?_
          refine lv_istore (lv' := [(5, .int (0 : Int32)), (4, .int f_sched_waiting), (0, .ref (ad 14)), (1, .ref (ad 29)), (2, .int p2), (3, .int x3)]) hx hb dX4_settle_24 hl (by decide) rfl (fun ls hl => ?_)
          obtain ⟨n, h⟩ := h
          exact L26 n x3 f_sched_waiting (0 : Int32) f_sched_available f_sched_waiting _ _ _ h hw (lv_sub hl [2, 3, 4, 5, 1, 0] rfl)
  unfold wp_X4_settle at h
  refine lv_iconst (v := 0) hx hb dX4_settle_0 (by decide) ?_
  refine lv_istore_n (lv' := [(3, .int (0 : Int32)), (0, .ref (ad 14)), (1, .ref (ad 29)), (2, .int p2)]) hx hb dX4_settle_1 rfl hl (by decide) rfl (fun ls hl => ?_)
  obtain ⟨n, h⟩ := h
  exact L2 n (0 : Int32) f_sched_available f_sched_waiting _ _ _ h hw (lv_sub hl [1, 2, 3, 0] rfl)
set_option maxRecDepth 100000 in
set_option maxHeartbeats 4000000 in
theorem c_X4_offer {l : Launch} {D : va_G} {cI cZ : ClassId} {ad : Nat → Nat} {f_keptSlots : Int32} {f_trace : Nat → Int32} {f_lastSeed : Int64} {f_text_letters : Nat → Int32} {f_text_length : Int32} {f_reader_place : Int32} {f_reader_greatestSource : Int32} {f_plan_chips : Int32} {f_plan_firstPins : Int32} {f_plan_firstPlaces : Int32} {f_plan_gates : Int32} {f_plan_inputs : Int32} {f_plan_registers : Int32} {f_plan_slowRegisters : Int32} {f_plan_kinds : Nat → Int32} {f_plan_firsts : Nat → Int32} {f_plan_seconds : Nat → Int32} {f_plan_clocks : Nat → Int32} {f_plan_sourceSets : Nat → Int32} {f_spare_chips : Int32} {f_spare_firstPins : Int32} {f_spare_firstPlaces : Int32} {f_spare_gates : Int32} {f_spare_inputs : Int32} {f_spare_registers : Int32} {f_spare_slowRegisters : Int32} {f_spare_kinds : Nat → Int32} {f_spare_firsts : Nat → Int32} {f_spare_seconds : Nat → Int32} {f_spare_clocks : Nat → Int32} {f_spare_sourceSets : Nat → Int32} {f_now_ones : Int32} {f_now_unknowns : Int32} {f_now_places : Int32} {f_now_pins : Int32} {f_now_count : Int32} {f_copy_ones : Int32} {f_copy_unknowns : Int32} {f_copy_places : Int32} {f_copy_pins : Int32} {f_copy_count : Int32} {f_logic_ones : Int32} {f_logic_unknowns : Int32} {f_logic_settled : Int32} {f_sched_available : Nat → Int32} {f_sched_wanted : Nat → Int32} {f_sched_coming : Nat → Int32} {f_sched_waiting : Int32} {f_sched_taken : Int32} {f_sched_sent : Int32} {f_sched_lastSent : Int32} {f_hist_next : Int32} {f_hist_held : Int32} {f_ring_cells : Nat → Int32} {f_kept_cells : Nat → Int32} {f_sight_steps : Nat → Int32} {f_sight_gates : Nat → Int32} {f_sight_values : Nat → Int32} {f_sight_truths : Nat → Int32} {f_sight_held : Int32} {X : va_W} {p1 : Int32} {p2 : Int32} {p3 : Int32} {Q : Int32 → Prop} (h : wp_X4_offer f_sched_available f_sched_wanted p1 p2 p3 Q) : CtI l yX4_offer cX4_offer 4 (some .int) ({ frames := 1, cells := 0, slots := 0, locals := 23 } : Room) D [(cI, .int), (cZ, .boolean)] [.ref (ad 14), .int p1, .int p2, .int p3] (wC ad cI cZ f_keptSlots f_trace f_lastSeed f_text_letters f_text_length f_reader_place f_reader_greatestSource f_plan_chips f_plan_firstPins f_plan_firstPlaces f_plan_gates f_plan_inputs f_plan_registers f_plan_slowRegisters f_plan_kinds f_plan_firsts f_plan_seconds f_plan_clocks f_plan_sourceSets f_spare_chips f_spare_firstPins f_spare_firstPlaces f_spare_gates f_spare_inputs f_spare_registers f_spare_slowRegisters f_spare_kinds f_spare_firsts f_spare_seconds f_spare_clocks f_spare_sourceSets f_now_ones f_now_unknowns f_now_places f_now_pins f_now_count f_copy_ones f_copy_unknowns f_copy_places f_copy_pins f_copy_count f_logic_ones f_logic_unknowns f_logic_settled f_sched_available f_sched_wanted f_sched_coming f_sched_waiting f_sched_taken f_sched_sent f_sched_lastSent f_hist_next f_hist_held f_ring_cells f_kept_cells f_sight_steps f_sight_gates f_sight_values f_sight_truths f_sight_held X) (fun r u => u = (wC ad cI cZ f_keptSlots f_trace f_lastSeed f_text_letters f_text_length f_reader_place f_reader_greatestSource f_plan_chips f_plan_firstPins f_plan_firstPlaces f_plan_gates f_plan_inputs f_plan_registers f_plan_slowRegisters f_plan_kinds f_plan_firsts f_plan_seconds f_plan_clocks f_plan_sourceSets f_spare_chips f_spare_firstPins f_spare_firstPlaces f_spare_gates f_spare_inputs f_spare_registers f_spare_slowRegisters f_spare_kinds f_spare_firsts f_spare_seconds f_spare_clocks f_spare_sourceSets f_now_ones f_now_unknowns f_now_places f_now_pins f_now_count f_copy_ones f_copy_unknowns f_copy_places f_copy_pins f_copy_count f_logic_ones f_logic_unknowns f_logic_settled f_sched_available f_sched_wanted f_sched_coming f_sched_waiting f_sched_taken f_sched_sent f_sched_lastSent f_hist_next f_hist_held f_ring_cells f_kept_cells f_sight_steps f_sight_gates f_sight_values f_sight_truths f_sight_held X) ∧ Q r) := by
  refine CtI.of (by decide) rfl (Nat.le_of_ble_eq_true rfl) ?_
  intro p e s m args below meth c A Z E hret ls hl hw
  have E : gE p m c cX4_offer 4 s args RX4 D [(cI, .int), (cZ, .boolean)] A := E
  have hx := E.1.1
  have hb := E.1.2.1
  have hl : lv_has ls 4 [(0, .ref (ad 14)), (1, .int p1), (2, .int p2), (3, .int p3)] := hl
  unfold wp_X4_offer at h
  refine lv_aload_n hx hb dX4_offer_0 rfl (lv_at hl 0 rfl) ?_
  refine gC_X4_9_sched E hw dX4_offer_1 ?_
  refine lv_iload_n hx hb dX4_offer_4 rfl (lv_at hl 1 rfl) ?_
  refine g_aI E hw (g_rSN E hw (c_X9_cell (q0 := 13) rfl h _) ym_X9_cell km_22 ⟨rfl, rfl⟩ ⟨Nat.le_of_ble_eq_true rfl, Nat.le_of_ble_eq_true rfl⟩ rfl hl.1 rfl (Nat.le_of_ble_eq_true rfl) ⟨Nat.zero_le _, Nat.zero_le _⟩ dX4_offer_5) (fun r1 u H locs hq hw => ?_)
  obtain ⟨hu, h⟩ := hq
  rw [hu] at hw
  refine lv_aload_n hx hb dX4_offer_8 rfl (lv_at hl 0 rfl) ?_
  refine gC_X4_9_sched E hw dX4_offer_9 ?_
  refine lv_iload_n hx hb dX4_offer_12 rfl (lv_at hl 2 rfl) ?_
  refine g_aI E hw (g_rSN E hw (c_X9_cell (q0 := 13) rfl h _) ym_X9_cell km_22 ⟨rfl, rfl⟩ ⟨Nat.le_of_ble_eq_true rfl, Nat.le_of_ble_eq_true rfl⟩ rfl hl.1 rfl (Nat.le_of_ble_eq_true rfl) ⟨Nat.zero_le _, Nat.zero_le _⟩ dX4_offer_13) (fun r2 u H locs hq hw => ?_)
  obtain ⟨hu, h⟩ := hq
  rw [hu] at hw
  refine lv_iconst (v := -1) hx hb dX4_offer_16 (by decide) ?_
  refine lv_ixor hx hb dX4_offer_17 ?_
  refine lv_iand hx hb dX4_offer_18 ?_
  refine lv_aload_n hx hb dX4_offer_19 rfl (lv_at hl 0 rfl) ?_
  refine gC_X4_15_sched E hw dX4_offer_20 ?_
  refine lv_iload_n hx hb dX4_offer_23 rfl (lv_at hl 2 rfl) ?_
  refine g_aI E hw (g_rSN E hw (c_X9_cell (q0 := 12) rfl h _) ym_X9_cell km_22 ⟨rfl, rfl⟩ ⟨Nat.le_of_ble_eq_true rfl, Nat.le_of_ble_eq_true rfl⟩ rfl hl.1 rfl (Nat.le_of_ble_eq_true rfl) ⟨Nat.zero_le _, Nat.zero_le _⟩ dX4_offer_24) (fun r3 u H locs hq hw => ?_)
  obtain ⟨hu, h⟩ := hq
  rw [hu] at hw
  refine lv_iand hx hb dX4_offer_27 ?_
  refine lv_iload_n hx hb dX4_offer_28 rfl (lv_at hl 3 rfl) ?_
  refine g_aI E hw (g_rSN E hw (c_X9_lowestOf h _) ym_X9_lowestOf km_24 ⟨rfl, rfl⟩ ⟨Nat.le_of_ble_eq_true rfl, Nat.le_of_ble_eq_true rfl⟩ rfl hl.1 rfl (Nat.le_of_ble_eq_true rfl) ⟨Nat.zero_le _, Nat.zero_le _⟩ dX4_offer_29) (fun r4 u H locs hq hw => ?_)
  obtain ⟨hu, h⟩ := hq
  rw [hu] at hw
  exact hret _ _ _ _ _ _ ⟨rfl, h⟩ hw dX4_offer_32
set_option maxRecDepth 100000 in
set_option maxHeartbeats 4000000 in
theorem c_X4_sends_plan {l : Launch} {D : va_G} {cI cZ : ClassId} {ad : Nat → Nat} {f_keptSlots : Int32} {f_trace : Nat → Int32} {f_lastSeed : Int64} {f_text_letters : Nat → Int32} {f_text_length : Int32} {f_reader_place : Int32} {f_reader_greatestSource : Int32} {f_plan_chips : Int32} {f_plan_firstPins : Int32} {f_plan_firstPlaces : Int32} {f_plan_gates : Int32} {f_plan_inputs : Int32} {f_plan_registers : Int32} {f_plan_slowRegisters : Int32} {f_plan_kinds : Nat → Int32} {f_plan_firsts : Nat → Int32} {f_plan_seconds : Nat → Int32} {f_plan_clocks : Nat → Int32} {f_plan_sourceSets : Nat → Int32} {f_spare_chips : Int32} {f_spare_firstPins : Int32} {f_spare_firstPlaces : Int32} {f_spare_gates : Int32} {f_spare_inputs : Int32} {f_spare_registers : Int32} {f_spare_slowRegisters : Int32} {f_spare_kinds : Nat → Int32} {f_spare_firsts : Nat → Int32} {f_spare_seconds : Nat → Int32} {f_spare_clocks : Nat → Int32} {f_spare_sourceSets : Nat → Int32} {f_now_ones : Int32} {f_now_unknowns : Int32} {f_now_places : Int32} {f_now_pins : Int32} {f_now_count : Int32} {f_copy_ones : Int32} {f_copy_unknowns : Int32} {f_copy_places : Int32} {f_copy_pins : Int32} {f_copy_count : Int32} {f_logic_ones : Int32} {f_logic_unknowns : Int32} {f_logic_settled : Int32} {f_sched_available : Nat → Int32} {f_sched_wanted : Nat → Int32} {f_sched_coming : Nat → Int32} {f_sched_waiting : Int32} {f_sched_taken : Int32} {f_sched_sent : Int32} {f_sched_lastSent : Int32} {f_hist_next : Int32} {f_hist_held : Int32} {f_ring_cells : Nat → Int32} {f_kept_cells : Nat → Int32} {f_sight_steps : Nat → Int32} {f_sight_gates : Nat → Int32} {f_sight_values : Nat → Int32} {f_sight_truths : Nat → Int32} {f_sight_held : Int32} {X : va_W} {p2 : Int32} {Q : Int32 → (Nat → Int32) → (Nat → Int32) → Int32 → Int32 → Int32 → Prop} (h : wp_X4_sends f_sched_available f_sched_coming f_sched_lastSent f_sched_sent f_sched_taken f_sched_wanted f_plan_chips p2 Q) : CtI l yX4_sends cX4_sends 8 (some .boolean) ({ frames := 2, cells := 0, slots := 0, locals := 46 } : Room) D [(cI, .int), (cZ, .boolean)] [.ref (ad 14), .ref (ad 29), .int p2] (wC ad cI cZ f_keptSlots f_trace f_lastSeed f_text_letters f_text_length f_reader_place f_reader_greatestSource f_plan_chips f_plan_firstPins f_plan_firstPlaces f_plan_gates f_plan_inputs f_plan_registers f_plan_slowRegisters f_plan_kinds f_plan_firsts f_plan_seconds f_plan_clocks f_plan_sourceSets f_spare_chips f_spare_firstPins f_spare_firstPlaces f_spare_gates f_spare_inputs f_spare_registers f_spare_slowRegisters f_spare_kinds f_spare_firsts f_spare_seconds f_spare_clocks f_spare_sourceSets f_now_ones f_now_unknowns f_now_places f_now_pins f_now_count f_copy_ones f_copy_unknowns f_copy_places f_copy_pins f_copy_count f_logic_ones f_logic_unknowns f_logic_settled f_sched_available f_sched_wanted f_sched_coming f_sched_waiting f_sched_taken f_sched_sent f_sched_lastSent f_hist_next f_hist_held f_ring_cells f_kept_cells f_sight_steps f_sight_gates f_sight_values f_sight_truths f_sight_held X) (fun r u => ∃ w0 w1 w2 w3 w4, u = (wC ad cI cZ f_keptSlots f_trace f_lastSeed f_text_letters f_text_length f_reader_place f_reader_greatestSource f_plan_chips f_plan_firstPins f_plan_firstPlaces f_plan_gates f_plan_inputs f_plan_registers f_plan_slowRegisters f_plan_kinds f_plan_firsts f_plan_seconds f_plan_clocks f_plan_sourceSets f_spare_chips f_spare_firstPins f_spare_firstPlaces f_spare_gates f_spare_inputs f_spare_registers f_spare_slowRegisters f_spare_kinds f_spare_firsts f_spare_seconds f_spare_clocks f_spare_sourceSets f_now_ones f_now_unknowns f_now_places f_now_pins f_now_count f_copy_ones f_copy_unknowns f_copy_places f_copy_pins f_copy_count f_logic_ones f_logic_unknowns f_logic_settled w0 f_sched_wanted w1 f_sched_waiting w4 w3 w2 f_hist_next f_hist_held f_ring_cells f_kept_cells f_sight_steps f_sight_gates f_sight_values f_sight_truths f_sight_held X) ∧ Q r w0 w1 w2 w3 w4) := by
  refine CtI.ofZ (by decide) rfl (Nat.le_of_ble_eq_true rfl) ?_
  intro p e s m args below meth c A Z E hret ls hl hw
  have E : gE p m c cX4_sends 8 s args RX4 D [(cI, .int), (cZ, .boolean)] A := E
  have hx := E.1.1
  have hb := E.1.2.1
  have hl : lv_has ls 8 [(0, .ref (ad 14)), (1, .ref (ad 29)), (2, .int p2)] := hl
  have J207 : ∀ (x4 : Int32) (f_sched_available : Nat → Int32) (f_sched_coming : Nat → Int32) (f_sched_lastSent : Int32) (f_sched_sent : Int32) (f_sched_taken : Int32) (H : Heap) (locs : List Loc) (ls : Array Slot), wp_X4_sends_b207 f_sched_wanted f_plan_chips p2 Q  x4 f_sched_available f_sched_coming f_sched_lastSent f_sched_sent f_sched_taken → gW D s A (wC ad cI cZ f_keptSlots f_trace f_lastSeed f_text_letters f_text_length f_reader_place f_reader_greatestSource f_plan_chips f_plan_firstPins f_plan_firstPlaces f_plan_gates f_plan_inputs f_plan_registers f_plan_slowRegisters f_plan_kinds f_plan_firsts f_plan_seconds f_plan_clocks f_plan_sourceSets f_spare_chips f_spare_firstPins f_spare_firstPlaces f_spare_gates f_spare_inputs f_spare_registers f_spare_slowRegisters f_spare_kinds f_spare_firsts f_spare_seconds f_spare_clocks f_spare_sourceSets f_now_ones f_now_unknowns f_now_places f_now_pins f_now_count f_copy_ones f_copy_unknowns f_copy_places f_copy_pins f_copy_count f_logic_ones f_logic_unknowns f_logic_settled f_sched_available f_sched_wanted f_sched_coming f_sched_waiting f_sched_taken f_sched_sent f_sched_lastSent f_hist_next f_hist_held f_ring_cells f_kept_cells f_sight_steps f_sight_gates f_sight_values f_sight_truths f_sight_held X) H locs → lv_has ls 8 [(4, .int x4)] → W p l e ({ frames := 2, cells := 0, slots := 0, locals := 46 } : Room) s m args below meth c H locs 0 0 Z (F0 m 207 ls []) := by
    intro x4 f_sched_available f_sched_coming f_sched_lastSent f_sched_sent f_sched_taken H locs ls h hw hl
    unfold wp_X4_sends_b207 at h
    refine lv_iload hx hb dX4_sends_207 (lv_at hl 0 rfl) ?_
    refine lv_if_le (tgt := 216) hx hb dX4_sends_209 (by decide) (fun c1 => ?_) (fun c1 => ?_)
    · have h := h.1 c1
      refine lv_iconst (v := 0) hx hb dX4_sends_216 (by decide) ?_
      exact hret _ _ _ _ _ _ (Or.inl rfl) ⟨_, _, _, _, _, rfl, h⟩ hw dX4_sends_217
    · have h := h.2 c1
      refine lv_iconst (v := 1) hx hb dX4_sends_212 (by decide) ?_
      refine lv_goto (tgt := 217) hx hb dX4_sends_213 (by decide) ?_
      exact hret _ _ _ _ _ _ (Or.inr rfl) ⟨_, _, _, _, _, rfl, h⟩ hw dX4_sends_217
  have L147 : ∀ (n : Nat) (x3 : Int32) (x4 : Int32) (x5 : Int32) (f_sched_available : Nat → Int32) (f_sched_coming : Nat → Int32) (f_sched_lastSent : Int32) (f_sched_sent : Int32) (f_sched_taken : Int32) (H : Heap) (locs : List Loc) (ls : Array Slot), wp_X4_sends_h147 f_sched_wanted f_plan_chips p2 Q  n x3 x4 x5 f_sched_available f_sched_coming f_sched_lastSent f_sched_sent f_sched_taken → gW D s A (wC ad cI cZ f_keptSlots f_trace f_lastSeed f_text_letters f_text_length f_reader_place f_reader_greatestSource f_plan_chips f_plan_firstPins f_plan_firstPlaces f_plan_gates f_plan_inputs f_plan_registers f_plan_slowRegisters f_plan_kinds f_plan_firsts f_plan_seconds f_plan_clocks f_plan_sourceSets f_spare_chips f_spare_firstPins f_spare_firstPlaces f_spare_gates f_spare_inputs f_spare_registers f_spare_slowRegisters f_spare_kinds f_spare_firsts f_spare_seconds f_spare_clocks f_spare_sourceSets f_now_ones f_now_unknowns f_now_places f_now_pins f_now_count f_copy_ones f_copy_unknowns f_copy_places f_copy_pins f_copy_count f_logic_ones f_logic_unknowns f_logic_settled f_sched_available f_sched_wanted f_sched_coming f_sched_waiting f_sched_taken f_sched_sent f_sched_lastSent f_hist_next f_hist_held f_ring_cells f_kept_cells f_sight_steps f_sight_gates f_sight_values f_sight_truths f_sight_held X) H locs → lv_has ls 8 [(0, .ref (ad 14)), (3, .int x3), (4, .int x4), (5, .int x5)] → W p l e ({ frames := 2, cells := 0, slots := 0, locals := 46 } : Room) s m args below meth c H locs 0 0 Z (F0 m 147 ls []) := by
    intro n
    induction n with
    | zero => intro x3 x4 x5 f_sched_available f_sched_coming f_sched_lastSent f_sched_sent f_sched_taken H locs ls h; exact False.elim h
    | succ n147 ih147 =>
      intro x3 x4 x5 f_sched_available f_sched_coming f_sched_lastSent f_sched_sent f_sched_taken H locs ls h hw hl
      have h : wp_X4_sends_b147 f_sched_wanted f_plan_chips p2 Q (wp_X4_sends_h147 f_sched_wanted f_plan_chips p2 Q  n147) x3 x4 x5 f_sched_available f_sched_coming f_sched_lastSent f_sched_sent f_sched_taken := h
      unfold wp_X4_sends_b147 at h
      refine lv_iload hx hb dX4_sends_147 (lv_at hl 3 rfl) ?_
      refine lv_iconst (v := 4) hx hb dX4_sends_149 (by decide) ?_
      refine lv_icmp_ge (tgt := 176) hx hb dX4_sends_150 (by decide) (fun c2 => ?_) (fun c2 => ?_)
      · have h := h.1 c2
        refine lv_iload hx hb dX4_sends_176 (lv_at hl 2 rfl) ?_
        refine lv_if_le (tgt := 207) hx hb dX4_sends_178 (by decide) (fun c3 => ?_) (fun c3 => ?_)
        · have h := h.1 c3
          exact J207 x4 f_sched_available f_sched_coming f_sched_lastSent f_sched_sent f_sched_taken _ _ _ h hw (lv_sub hl [2] rfl)
        · have h := h.2 c3
          refine lv_aload_n hx hb dX4_sends_181 rfl (lv_at hl 0 rfl) ?_
          refine lv_dup hx hb dX4_sends_182 rfl ?_
          refine gC_X4_25_sched E hw dX4_sends_183 ?_
          refine lv_iconst (v := 1) hx hb dX4_sends_186 (by decide) ?_
          refine lv_iadd hx hb dX4_sends_187 ?_
          refine lv_topi (fun v4 ev4 => ?_)
          have h := h v4 ev4
          refine pC_X4_25_sched E hw dX4_sends_188 (fun H locs hw => ?_)
          refine lv_aload_n hx hb dX4_sends_191 rfl (lv_at hl 0 rfl) ?_
          refine lv_dup hx hb dX4_sends_192 rfl ?_
          refine gC_X4_28_sched E hw dX4_sends_193 ?_
          refine lv_iload hx hb dX4_sends_196 (lv_at hl 2 rfl) ?_
          refine lv_iadd hx hb dX4_sends_198 ?_
          refine lv_topi (fun v5 ev5 => ?_)
          have h := h v5 ev5
          refine pC_X4_28_sched E hw dX4_sends_199 (fun H locs hw => ?_)
          refine lv_aload_n hx hb dX4_sends_202 rfl (lv_at hl 0 rfl) ?_
          refine lv_iload_n hx hb dX4_sends_203 rfl (lv_at hl 1 rfl) ?_
          refine pC_X4_31_sched E hw dX4_sends_204 (fun H locs hw => ?_)
          exact J207 x4 f_sched_available f_sched_coming x3 v5 v4 _ _ _ h hw (lv_sub hl [2] rfl)
      · have h := h.2 c2
        refine lv_aload_n hx hb dX4_sends_153 rfl (lv_at hl 0 rfl) ?_
        refine gC_X4_9_sched E hw dX4_sends_154 ?_
        refine lv_iload hx hb dX4_sends_157 (lv_at hl 3 rfl) ?_
        refine lv_dup2_11 hx hb dX4_sends_159 rfl rfl ?_
        refine lC_sched_available E hw h.1 dX4_sends_160 ?_
        have h := h.2
        refine lv_aload_n hx hb dX4_sends_161 rfl (lv_at hl 0 rfl) ?_
        refine gC_X4_18_sched E hw dX4_sends_162 ?_
        refine lv_iload hx hb dX4_sends_165 (lv_at hl 3 rfl) ?_
        refine lC_sched_coming E hw h.1 dX4_sends_167 ?_
        have h := h.2
        refine lv_ior hx hb dX4_sends_168 ?_
        refine lv_topi (fun v6 ev6 => ?_)
        have h := h v6 ev6
        refine sC_sched_available E hw h.1 dX4_sends_169 (fun y7 ey7 H locs hw => ?_)
        have h := h.2 y7 ey7
        obtain ⟨v8, ev8⟩ : ∃ y : Int32, y = x5 + 1 := ⟨_, rfl⟩
        have h := h v8 ev8
        refine lv_iinc (v := v8) (lv' := [(5, .int v8), (0, .ref (ad 14)), (3, .int x3), (4, .int x4)]) hx hb dX4_sends_170 hl (k := 3) rfl (by rw [ev8]; rfl) (by decide) rfl (fun ls hl => ?_)
        refine lv_goto (tgt := 147) hx hb dX4_sends_173 (by decide) ?_
        exact ih147 x3 x4 v8 y7 f_sched_coming f_sched_lastSent f_sched_sent f_sched_taken _ _ _ h hw (lv_sub hl [1, 2, 3, 0] rfl)
  have L31 : ∀ (n : Nat) (x3 : Int32) (x4 : Int32) (x5 : Int32) (f_sched_available : Nat → Int32) (f_sched_coming : Nat → Int32) (f_sched_lastSent : Int32) (f_sched_sent : Int32) (f_sched_taken : Int32) (H : Heap) (locs : List Loc) (ls : Array Slot), wp_X4_sends_h31 f_sched_wanted f_plan_chips p2 Q  n x3 x4 x5 f_sched_available f_sched_coming f_sched_lastSent f_sched_sent f_sched_taken → gW D s A (wC ad cI cZ f_keptSlots f_trace f_lastSeed f_text_letters f_text_length f_reader_place f_reader_greatestSource f_plan_chips f_plan_firstPins f_plan_firstPlaces f_plan_gates f_plan_inputs f_plan_registers f_plan_slowRegisters f_plan_kinds f_plan_firsts f_plan_seconds f_plan_clocks f_plan_sourceSets f_spare_chips f_spare_firstPins f_spare_firstPlaces f_spare_gates f_spare_inputs f_spare_registers f_spare_slowRegisters f_spare_kinds f_spare_firsts f_spare_seconds f_spare_clocks f_spare_sourceSets f_now_ones f_now_unknowns f_now_places f_now_pins f_now_count f_copy_ones f_copy_unknowns f_copy_places f_copy_pins f_copy_count f_logic_ones f_logic_unknowns f_logic_settled f_sched_available f_sched_wanted f_sched_coming f_sched_waiting f_sched_taken f_sched_sent f_sched_lastSent f_hist_next f_hist_held f_ring_cells f_kept_cells f_sight_steps f_sight_gates f_sight_values f_sight_truths f_sight_held X) H locs → lv_has ls 8 [(0, .ref (ad 14)), (1, .ref (ad 29)), (2, .int p2), (3, .int x3), (4, .int x4), (5, .int x5)] → W p l e ({ frames := 2, cells := 0, slots := 0, locals := 46 } : Room) s m args below meth c H locs 0 0 Z (F0 m 31 ls []) := by
    intro n
    induction n with
    | zero => intro x3 x4 x5 f_sched_available f_sched_coming f_sched_lastSent f_sched_sent f_sched_taken H locs ls h; exact False.elim h
    | succ n31 ih31 =>
      intro x3 x4 x5 f_sched_available f_sched_coming f_sched_lastSent f_sched_sent f_sched_taken H locs ls h hw hl
      have h : wp_X4_sends_b31 f_sched_wanted f_plan_chips p2 Q (wp_X4_sends_h31 f_sched_wanted f_plan_chips p2 Q  n31) x3 x4 x5 f_sched_available f_sched_coming f_sched_lastSent f_sched_sent f_sched_taken := h
      unfold wp_X4_sends_b31 at h
      refine lv_iload hx hb dX4_sends_31 (lv_at hl 5 rfl) ?_
      refine lv_iconst (v := 1) hx hb dX4_sends_33 (by decide) ?_
      refine lv_iadd hx hb dX4_sends_34 ?_
      refine lv_aload_n hx hb dX4_sends_35 rfl (lv_at hl 1 rfl) ?_
      refine gC_X4_102_plan E hw dX4_sends_36 ?_
      refine lv_icmp_ge (tgt := 144) hx hb dX4_sends_39 (by decide) (fun c9 => ?_) (fun c9 => ?_)
      · have h := h.1 c9
        refine lv_iconst (v := 0) hx hb dX4_sends_144 (by decide) ?_
        refine lv_istore (lv' := [(5, .int (0 : Int32)), (0, .ref (ad 14)), (1, .ref (ad 29)), (2, .int p2), (3, .int x3), (4, .int x4)]) hx hb dX4_sends_145 hl (by decide) rfl (fun ls hl => ?_)
        obtain ⟨n, h⟩ := h
        exact L147 n x3 x4 (0 : Int32) f_sched_available f_sched_coming f_sched_lastSent f_sched_sent f_sched_taken _ _ _ h hw (lv_sub hl [1, 4, 5, 0] rfl)
      · have h := h.2 c9
        refine lv_aload_n hx hb dX4_sends_42 rfl (lv_at hl 0 rfl) ?_
        refine lv_iload hx hb dX4_sends_43 (lv_at hl 5 rfl) ?_
        refine lv_iload hx hb dX4_sends_45 (lv_at hl 5 rfl) ?_
        refine lv_iconst (v := 1) hx hb dX4_sends_47 (by decide) ?_
        refine lv_iadd hx hb dX4_sends_48 ?_
        refine lv_iload_n hx hb dX4_sends_49 rfl (lv_at hl 2 rfl) ?_
        refine g_aI E hw (g_rV E hw (c_X4_offer h _) ym_X4_offer k_439 ⟨rfl, rfl⟩ ⟨Nat.le_of_ble_eq_true rfl, Nat.le_of_ble_eq_true rfl⟩ 14 rfl rfl rfl rfl hl.1 rfl (Nat.le_of_ble_eq_true rfl) ⟨Nat.zero_le _, Nat.zero_le _⟩ dX4_sends_50) (fun r10 u H locs hq hw => ?_)
        obtain ⟨hu, h⟩ := hq
        rw [hu] at hw
        refine lv_istore (lv' := [(6, .int r10), (0, .ref (ad 14)), (1, .ref (ad 29)), (2, .int p2), (3, .int x3), (4, .int x4), (5, .int x5)]) hx hb dX4_sends_53 hl (by decide) rfl (fun ls hl => ?_)
        refine lv_aload_n hx hb dX4_sends_55 rfl (lv_at hl 1 rfl) ?_
        refine lv_iload hx hb dX4_sends_56 (lv_at hl 6 rfl) ?_
        refine lv_iconst (v := 1) hx hb dX4_sends_58 (by decide) ?_
        refine lv_iadd hx hb dX4_sends_59 ?_
        refine lv_iload hx hb dX4_sends_60 (lv_at hl 6 rfl) ?_
        refine lv_iload_n hx hb dX4_sends_62 rfl (lv_at hl 3 rfl) ?_
        refine g_aI E hw (g_rV E hw (c_X4_offer h _) ym_X4_offer k_439 ⟨rfl, rfl⟩ ⟨Nat.le_of_ble_eq_true rfl, Nat.le_of_ble_eq_true rfl⟩ 14 rfl rfl rfl rfl hl.1 rfl (Nat.le_of_ble_eq_true rfl) ⟨Nat.zero_le _, Nat.zero_le _⟩ dX4_sends_63) (fun r11 u H locs hq hw => ?_)
        obtain ⟨hu, h⟩ := hq
        rw [hu] at hw
        refine lv_istore (lv' := [(7, .int r11), (6, .int r10), (0, .ref (ad 14)), (1, .ref (ad 29)), (2, .int p2), (3, .int x3), (4, .int x4), (5, .int x5)]) hx hb dX4_sends_66 hl (by decide) rfl (fun ls hl => ?_)
        refine lv_aload_n hx hb dX4_sends_68 rfl (lv_at hl 2 rfl) ?_
        refine gC_X4_18_sched E hw dX4_sends_69 ?_
        refine lv_iload hx hb dX4_sends_72 (lv_at hl 7 rfl) ?_
        refine lv_iconst (v := 1) hx hb dX4_sends_74 (by decide) ?_
        refine lv_iadd hx hb dX4_sends_75 ?_
        refine lv_aload_n hx hb dX4_sends_76 rfl (lv_at hl 2 rfl) ?_
        refine gC_X4_18_sched E hw dX4_sends_77 ?_
        refine lv_iload hx hb dX4_sends_80 (lv_at hl 7 rfl) ?_
        refine lv_iconst (v := 1) hx hb dX4_sends_82 (by decide) ?_
        refine lv_iadd hx hb dX4_sends_83 ?_
        refine g_aI E hw (g_rSN E hw (c_X9_cell (q0 := 11) rfl h _) ym_X9_cell km_22 ⟨rfl, rfl⟩ ⟨Nat.le_of_ble_eq_true rfl, Nat.le_of_ble_eq_true rfl⟩ rfl hl.1 rfl (Nat.le_of_ble_eq_true rfl) ⟨Nat.zero_le _, Nat.zero_le _⟩ dX4_sends_84) (fun r12 u H locs hq hw => ?_)
        obtain ⟨hu, h⟩ := hq
        rw [hu] at hw
        refine lv_iload hx hb dX4_sends_87 (lv_at hl 1 rfl) ?_
        refine lv_ior hx hb dX4_sends_89 ?_
        refine g_aV E hw (g_rSN E hw (c_X9_setCell (q0 := 11) rfl h _) ym_X9_setCell km_23 ⟨rfl, rfl⟩ ⟨Nat.le_of_ble_eq_true rfl, Nat.le_of_ble_eq_true rfl⟩ rfl hl.1 rfl (Nat.le_of_ble_eq_true rfl) ⟨Nat.zero_le _, Nat.zero_le _⟩ dX4_sends_90) (fun u H locs hq hw => ?_)
        obtain ⟨y14, hu, h⟩ := hq
        rw [hu] at hw
        have hw : gW D s A (wC ad cI cZ f_keptSlots f_trace f_lastSeed f_text_letters f_text_length f_reader_place f_reader_greatestSource f_plan_chips f_plan_firstPins f_plan_firstPlaces f_plan_gates f_plan_inputs f_plan_registers f_plan_slowRegisters f_plan_kinds f_plan_firsts f_plan_seconds f_plan_clocks f_plan_sourceSets f_spare_chips f_spare_firstPins f_spare_firstPlaces f_spare_gates f_spare_inputs f_spare_registers f_spare_slowRegisters f_spare_kinds f_spare_firsts f_spare_seconds f_spare_clocks f_spare_sourceSets f_now_ones f_now_unknowns f_now_places f_now_pins f_now_count f_copy_ones f_copy_unknowns f_copy_places f_copy_pins f_copy_count f_logic_ones f_logic_unknowns f_logic_settled f_sched_available f_sched_wanted y14 f_sched_waiting f_sched_taken f_sched_sent f_sched_lastSent f_hist_next f_hist_held f_ring_cells f_kept_cells f_sight_steps f_sight_gates f_sight_values f_sight_truths f_sight_held X) _ _ := hw
        refine lv_aload_n hx hb dX4_sends_93 rfl (lv_at hl 2 rfl) ?_
        refine gC_X4_18_sched E hw dX4_sends_94 ?_
        refine lv_iload hx hb dX4_sends_97 (lv_at hl 7 rfl) ?_
        refine lv_aload_n hx hb dX4_sends_99 rfl (lv_at hl 2 rfl) ?_
        refine gC_X4_18_sched E hw dX4_sends_100 ?_
        refine lv_iload hx hb dX4_sends_103 (lv_at hl 7 rfl) ?_
        refine g_aI E hw (g_rSN E hw (c_X9_cell (q0 := 11) rfl h _) ym_X9_cell km_22 ⟨rfl, rfl⟩ ⟨Nat.le_of_ble_eq_true rfl, Nat.le_of_ble_eq_true rfl⟩ rfl hl.1 rfl (Nat.le_of_ble_eq_true rfl) ⟨Nat.zero_le _, Nat.zero_le _⟩ dX4_sends_105) (fun r15 u H locs hq hw => ?_)
        obtain ⟨hu, h⟩ := hq
        rw [hu] at hw
        refine lv_iload hx hb dX4_sends_108 (lv_at hl 0 rfl) ?_
        refine lv_ior hx hb dX4_sends_110 ?_
        refine g_aV E hw (g_rSN E hw (c_X9_setCell (q0 := 11) rfl h _) ym_X9_setCell km_23 ⟨rfl, rfl⟩ ⟨Nat.le_of_ble_eq_true rfl, Nat.le_of_ble_eq_true rfl⟩ rfl hl.1 rfl (Nat.le_of_ble_eq_true rfl) ⟨Nat.zero_le _, Nat.zero_le _⟩ dX4_sends_111) (fun u H locs hq hw => ?_)
        obtain ⟨y17, hu, h⟩ := hq
        rw [hu] at hw
        have hw : gW D s A (wC ad cI cZ f_keptSlots f_trace f_lastSeed f_text_letters f_text_length f_reader_place f_reader_greatestSource f_plan_chips f_plan_firstPins f_plan_firstPlaces f_plan_gates f_plan_inputs f_plan_registers f_plan_slowRegisters f_plan_kinds f_plan_firsts f_plan_seconds f_plan_clocks f_plan_sourceSets f_spare_chips f_spare_firstPins f_spare_firstPlaces f_spare_gates f_spare_inputs f_spare_registers f_spare_slowRegisters f_spare_kinds f_spare_firsts f_spare_seconds f_spare_clocks f_spare_sourceSets f_now_ones f_now_unknowns f_now_places f_now_pins f_now_count f_copy_ones f_copy_unknowns f_copy_places f_copy_pins f_copy_count f_logic_ones f_logic_unknowns f_logic_settled f_sched_available f_sched_wanted y17 f_sched_waiting f_sched_taken f_sched_sent f_sched_lastSent f_hist_next f_hist_held f_ring_cells f_kept_cells f_sight_steps f_sight_gates f_sight_values f_sight_truths f_sight_held X) _ _ := hw
        refine lv_iload_n hx hb dX4_sends_114 rfl (lv_at hl 5 rfl) ?_
        refine lv_iload hx hb dX4_sends_115 (lv_at hl 1 rfl) ?_
        refine lv_iload hx hb dX4_sends_117 (lv_at hl 0 rfl) ?_
        refine lv_ior hx hb dX4_sends_119 ?_
        refine lv_ior hx hb dX4_sends_120 ?_
        refine lv_topi (fun v18 ev18 => ?_)
        have h := h v18 ev18
        refine lv_istore_n (lv' := [(3, .int v18), (7, .int r11), (6, .int r10), (0, .ref (ad 14)), (1, .ref (ad 29)), (2, .int p2), (4, .int x4), (5, .int x5)]) hx hb dX4_sends_121 rfl hl (by decide) rfl (fun ls hl => ?_)
        refine lv_iload hx hb dX4_sends_122 (lv_at hl 6 rfl) ?_
        refine lv_iload hx hb dX4_sends_124 (lv_at hl 2 rfl) ?_
        refine g_aI E hw (g_rS E hw (c_J6_bitCount_0f7a4 h _) ym_J6_bitCount_0f7a4 k_444 ⟨rfl, rfl⟩ ⟨Nat.le_of_ble_eq_true rfl, Nat.le_of_ble_eq_true rfl⟩ rfl hl.1 rfl (Nat.le_of_ble_eq_true rfl) ⟨Nat.zero_le _, Nat.zero_le _⟩ dX4_sends_126) (fun r19 u H locs hq hw => ?_)
        obtain ⟨hu, h⟩ := hq
        rw [hu] at hw
        refine lv_iload hx hb dX4_sends_129 (lv_at hl 1 rfl) ?_
        refine g_aI E hw (g_rS E hw (c_J6_bitCount_0f7a4 h _) ym_J6_bitCount_0f7a4 k_444 ⟨rfl, rfl⟩ ⟨Nat.le_of_ble_eq_true rfl, Nat.le_of_ble_eq_true rfl⟩ rfl hl.1 rfl (Nat.le_of_ble_eq_true rfl) ⟨Nat.zero_le _, Nat.zero_le _⟩ dX4_sends_131) (fun r20 u H locs hq hw => ?_)
        obtain ⟨hu, h⟩ := hq
        rw [hu] at hw
        refine lv_iadd hx hb dX4_sends_134 ?_
        refine lv_iadd hx hb dX4_sends_135 ?_
        refine lv_topi (fun v21 ev21 => ?_)
        have h := h v21 ev21
        refine lv_istore (lv' := [(4, .int v21), (3, .int v18), (7, .int r11), (6, .int r10), (0, .ref (ad 14)), (1, .ref (ad 29)), (2, .int p2), (5, .int x5)]) hx hb dX4_sends_136 hl (by decide) rfl (fun ls hl => ?_)
        obtain ⟨v22, ev22⟩ : ∃ y : Int32, y = x5 + 1 := ⟨_, rfl⟩
        have h := h v22 ev22
        refine lv_iinc (v := v22) (lv' := [(5, .int v22), (4, .int v21), (3, .int v18), (7, .int r11), (6, .int r10), (0, .ref (ad 14)), (1, .ref (ad 29)), (2, .int p2)]) hx hb dX4_sends_138 hl (k := 7) rfl (by rw [ev22]; rfl) (by decide) rfl (fun ls hl => ?_)
        refine lv_goto (tgt := 31) hx hb dX4_sends_141 (by decide) ?_
        exact ih31 v18 v21 v22 f_sched_available y17 f_sched_lastSent f_sched_sent f_sched_taken _ _ _ h hw (lv_sub hl [5, 6, 7, 2, 1, 0] rfl)
  have L8 : ∀ (n : Nat) (x3 : Int32) (x4 : Int32) (x5 : Int32) (f_sched_available : Nat → Int32) (f_sched_coming : Nat → Int32) (f_sched_lastSent : Int32) (f_sched_sent : Int32) (f_sched_taken : Int32) (H : Heap) (locs : List Loc) (ls : Array Slot), wp_X4_sends_h8 f_sched_wanted f_plan_chips p2 Q  n x3 x4 x5 f_sched_available f_sched_coming f_sched_lastSent f_sched_sent f_sched_taken → gW D s A (wC ad cI cZ f_keptSlots f_trace f_lastSeed f_text_letters f_text_length f_reader_place f_reader_greatestSource f_plan_chips f_plan_firstPins f_plan_firstPlaces f_plan_gates f_plan_inputs f_plan_registers f_plan_slowRegisters f_plan_kinds f_plan_firsts f_plan_seconds f_plan_clocks f_plan_sourceSets f_spare_chips f_spare_firstPins f_spare_firstPlaces f_spare_gates f_spare_inputs f_spare_registers f_spare_slowRegisters f_spare_kinds f_spare_firsts f_spare_seconds f_spare_clocks f_spare_sourceSets f_now_ones f_now_unknowns f_now_places f_now_pins f_now_count f_copy_ones f_copy_unknowns f_copy_places f_copy_pins f_copy_count f_logic_ones f_logic_unknowns f_logic_settled f_sched_available f_sched_wanted f_sched_coming f_sched_waiting f_sched_taken f_sched_sent f_sched_lastSent f_hist_next f_hist_held f_ring_cells f_kept_cells f_sight_steps f_sight_gates f_sight_values f_sight_truths f_sight_held X) H locs → lv_has ls 8 [(0, .ref (ad 14)), (1, .ref (ad 29)), (2, .int p2), (3, .int x3), (4, .int x4), (5, .int x5)] → W p l e ({ frames := 2, cells := 0, slots := 0, locals := 46 } : Room) s m args below meth c H locs 0 0 Z (F0 m 8 ls []) := by
    intro n
    induction n with
    | zero => intro x3 x4 x5 f_sched_available f_sched_coming f_sched_lastSent f_sched_sent f_sched_taken H locs ls h; exact False.elim h
    | succ n8 ih8 =>
      intro x3 x4 x5 f_sched_available f_sched_coming f_sched_lastSent f_sched_sent f_sched_taken H locs ls h hw hl
      have h : wp_X4_sends_b8 f_sched_wanted f_plan_chips p2 Q (wp_X4_sends_h8 f_sched_wanted f_plan_chips p2 Q  n8) x3 x4 x5 f_sched_available f_sched_coming f_sched_lastSent f_sched_sent f_sched_taken := h
      unfold wp_X4_sends_b8 at h
      refine lv_iload hx hb dX4_sends_8 (lv_at hl 5 rfl) ?_
      refine lv_iconst (v := 4) hx hb dX4_sends_10 (by decide) ?_
      refine lv_icmp_ge (tgt := 28) hx hb dX4_sends_11 (by decide) (fun c23 => ?_) (fun c23 => ?_)
      · have h := h.1 c23
        refine lv_iconst (v := 0) hx hb dX4_sends_28 (by decide) ?_
        refine lv_istore (lv' := [(5, .int (0 : Int32)), (0, .ref (ad 14)), (1, .ref (ad 29)), (2, .int p2), (3, .int x3), (4, .int x4)]) hx hb dX4_sends_29 hl (by decide) rfl (fun ls hl => ?_)
        obtain ⟨n, h⟩ := h
        exact L31 n x3 x4 (0 : Int32) f_sched_available f_sched_coming f_sched_lastSent f_sched_sent f_sched_taken _ _ _ h hw (lv_sub hl [1, 2, 3, 4, 5, 0] rfl)
      · have h := h.2 c23
        refine lv_aload_n hx hb dX4_sends_14 rfl (lv_at hl 0 rfl) ?_
        refine gC_X4_18_sched E hw dX4_sends_15 ?_
        refine lv_iload hx hb dX4_sends_18 (lv_at hl 5 rfl) ?_
        refine lv_iconst (v := 0) hx hb dX4_sends_20 (by decide) ?_
        refine sC_sched_coming E hw h.1 dX4_sends_21 (fun y24 ey24 H locs hw => ?_)
        have h := h.2 y24 ey24
        obtain ⟨v25, ev25⟩ : ∃ y : Int32, y = x5 + 1 := ⟨_, rfl⟩
        have h := h v25 ev25
        refine lv_iinc (v := v25) (lv' := [(5, .int v25), (0, .ref (ad 14)), (1, .ref (ad 29)), (2, .int p2), (3, .int x3), (4, .int x4)]) hx hb dX4_sends_22 hl (k := 5) rfl (by rw [ev25]; rfl) (by decide) rfl (fun ls hl => ?_)
        refine lv_goto (tgt := 8) hx hb dX4_sends_25 (by decide) ?_
        exact ih8 x3 x4 v25 f_sched_available y24 f_sched_lastSent f_sched_sent f_sched_taken _ _ _ h hw (lv_sub hl [1, 2, 3, 4, 5, 0] rfl)
  unfold wp_X4_sends at h
  refine lv_iconst (v := 0) hx hb dX4_sends_0 (by decide) ?_
  refine lv_istore_n (lv' := [(3, .int (0 : Int32)), (0, .ref (ad 14)), (1, .ref (ad 29)), (2, .int p2)]) hx hb dX4_sends_1 rfl hl (by decide) rfl (fun ls hl => ?_)
  refine lv_iconst (v := 0) hx hb dX4_sends_2 (by decide) ?_
  refine lv_istore (lv' := [(4, .int (0 : Int32)), (3, .int (0 : Int32)), (0, .ref (ad 14)), (1, .ref (ad 29)), (2, .int p2)]) hx hb dX4_sends_3 hl (by decide) rfl (fun ls hl => ?_)
  refine lv_iconst (v := 0) hx hb dX4_sends_5 (by decide) ?_
  refine lv_istore (lv' := [(5, .int (0 : Int32)), (4, .int (0 : Int32)), (3, .int (0 : Int32)), (0, .ref (ad 14)), (1, .ref (ad 29)), (2, .int p2)]) hx hb dX4_sends_6 hl (by decide) rfl (fun ls hl => ?_)
  obtain ⟨n, h⟩ := h
  exact L8 n (0 : Int32) (0 : Int32) (0 : Int32) f_sched_available f_sched_coming f_sched_lastSent f_sched_sent f_sched_taken _ _ _ h hw (lv_sub hl [3, 4, 5, 2, 1, 0] rfl)
set_option maxRecDepth 100000 in
set_option maxHeartbeats 4000000 in
theorem c_X4_markWanted {l : Launch} {D : va_G} {cI cZ : ClassId} {ad : Nat → Nat} {f_keptSlots : Int32} {f_trace : Nat → Int32} {f_lastSeed : Int64} {f_text_letters : Nat → Int32} {f_text_length : Int32} {f_reader_place : Int32} {f_reader_greatestSource : Int32} {f_plan_chips : Int32} {f_plan_firstPins : Int32} {f_plan_firstPlaces : Int32} {f_plan_gates : Int32} {f_plan_inputs : Int32} {f_plan_registers : Int32} {f_plan_slowRegisters : Int32} {f_plan_kinds : Nat → Int32} {f_plan_firsts : Nat → Int32} {f_plan_seconds : Nat → Int32} {f_plan_clocks : Nat → Int32} {f_plan_sourceSets : Nat → Int32} {f_spare_chips : Int32} {f_spare_firstPins : Int32} {f_spare_firstPlaces : Int32} {f_spare_gates : Int32} {f_spare_inputs : Int32} {f_spare_registers : Int32} {f_spare_slowRegisters : Int32} {f_spare_kinds : Nat → Int32} {f_spare_firsts : Nat → Int32} {f_spare_seconds : Nat → Int32} {f_spare_clocks : Nat → Int32} {f_spare_sourceSets : Nat → Int32} {f_now_ones : Int32} {f_now_unknowns : Int32} {f_now_places : Int32} {f_now_pins : Int32} {f_now_count : Int32} {f_copy_ones : Int32} {f_copy_unknowns : Int32} {f_copy_places : Int32} {f_copy_pins : Int32} {f_copy_count : Int32} {f_logic_ones : Int32} {f_logic_unknowns : Int32} {f_logic_settled : Int32} {f_sched_available : Nat → Int32} {f_sched_wanted : Nat → Int32} {f_sched_coming : Nat → Int32} {f_sched_waiting : Int32} {f_sched_taken : Int32} {f_sched_sent : Int32} {f_sched_lastSent : Int32} {f_hist_next : Int32} {f_hist_held : Int32} {f_ring_cells : Nat → Int32} {f_kept_cells : Nat → Int32} {f_sight_steps : Nat → Int32} {f_sight_gates : Nat → Int32} {f_sight_values : Nat → Int32} {f_sight_truths : Nat → Int32} {f_sight_held : Int32} {X : va_W} {p1 : Int32} {p2 : Int32} {p3 : Int32} {Q : (Nat → Int32) → Prop} (h : wp_X4_markWanted f_sched_wanted p1 p2 p3 Q) : CtV l yX4_markWanted cX4_markWanted 7 none ({ frames := 2, cells := 0, slots := 0, locals := 44 } : Room) D [(cI, .int), (cZ, .boolean)] [.ref (ad 14), .int p1, .int p2, .int p3] (wC ad cI cZ f_keptSlots f_trace f_lastSeed f_text_letters f_text_length f_reader_place f_reader_greatestSource f_plan_chips f_plan_firstPins f_plan_firstPlaces f_plan_gates f_plan_inputs f_plan_registers f_plan_slowRegisters f_plan_kinds f_plan_firsts f_plan_seconds f_plan_clocks f_plan_sourceSets f_spare_chips f_spare_firstPins f_spare_firstPlaces f_spare_gates f_spare_inputs f_spare_registers f_spare_slowRegisters f_spare_kinds f_spare_firsts f_spare_seconds f_spare_clocks f_spare_sourceSets f_now_ones f_now_unknowns f_now_places f_now_pins f_now_count f_copy_ones f_copy_unknowns f_copy_places f_copy_pins f_copy_count f_logic_ones f_logic_unknowns f_logic_settled f_sched_available f_sched_wanted f_sched_coming f_sched_waiting f_sched_taken f_sched_sent f_sched_lastSent f_hist_next f_hist_held f_ring_cells f_kept_cells f_sight_steps f_sight_gates f_sight_values f_sight_truths f_sight_held X) (fun  u => ∃ w0, u = (wC ad cI cZ f_keptSlots f_trace f_lastSeed f_text_letters f_text_length f_reader_place f_reader_greatestSource f_plan_chips f_plan_firstPins f_plan_firstPlaces f_plan_gates f_plan_inputs f_plan_registers f_plan_slowRegisters f_plan_kinds f_plan_firsts f_plan_seconds f_plan_clocks f_plan_sourceSets f_spare_chips f_spare_firstPins f_spare_firstPlaces f_spare_gates f_spare_inputs f_spare_registers f_spare_slowRegisters f_spare_kinds f_spare_firsts f_spare_seconds f_spare_clocks f_spare_sourceSets f_now_ones f_now_unknowns f_now_places f_now_pins f_now_count f_copy_ones f_copy_unknowns f_copy_places f_copy_pins f_copy_count f_logic_ones f_logic_unknowns f_logic_settled f_sched_available w0 f_sched_coming f_sched_waiting f_sched_taken f_sched_sent f_sched_lastSent f_hist_next f_hist_held f_ring_cells f_kept_cells f_sight_steps f_sight_gates f_sight_values f_sight_truths f_sight_held X) ∧ Q w0) := by
  refine CtV.of (by decide) rfl (Nat.le_of_ble_eq_true rfl) ?_
  intro p e s m args below meth c A Z E hret ls hl hw
  have E : gE p m c cX4_markWanted 7 s args RX4 D [(cI, .int), (cZ, .boolean)] A := E
  have hx := E.1.1
  have hb := E.1.2.1
  have hl : lv_has ls 7 [(0, .ref (ad 14)), (1, .int p1), (2, .int p2), (3, .int p3)] := hl
  have L30 : ∀ (n : Nat) (x4 : Int32) (x5 : Int32) (x6 : Int32) (f_sched_wanted : Nat → Int32) (H : Heap) (locs : List Loc) (ls : Array Slot), wp_X4_markWanted_h30 p1 p2 p3 Q  n x4 x5 x6 f_sched_wanted → gW D s A (wC ad cI cZ f_keptSlots f_trace f_lastSeed f_text_letters f_text_length f_reader_place f_reader_greatestSource f_plan_chips f_plan_firstPins f_plan_firstPlaces f_plan_gates f_plan_inputs f_plan_registers f_plan_slowRegisters f_plan_kinds f_plan_firsts f_plan_seconds f_plan_clocks f_plan_sourceSets f_spare_chips f_spare_firstPins f_spare_firstPlaces f_spare_gates f_spare_inputs f_spare_registers f_spare_slowRegisters f_spare_kinds f_spare_firsts f_spare_seconds f_spare_clocks f_spare_sourceSets f_now_ones f_now_unknowns f_now_places f_now_pins f_now_count f_copy_ones f_copy_unknowns f_copy_places f_copy_pins f_copy_count f_logic_ones f_logic_unknowns f_logic_settled f_sched_available f_sched_wanted f_sched_coming f_sched_waiting f_sched_taken f_sched_sent f_sched_lastSent f_hist_next f_hist_held f_ring_cells f_kept_cells f_sight_steps f_sight_gates f_sight_values f_sight_truths f_sight_held X) H locs → lv_has ls 7 [(0, .ref (ad 14)), (2, .int p2), (4, .int x4), (5, .int x5), (6, .int x6)] → W p l e ({ frames := 2, cells := 0, slots := 0, locals := 44 } : Room) s m args below meth c H locs 0 0 Z (F0 m 30 ls []) := by
    intro n
    induction n with
    | zero => intro x4 x5 x6 f_sched_wanted H locs ls h; exact False.elim h
    | succ n30 ih30 =>
      intro x4 x5 x6 f_sched_wanted H locs ls h hw hl
      have h : wp_X4_markWanted_b30 p1 p2 p3 Q (wp_X4_markWanted_h30 p1 p2 p3 Q  n30) x4 x5 x6 f_sched_wanted := h
      have J54 : ∀ (x4 : Int32) (x5 : Int32) (x6 : Int32) (f_sched_wanted : Nat → Int32) (H : Heap) (locs : List Loc) (ls : Array Slot), wp_X4_markWanted_b54 p1 p2 p3 Q (wp_X4_markWanted_h30 p1 p2 p3 Q  n30) x4 x5 x6 f_sched_wanted → gW D s A (wC ad cI cZ f_keptSlots f_trace f_lastSeed f_text_letters f_text_length f_reader_place f_reader_greatestSource f_plan_chips f_plan_firstPins f_plan_firstPlaces f_plan_gates f_plan_inputs f_plan_registers f_plan_slowRegisters f_plan_kinds f_plan_firsts f_plan_seconds f_plan_clocks f_plan_sourceSets f_spare_chips f_spare_firstPins f_spare_firstPlaces f_spare_gates f_spare_inputs f_spare_registers f_spare_slowRegisters f_spare_kinds f_spare_firsts f_spare_seconds f_spare_clocks f_spare_sourceSets f_now_ones f_now_unknowns f_now_places f_now_pins f_now_count f_copy_ones f_copy_unknowns f_copy_places f_copy_pins f_copy_count f_logic_ones f_logic_unknowns f_logic_settled f_sched_available f_sched_wanted f_sched_coming f_sched_waiting f_sched_taken f_sched_sent f_sched_lastSent f_hist_next f_hist_held f_ring_cells f_kept_cells f_sight_steps f_sight_gates f_sight_values f_sight_truths f_sight_held X) H locs → lv_has ls 7 [(0, .ref (ad 14)), (2, .int p2), (4, .int x4), (5, .int x5), (6, .int x6)] → W p l e ({ frames := 2, cells := 0, slots := 0, locals := 44 } : Room) s m args below meth c H locs 0 0 Z (F0 m 54 ls []) := by
        intro x4 x5 x6 f_sched_wanted H locs ls h hw hl
        unfold wp_X4_markWanted_b54 at h
        obtain ⟨v1, ev1⟩ : ∃ y : Int32, y = x6 + 1 := ⟨_, rfl⟩
        have h := h v1 ev1
        refine lv_iinc (v := v1) (lv' := [(6, .int v1), (0, .ref (ad 14)), (2, .int p2), (4, .int x4), (5, .int x5)]) hx hb dX4_markWanted_54 hl (k := 4) rfl (by rw [ev1]; rfl) (by decide) rfl (fun ls hl => ?_)
        refine lv_goto (tgt := 30) hx hb dX4_markWanted_57 (by decide) ?_
        exact ih30 x4 x5 v1 f_sched_wanted _ _ _ h hw (lv_sub hl [1, 2, 3, 4, 0] rfl)
      unfold wp_X4_markWanted_b30 at h
      refine lv_iload hx hb dX4_markWanted_30 (lv_at hl 4 rfl) ?_
      refine lv_iload hx hb dX4_markWanted_32 (lv_at hl 3 rfl) ?_
      refine lv_icmp_gt (tgt := 60) hx hb dX4_markWanted_34 (by decide) (fun c2 => ?_) (fun c2 => ?_)
      · have h := h.1 c2
        exact hret _ _ _ _ _ ⟨_, rfl, h⟩ hw dX4_markWanted_60
      · have h := h.2 c2
        refine lv_iload hx hb dX4_markWanted_37 (lv_at hl 4 rfl) ?_
        refine lv_iload hx hb dX4_markWanted_39 (lv_at hl 2 rfl) ?_
        refine lv_icmp_eq (tgt := 54) hx hb dX4_markWanted_41 (by decide) (fun c3 => ?_) (fun c3 => ?_)
        · have h := h.1 c3
          exact J54 x4 x5 x6 f_sched_wanted _ _ _ h hw (lv_sub hl [0, 1, 2, 3, 4] rfl)
        · have h := h.2 c3
          refine lv_aload_n hx hb dX4_markWanted_44 rfl (lv_at hl 0 rfl) ?_
          refine gC_X4_15_sched E hw dX4_markWanted_45 ?_
          refine lv_iload hx hb dX4_markWanted_48 (lv_at hl 4 rfl) ?_
          refine lv_iload_n hx hb dX4_markWanted_50 rfl (lv_at hl 1 rfl) ?_
          refine g_aV E hw (g_rS E hw (c_X4_add (q0 := 12) rfl h _) ym_X4_add k_422 ⟨rfl, rfl⟩ ⟨Nat.le_of_ble_eq_true rfl, Nat.le_of_ble_eq_true rfl⟩ rfl hl.1 rfl (Nat.le_of_ble_eq_true rfl) ⟨Nat.zero_le _, Nat.zero_le _⟩ dX4_markWanted_51) (fun u H locs hq hw => ?_)
          obtain ⟨y5, hu, h⟩ := hq
          rw [hu] at hw
          have hw : gW D s A (wC ad cI cZ f_keptSlots f_trace f_lastSeed f_text_letters f_text_length f_reader_place f_reader_greatestSource f_plan_chips f_plan_firstPins f_plan_firstPlaces f_plan_gates f_plan_inputs f_plan_registers f_plan_slowRegisters f_plan_kinds f_plan_firsts f_plan_seconds f_plan_clocks f_plan_sourceSets f_spare_chips f_spare_firstPins f_spare_firstPlaces f_spare_gates f_spare_inputs f_spare_registers f_spare_slowRegisters f_spare_kinds f_spare_firsts f_spare_seconds f_spare_clocks f_spare_sourceSets f_now_ones f_now_unknowns f_now_places f_now_pins f_now_count f_copy_ones f_copy_unknowns f_copy_places f_copy_pins f_copy_count f_logic_ones f_logic_unknowns f_logic_settled f_sched_available y5 f_sched_coming f_sched_waiting f_sched_taken f_sched_sent f_sched_lastSent f_hist_next f_hist_held f_ring_cells f_kept_cells f_sight_steps f_sight_gates f_sight_values f_sight_truths f_sight_held X) _ _ := hw
          exact J54 x4 x5 x6 y5 _ _ _ h hw (lv_sub hl [0, 1, 2, 3, 4] rfl)
  unfold wp_X4_markWanted at h
  refine lv_iload_n hx hb dX4_markWanted_0 rfl (lv_at hl 2 rfl) ?_
  refine lv_bipush (v := -9) hx hb dX4_markWanted_1 (by decide) ?_
  refine lv_icmp_ne (tgt := 7) hx hb dX4_markWanted_3 (by decide) (fun c6 => ?_) (fun c6 => ?_)
  · have h := h.1 c6
    refine lv_iload_n hx hb dX4_markWanted_7 rfl (lv_at hl 1 rfl) ?_
    refine lv_iload_n hx hb dX4_markWanted_8 rfl (lv_at hl 2 rfl) ?_
    refine g_aI E hw (g_rSN E hw (c_X9_chipIn h _) ym_X9_chipIn km_20 ⟨rfl, rfl⟩ ⟨Nat.le_of_ble_eq_true rfl, Nat.le_of_ble_eq_true rfl⟩ rfl hl.1 rfl (Nat.le_of_ble_eq_true rfl) ⟨Nat.zero_le _, Nat.zero_le _⟩ dX4_markWanted_9) (fun r7 u H locs hq hw => ?_)
    obtain ⟨hu, h⟩ := hq
    rw [hu] at hw
    refine lv_istore (lv' := [(4, .int r7), (0, .ref (ad 14)), (1, .int p1), (2, .int p2), (3, .int p3)]) hx hb dX4_markWanted_12 hl (by decide) rfl (fun ls hl => ?_)
    refine lv_iload hx hb dX4_markWanted_14 (lv_at hl 0 rfl) ?_
    refine lv_iload_n hx hb dX4_markWanted_16 rfl (lv_at hl 4 rfl) ?_
    refine va_mmax hx hb (E.1.2.2.1.trans hl.1.symm) E.1.2.2.2.1 (E.1.2.2.2.2 _ k_429) (E.1.2.2.2.2 _ k_145) (E.1.2.2.2.2 _ k_59) (E.1.2.2.2.2 _ k_146) (Nat.le_of_ble_eq_true rfl) (Nat.le_of_ble_eq_true rfl) (Nat.zero_le _) (Nat.zero_le _) dX4_markWanted_17 ?_
    refine lv_topi (fun v8 ev8 => ?_)
    have h := h v8 ev8
    refine lv_istore (lv' := [(5, .int v8), (4, .int r7), (0, .ref (ad 14)), (1, .int p1), (2, .int p2), (3, .int p3)]) hx hb dX4_markWanted_20 hl (by decide) rfl (fun ls hl => ?_)
    refine lv_iload hx hb dX4_markWanted_22 (lv_at hl 1 rfl) ?_
    refine lv_iload_n hx hb dX4_markWanted_24 rfl (lv_at hl 5 rfl) ?_
    refine va_mmin hx hb (E.1.2.2.1.trans hl.1.symm) E.1.2.2.2.1 (E.1.2.2.2.2 _ k_430) (E.1.2.2.2.2 _ k_344) (E.1.2.2.2.2 _ k_59) (E.1.2.2.2.2 _ k_345) (Nat.le_of_ble_eq_true rfl) (Nat.le_of_ble_eq_true rfl) (Nat.zero_le _) (Nat.zero_le _) dX4_markWanted_25 ?_
    refine lv_topi (fun v9 ev9 => ?_)
    have h := h v9 ev9
    refine lv_istore (lv' := [(6, .int v9), (5, .int v8), (4, .int r7), (0, .ref (ad 14)), (1, .int p1), (2, .int p2), (3, .int p3)]) hx hb dX4_markWanted_28 hl (by decide) rfl (fun ls hl => ?_)
    obtain ⟨n, h⟩ := h
    exact L30 n r7 v8 v9 f_sched_wanted _ _ _ h hw (lv_sub hl [3, 5, 2, 1, 0] rfl)
  · have h := h.2 c6
    exact hret _ _ _ _ _ ⟨_, rfl, h⟩ hw dX4_markWanted_6
set_option maxRecDepth 100000 in
set_option maxHeartbeats 4000000 in
theorem c_X4_begin_plan {l : Launch} {D : va_G} {cI cZ : ClassId} {ad : Nat → Nat} {f_keptSlots : Int32} {f_trace : Nat → Int32} {f_lastSeed : Int64} {f_text_letters : Nat → Int32} {f_text_length : Int32} {f_reader_place : Int32} {f_reader_greatestSource : Int32} {f_plan_chips : Int32} {f_plan_firstPins : Int32} {f_plan_firstPlaces : Int32} {f_plan_gates : Int32} {f_plan_inputs : Int32} {f_plan_registers : Int32} {f_plan_slowRegisters : Int32} {f_plan_kinds : Nat → Int32} {f_plan_firsts : Nat → Int32} {f_plan_seconds : Nat → Int32} {f_plan_clocks : Nat → Int32} {f_plan_sourceSets : Nat → Int32} {f_spare_chips : Int32} {f_spare_firstPins : Int32} {f_spare_firstPlaces : Int32} {f_spare_gates : Int32} {f_spare_inputs : Int32} {f_spare_registers : Int32} {f_spare_slowRegisters : Int32} {f_spare_kinds : Nat → Int32} {f_spare_firsts : Nat → Int32} {f_spare_seconds : Nat → Int32} {f_spare_clocks : Nat → Int32} {f_spare_sourceSets : Nat → Int32} {f_now_ones : Int32} {f_now_unknowns : Int32} {f_now_places : Int32} {f_now_pins : Int32} {f_now_count : Int32} {f_copy_ones : Int32} {f_copy_unknowns : Int32} {f_copy_places : Int32} {f_copy_pins : Int32} {f_copy_count : Int32} {f_logic_ones : Int32} {f_logic_unknowns : Int32} {f_logic_settled : Int32} {f_sched_available : Nat → Int32} {f_sched_wanted : Nat → Int32} {f_sched_coming : Nat → Int32} {f_sched_waiting : Int32} {f_sched_taken : Int32} {f_sched_sent : Int32} {f_sched_lastSent : Int32} {f_hist_next : Int32} {f_hist_held : Int32} {f_ring_cells : Nat → Int32} {f_kept_cells : Nat → Int32} {f_sight_steps : Nat → Int32} {f_sight_gates : Nat → Int32} {f_sight_values : Nat → Int32} {f_sight_truths : Nat → Int32} {f_sight_held : Int32} {X : va_W} {p2 : Int32} {Q : (Nat → Int32) → Int32 → Int32 → Int32 → Int32 → (Nat → Int32) → Prop} (h : wp_X4_begin f_sched_available f_sched_lastSent f_sched_sent f_sched_taken f_sched_waiting f_sched_wanted f_plan_firsts f_plan_gates f_plan_inputs f_plan_registers f_plan_seconds p2 Q) : CtV l yX4_begin cX4_begin 5 none ({ frames := 3, cells := 0, slots := 0, locals := 70 } : Room) D [(cI, .int), (cZ, .boolean)] [.ref (ad 14), .ref (ad 29), .int p2] (wC ad cI cZ f_keptSlots f_trace f_lastSeed f_text_letters f_text_length f_reader_place f_reader_greatestSource f_plan_chips f_plan_firstPins f_plan_firstPlaces f_plan_gates f_plan_inputs f_plan_registers f_plan_slowRegisters f_plan_kinds f_plan_firsts f_plan_seconds f_plan_clocks f_plan_sourceSets f_spare_chips f_spare_firstPins f_spare_firstPlaces f_spare_gates f_spare_inputs f_spare_registers f_spare_slowRegisters f_spare_kinds f_spare_firsts f_spare_seconds f_spare_clocks f_spare_sourceSets f_now_ones f_now_unknowns f_now_places f_now_pins f_now_count f_copy_ones f_copy_unknowns f_copy_places f_copy_pins f_copy_count f_logic_ones f_logic_unknowns f_logic_settled f_sched_available f_sched_wanted f_sched_coming f_sched_waiting f_sched_taken f_sched_sent f_sched_lastSent f_hist_next f_hist_held f_ring_cells f_kept_cells f_sight_steps f_sight_gates f_sight_values f_sight_truths f_sight_held X) (fun  u => ∃ w0 w1 w2 w3 w4 w5, u = (wC ad cI cZ f_keptSlots f_trace f_lastSeed f_text_letters f_text_length f_reader_place f_reader_greatestSource f_plan_chips f_plan_firstPins f_plan_firstPlaces f_plan_gates f_plan_inputs f_plan_registers f_plan_slowRegisters f_plan_kinds f_plan_firsts f_plan_seconds f_plan_clocks f_plan_sourceSets f_spare_chips f_spare_firstPins f_spare_firstPlaces f_spare_gates f_spare_inputs f_spare_registers f_spare_slowRegisters f_spare_kinds f_spare_firsts f_spare_seconds f_spare_clocks f_spare_sourceSets f_now_ones f_now_unknowns f_now_places f_now_pins f_now_count f_copy_ones f_copy_unknowns f_copy_places f_copy_pins f_copy_count f_logic_ones f_logic_unknowns f_logic_settled w0 w5 f_sched_coming w4 w3 w2 w1 f_hist_next f_hist_held f_ring_cells f_kept_cells f_sight_steps f_sight_gates f_sight_values f_sight_truths f_sight_held X) ∧ Q w0 w1 w2 w3 w4 w5) := by
  refine CtV.of (by decide) rfl (Nat.le_of_ble_eq_true rfl) ?_
  intro p e s m args below meth c A Z E hret ls hl hw
  have E : gE p m c cX4_begin 5 s args RX4 D [(cI, .int), (cZ, .boolean)] A := E
  have hx := E.1.1
  have hb := E.1.2.1
  have hl : lv_has ls 5 [(0, .ref (ad 14)), (1, .ref (ad 29)), (2, .int p2)] := hl
  have L59 : ∀ (n : Nat) (x3 : Int32) (f_sched_available : Nat → Int32) (f_sched_lastSent : Int32) (f_sched_sent : Int32) (f_sched_taken : Int32) (f_sched_waiting : Int32) (f_sched_wanted : Nat → Int32) (H : Heap) (locs : List Loc) (ls : Array Slot), wp_X4_begin_h59 f_plan_firsts f_plan_gates f_plan_inputs f_plan_registers f_plan_seconds p2 Q  n x3 f_sched_available f_sched_lastSent f_sched_sent f_sched_taken f_sched_waiting f_sched_wanted → gW D s A (wC ad cI cZ f_keptSlots f_trace f_lastSeed f_text_letters f_text_length f_reader_place f_reader_greatestSource f_plan_chips f_plan_firstPins f_plan_firstPlaces f_plan_gates f_plan_inputs f_plan_registers f_plan_slowRegisters f_plan_kinds f_plan_firsts f_plan_seconds f_plan_clocks f_plan_sourceSets f_spare_chips f_spare_firstPins f_spare_firstPlaces f_spare_gates f_spare_inputs f_spare_registers f_spare_slowRegisters f_spare_kinds f_spare_firsts f_spare_seconds f_spare_clocks f_spare_sourceSets f_now_ones f_now_unknowns f_now_places f_now_pins f_now_count f_copy_ones f_copy_unknowns f_copy_places f_copy_pins f_copy_count f_logic_ones f_logic_unknowns f_logic_settled f_sched_available f_sched_wanted f_sched_coming f_sched_waiting f_sched_taken f_sched_sent f_sched_lastSent f_hist_next f_hist_held f_ring_cells f_kept_cells f_sight_steps f_sight_gates f_sight_values f_sight_truths f_sight_held X) H locs → lv_has ls 5 [(0, .ref (ad 14)), (1, .ref (ad 29)), (2, .int p2), (3, .int x3)] → W p l e ({ frames := 3, cells := 0, slots := 0, locals := 70 } : Room) s m args below meth c H locs 0 0 Z (F0 m 59 ls []) := by
    intro n
    induction n with
    | zero => intro x3 f_sched_available f_sched_lastSent f_sched_sent f_sched_taken f_sched_waiting f_sched_wanted H locs ls h; exact False.elim h
    | succ n59 ih59 =>
      intro x3 f_sched_available f_sched_lastSent f_sched_sent f_sched_taken f_sched_waiting f_sched_wanted H locs ls h hw hl
      have h : wp_X4_begin_b59 f_plan_firsts f_plan_gates f_plan_inputs f_plan_registers f_plan_seconds p2 Q (wp_X4_begin_h59 f_plan_firsts f_plan_gates f_plan_inputs f_plan_registers f_plan_seconds p2 Q  n59) x3 f_sched_available f_sched_lastSent f_sched_sent f_sched_taken f_sched_waiting f_sched_wanted := h
      have J96 : ∀ (x3 : Int32) (x4 : Int32) (f_sched_available : Nat → Int32) (f_sched_lastSent : Int32) (f_sched_sent : Int32) (f_sched_taken : Int32) (f_sched_waiting : Int32) (f_sched_wanted : Nat → Int32) (H : Heap) (locs : List Loc) (ls : Array Slot), wp_X4_begin_b96 f_plan_firsts f_plan_gates f_plan_inputs f_plan_registers f_plan_seconds p2 Q (wp_X4_begin_h59 f_plan_firsts f_plan_gates f_plan_inputs f_plan_registers f_plan_seconds p2 Q  n59) x3 x4 f_sched_available f_sched_lastSent f_sched_sent f_sched_taken f_sched_waiting f_sched_wanted → gW D s A (wC ad cI cZ f_keptSlots f_trace f_lastSeed f_text_letters f_text_length f_reader_place f_reader_greatestSource f_plan_chips f_plan_firstPins f_plan_firstPlaces f_plan_gates f_plan_inputs f_plan_registers f_plan_slowRegisters f_plan_kinds f_plan_firsts f_plan_seconds f_plan_clocks f_plan_sourceSets f_spare_chips f_spare_firstPins f_spare_firstPlaces f_spare_gates f_spare_inputs f_spare_registers f_spare_slowRegisters f_spare_kinds f_spare_firsts f_spare_seconds f_spare_clocks f_spare_sourceSets f_now_ones f_now_unknowns f_now_places f_now_pins f_now_count f_copy_ones f_copy_unknowns f_copy_places f_copy_pins f_copy_count f_logic_ones f_logic_unknowns f_logic_settled f_sched_available f_sched_wanted f_sched_coming f_sched_waiting f_sched_taken f_sched_sent f_sched_lastSent f_hist_next f_hist_held f_ring_cells f_kept_cells f_sight_steps f_sight_gates f_sight_values f_sight_truths f_sight_held X) H locs → lv_has ls 5 [(0, .ref (ad 14)), (1, .ref (ad 29)), (2, .int p2), (3, .int x3), (4, .int x4)] → W p l e ({ frames := 3, cells := 0, slots := 0, locals := 70 } : Room) s m args below meth c H locs 0 0 Z (F0 m 96 ls []) := by
        intro x3 x4 f_sched_available f_sched_lastSent f_sched_sent f_sched_taken f_sched_waiting f_sched_wanted H locs ls h hw hl
        unfold wp_X4_begin_b96 at h
        refine lv_aload_n hx hb dX4_begin_96 rfl (lv_at hl 0 rfl) ?_
        refine lv_iload_n hx hb dX4_begin_97 rfl (lv_at hl 2 rfl) ?_
        refine lv_aload_n hx hb dX4_begin_98 rfl (lv_at hl 1 rfl) ?_
        refine lv_iload_n hx hb dX4_begin_99 rfl (lv_at hl 3 rfl) ?_
        refine g_aI E hw (g_rV E hw (c_X2_firstOf_plan h _) ym_X2_firstOf k_425 ⟨rfl, rfl⟩ ⟨Nat.le_of_ble_eq_true rfl, Nat.le_of_ble_eq_true rfl⟩ 29 rfl rfl rfl rfl hl.1 rfl (Nat.le_of_ble_eq_true rfl) ⟨Nat.zero_le _, Nat.zero_le _⟩ dX4_begin_100) (fun r1 u H locs hq hw => ?_)
        obtain ⟨hu, h⟩ := hq
        rw [hu] at hw
        refine lv_iload hx hb dX4_begin_103 (lv_at hl 4 rfl) ?_
        refine g_aV E hw (g_rV E hw (c_X4_markWanted h _) ym_X4_markWanted k_426 ⟨rfl, rfl⟩ ⟨Nat.le_of_ble_eq_true rfl, Nat.le_of_ble_eq_true rfl⟩ 14 rfl rfl rfl rfl hl.1 rfl (Nat.le_of_ble_eq_true rfl) ⟨Nat.zero_le _, Nat.zero_le _⟩ dX4_begin_105) (fun u H locs hq hw => ?_)
        obtain ⟨y3, hu, h⟩ := hq
        rw [hu] at hw
        refine lv_aload_n hx hb dX4_begin_108 rfl (lv_at hl 0 rfl) ?_
        refine lv_iload_n hx hb dX4_begin_109 rfl (lv_at hl 2 rfl) ?_
        refine lv_aload_n hx hb dX4_begin_110 rfl (lv_at hl 1 rfl) ?_
        refine lv_iload_n hx hb dX4_begin_111 rfl (lv_at hl 3 rfl) ?_
        refine g_aI E hw (g_rV E hw (c_X2_secondOf_plan h _) ym_X2_secondOf k_431 ⟨rfl, rfl⟩ ⟨Nat.le_of_ble_eq_true rfl, Nat.le_of_ble_eq_true rfl⟩ 29 rfl rfl rfl rfl hl.1 rfl (Nat.le_of_ble_eq_true rfl) ⟨Nat.zero_le _, Nat.zero_le _⟩ dX4_begin_112) (fun r4 u H locs hq hw => ?_)
        obtain ⟨hu, h⟩ := hq
        rw [hu] at hw
        refine lv_iload hx hb dX4_begin_115 (lv_at hl 4 rfl) ?_
        refine g_aV E hw (g_rV E hw (c_X4_markWanted h _) ym_X4_markWanted k_426 ⟨rfl, rfl⟩ ⟨Nat.le_of_ble_eq_true rfl, Nat.le_of_ble_eq_true rfl⟩ 14 rfl rfl rfl rfl hl.1 rfl (Nat.le_of_ble_eq_true rfl) ⟨Nat.zero_le _, Nat.zero_le _⟩ dX4_begin_117) (fun u H locs hq hw => ?_)
        obtain ⟨y6, hu, h⟩ := hq
        rw [hu] at hw
        obtain ⟨v7, ev7⟩ : ∃ y : Int32, y = x3 + 1 := ⟨_, rfl⟩
        have h := h v7 ev7
        refine lv_iinc (v := v7) (lv' := [(3, .int v7), (0, .ref (ad 14)), (1, .ref (ad 29)), (2, .int p2), (4, .int x4)]) hx hb dX4_begin_120 hl (k := 3) rfl (by rw [ev7]; rfl) (by decide) rfl (fun ls hl => ?_)
        refine lv_goto (tgt := 59) hx hb dX4_begin_123 (by decide) ?_
        exact ih59 v7 f_sched_available f_sched_lastSent f_sched_sent f_sched_taken f_sched_waiting y6 _ _ _ h hw (lv_sub hl [1, 2, 3, 0] rfl)
      unfold wp_X4_begin_b59 at h
      refine lv_iload_n hx hb dX4_begin_59 rfl (lv_at hl 3 rfl) ?_
      refine lv_aload_n hx hb dX4_begin_60 rfl (lv_at hl 1 rfl) ?_
      refine gC_X4_70_plan E hw dX4_begin_61 ?_
      refine lv_icmp_ge (tgt := 126) hx hb dX4_begin_64 (by decide) (fun c8 => ?_) (fun c8 => ?_)
      · have h := h.1 c8
        exact hret _ _ _ _ _ ⟨_, _, _, _, _, _, rfl, h⟩ hw dX4_begin_126
      · have h := h.2 c8
        refine lv_iload_n hx hb dX4_begin_67 rfl (lv_at hl 2 rfl) ?_
        refine lv_iload_n hx hb dX4_begin_68 rfl (lv_at hl 3 rfl) ?_
        refine g_aI E hw (g_rSN E hw (c_X9_chipIn h _) ym_X9_chipIn km_20 ⟨rfl, rfl⟩ ⟨Nat.le_of_ble_eq_true rfl, Nat.le_of_ble_eq_true rfl⟩ rfl hl.1 rfl (Nat.le_of_ble_eq_true rfl) ⟨Nat.zero_le _, Nat.zero_le _⟩ dX4_begin_69) (fun r9 u H locs hq hw => ?_)
        obtain ⟨hu, h⟩ := hq
        rw [hu] at hw
        refine lv_istore (lv' := [(4, .int r9), (0, .ref (ad 14)), (1, .ref (ad 29)), (2, .int p2), (3, .int x3)]) hx hb dX4_begin_72 hl (by decide) rfl (fun ls hl => ?_)
        refine lv_aload_n hx hb dX4_begin_74 rfl (lv_at hl 1 rfl) ?_
        refine gC_X4_21_sched E hw dX4_begin_75 ?_
        refine lv_iload_n hx hb dX4_begin_78 rfl (lv_at hl 4 rfl) ?_
        refine g_aI E hw (g_rSN E hw (c_X9_bit h _) ym_X9_bit km_21 ⟨rfl, rfl⟩ ⟨Nat.le_of_ble_eq_true rfl, Nat.le_of_ble_eq_true rfl⟩ rfl hl.1 rfl (Nat.le_of_ble_eq_true rfl) ⟨Nat.zero_le _, Nat.zero_le _⟩ dX4_begin_79) (fun r10 u H locs hq hw => ?_)
        obtain ⟨hu, h⟩ := hq
        rw [hu] at hw
        refine lv_iand hx hb dX4_begin_82 ?_
        refine lv_if_ne (tgt := 96) hx hb dX4_begin_83 (by decide) (fun c11 => ?_) (fun c11 => ?_)
        · have h := h.1 c11
          exact J96 x3 r9 f_sched_available f_sched_lastSent f_sched_sent f_sched_taken f_sched_waiting f_sched_wanted _ _ _ h hw (lv_sub hl [1, 2, 3, 4, 0] rfl)
        · have h := h.2 c11
          refine lv_aload_n hx hb dX4_begin_86 rfl (lv_at hl 1 rfl) ?_
          refine gC_X4_9_sched E hw dX4_begin_87 ?_
          refine lv_iload hx hb dX4_begin_90 (lv_at hl 0 rfl) ?_
          refine lv_iload_n hx hb dX4_begin_92 rfl (lv_at hl 4 rfl) ?_
          refine g_aV E hw (g_rS E hw (c_X4_add (q0 := 13) rfl h _) ym_X4_add k_422 ⟨rfl, rfl⟩ ⟨Nat.le_of_ble_eq_true rfl, Nat.le_of_ble_eq_true rfl⟩ rfl hl.1 rfl (Nat.le_of_ble_eq_true rfl) ⟨Nat.zero_le _, Nat.zero_le _⟩ dX4_begin_93) (fun u H locs hq hw => ?_)
          obtain ⟨y13, hu, h⟩ := hq
          rw [hu] at hw
          have hw : gW D s A (wC ad cI cZ f_keptSlots f_trace f_lastSeed f_text_letters f_text_length f_reader_place f_reader_greatestSource f_plan_chips f_plan_firstPins f_plan_firstPlaces f_plan_gates f_plan_inputs f_plan_registers f_plan_slowRegisters f_plan_kinds f_plan_firsts f_plan_seconds f_plan_clocks f_plan_sourceSets f_spare_chips f_spare_firstPins f_spare_firstPlaces f_spare_gates f_spare_inputs f_spare_registers f_spare_slowRegisters f_spare_kinds f_spare_firsts f_spare_seconds f_spare_clocks f_spare_sourceSets f_now_ones f_now_unknowns f_now_places f_now_pins f_now_count f_copy_ones f_copy_unknowns f_copy_places f_copy_pins f_copy_count f_logic_ones f_logic_unknowns f_logic_settled y13 f_sched_wanted f_sched_coming f_sched_waiting f_sched_taken f_sched_sent f_sched_lastSent f_hist_next f_hist_held f_ring_cells f_kept_cells f_sight_steps f_sight_gates f_sight_values f_sight_truths f_sight_held X) _ _ := hw
          exact J96 x3 r9 y13 f_sched_lastSent f_sched_sent f_sched_taken f_sched_waiting f_sched_wanted _ _ _ h hw (lv_sub hl [1, 2, 3, 4, 0] rfl)
  have L32 : ∀ (n : Nat) (x3 : Int32) (f_sched_available : Nat → Int32) (f_sched_lastSent : Int32) (f_sched_sent : Int32) (f_sched_taken : Int32) (f_sched_waiting : Int32) (f_sched_wanted : Nat → Int32) (H : Heap) (locs : List Loc) (ls : Array Slot), wp_X4_begin_h32 f_plan_firsts f_plan_gates f_plan_inputs f_plan_registers f_plan_seconds p2 Q  n x3 f_sched_available f_sched_lastSent f_sched_sent f_sched_taken f_sched_waiting f_sched_wanted → gW D s A (wC ad cI cZ f_keptSlots f_trace f_lastSeed f_text_letters f_text_length f_reader_place f_reader_greatestSource f_plan_chips f_plan_firstPins f_plan_firstPlaces f_plan_gates f_plan_inputs f_plan_registers f_plan_slowRegisters f_plan_kinds f_plan_firsts f_plan_seconds f_plan_clocks f_plan_sourceSets f_spare_chips f_spare_firstPins f_spare_firstPlaces f_spare_gates f_spare_inputs f_spare_registers f_spare_slowRegisters f_spare_kinds f_spare_firsts f_spare_seconds f_spare_clocks f_spare_sourceSets f_now_ones f_now_unknowns f_now_places f_now_pins f_now_count f_copy_ones f_copy_unknowns f_copy_places f_copy_pins f_copy_count f_logic_ones f_logic_unknowns f_logic_settled f_sched_available f_sched_wanted f_sched_coming f_sched_waiting f_sched_taken f_sched_sent f_sched_lastSent f_hist_next f_hist_held f_ring_cells f_kept_cells f_sight_steps f_sight_gates f_sight_values f_sight_truths f_sight_held X) H locs → lv_has ls 5 [(0, .ref (ad 14)), (1, .ref (ad 29)), (2, .int p2), (3, .int x3)] → W p l e ({ frames := 3, cells := 0, slots := 0, locals := 70 } : Room) s m args below meth c H locs 0 0 Z (F0 m 32 ls []) := by
    intro n
    induction n with
    | zero => intro x3 f_sched_available f_sched_lastSent f_sched_sent f_sched_taken f_sched_waiting f_sched_wanted H locs ls h; exact False.elim h
    | succ n32 ih32 =>
      intro x3 f_sched_available f_sched_lastSent f_sched_sent f_sched_taken f_sched_waiting f_sched_wanted H locs ls h hw hl
      have h : wp_X4_begin_b32 f_plan_firsts f_plan_gates f_plan_inputs f_plan_registers f_plan_seconds p2 Q (wp_X4_begin_h32 f_plan_firsts f_plan_gates f_plan_inputs f_plan_registers f_plan_seconds p2 Q  n32) x3 f_sched_available f_sched_lastSent f_sched_sent f_sched_taken f_sched_waiting f_sched_wanted := h
      unfold wp_X4_begin_b32 at h
      refine lv_iload_n hx hb dX4_begin_32 rfl (lv_at hl 3 rfl) ?_
      refine lv_iconst (v := 4) hx hb dX4_begin_33 (by decide) ?_
      refine lv_icmp_ge (tgt := 57) hx hb dX4_begin_34 (by decide) (fun c14 => ?_) (fun c14 => ?_)
      · have h := h.1 c14
        refine lv_iconst (v := 0) hx hb dX4_begin_57 (by decide) ?_
        refine lv_istore_n (lv' := [(3, .int (0 : Int32)), (0, .ref (ad 14)), (1, .ref (ad 29)), (2, .int p2)]) hx hb dX4_begin_58 rfl hl (by decide) rfl (fun ls hl => ?_)
        obtain ⟨n, h⟩ := h
        exact L59 n (0 : Int32) f_sched_available f_sched_lastSent f_sched_sent f_sched_taken f_sched_waiting f_sched_wanted _ _ _ h hw (lv_sub hl [1, 2, 3, 0] rfl)
      · have h := h.2 c14
        refine lv_aload_n hx hb dX4_begin_37 rfl (lv_at hl 0 rfl) ?_
        refine gC_X4_9_sched E hw dX4_begin_38 ?_
        refine lv_iload_n hx hb dX4_begin_41 rfl (lv_at hl 3 rfl) ?_
        refine lv_iconst (v := 0) hx hb dX4_begin_42 (by decide) ?_
        refine sC_sched_available E hw h.1 dX4_begin_43 (fun y15 ey15 H locs hw => ?_)
        have h := h.2 y15 ey15
        refine lv_aload_n hx hb dX4_begin_44 rfl (lv_at hl 0 rfl) ?_
        refine gC_X4_15_sched E hw dX4_begin_45 ?_
        refine lv_iload_n hx hb dX4_begin_48 rfl (lv_at hl 3 rfl) ?_
        refine lv_iconst (v := 0) hx hb dX4_begin_49 (by decide) ?_
        refine sC_sched_wanted E hw h.1 dX4_begin_50 (fun y16 ey16 H locs hw => ?_)
        have h := h.2 y16 ey16
        obtain ⟨v17, ev17⟩ : ∃ y : Int32, y = x3 + 1 := ⟨_, rfl⟩
        have h := h v17 ev17
        refine lv_iinc (v := v17) (lv' := [(3, .int v17), (0, .ref (ad 14)), (1, .ref (ad 29)), (2, .int p2)]) hx hb dX4_begin_51 hl (k := 3) rfl (by rw [ev17]; rfl) (by decide) rfl (fun ls hl => ?_)
        refine lv_goto (tgt := 32) hx hb dX4_begin_54 (by decide) ?_
        exact ih32 v17 y15 f_sched_lastSent f_sched_sent f_sched_taken f_sched_waiting y16 _ _ _ h hw (lv_sub hl [1, 2, 3, 0] rfl)
  unfold wp_X4_begin at h
  refine lv_aload_n hx hb dX4_begin_0 rfl (lv_at hl 0 rfl) ?_
  refine lv_iconst (v := 1) hx hb dX4_begin_1 (by decide) ?_
  refine pC_X4_25_sched E hw dX4_begin_2 (fun H locs hw => ?_)
  refine lv_aload_n hx hb dX4_begin_5 rfl (lv_at hl 0 rfl) ?_
  refine lv_iconst (v := 0) hx hb dX4_begin_6 (by decide) ?_
  refine pC_X4_28_sched E hw dX4_begin_7 (fun H locs hw => ?_)
  refine lv_aload_n hx hb dX4_begin_10 rfl (lv_at hl 0 rfl) ?_
  refine lv_iconst (v := 0) hx hb dX4_begin_11 (by decide) ?_
  refine pC_X4_31_sched E hw dX4_begin_12 (fun H locs hw => ?_)
  refine lv_aload_n hx hb dX4_begin_15 rfl (lv_at hl 0 rfl) ?_
  refine lv_aload_n hx hb dX4_begin_16 rfl (lv_at hl 1 rfl) ?_
  refine g_aI E hw (g_rV E hw (c_X2_all_plan h _) ym_X2_all k_420 ⟨rfl, rfl⟩ ⟨Nat.le_of_ble_eq_true rfl, Nat.le_of_ble_eq_true rfl⟩ 29 rfl rfl rfl rfl hl.1 rfl (Nat.le_of_ble_eq_true rfl) ⟨Nat.zero_le _, Nat.zero_le _⟩ dX4_begin_17) (fun r18 u H locs hq hw => ?_)
  obtain ⟨hu, h⟩ := hq
  rw [hu] at hw
  refine lv_aload_n hx hb dX4_begin_20 rfl (lv_at hl 1 rfl) ?_
  refine g_aI E hw (g_rV E hw (c_X2_storing_plan h _) ym_X2_storing k_421 ⟨rfl, rfl⟩ ⟨Nat.le_of_ble_eq_true rfl, Nat.le_of_ble_eq_true rfl⟩ 29 rfl rfl rfl rfl hl.1 rfl (Nat.le_of_ble_eq_true rfl) ⟨Nat.zero_le _, Nat.zero_le _⟩ dX4_begin_21) (fun r19 u H locs hq hw => ?_)
  obtain ⟨hu, h⟩ := hq
  rw [hu] at hw
  refine lv_iconst (v := -1) hx hb dX4_begin_24 (by decide) ?_
  refine lv_ixor hx hb dX4_begin_25 ?_
  refine lv_iand hx hb dX4_begin_26 ?_
  refine lv_topi (fun v20 ev20 => ?_)
  have h := h v20 ev20
  refine pC_X4_21_sched E hw dX4_begin_27 (fun H locs hw => ?_)
  refine lv_iconst (v := 0) hx hb dX4_begin_30 (by decide) ?_
  refine lv_istore_n (lv' := [(3, .int (0 : Int32)), (0, .ref (ad 14)), (1, .ref (ad 29)), (2, .int p2)]) hx hb dX4_begin_31 rfl hl (by decide) rfl (fun ls hl => ?_)
  obtain ⟨n, h⟩ := h
  exact L32 n (0 : Int32) f_sched_available (0 : Int32) (0 : Int32) (1 : Int32) v20 f_sched_wanted _ _ _ h hw (lv_sub hl [1, 2, 3, 0] rfl)
set_option maxRecDepth 100000 in
set_option maxHeartbeats 4000000 in
theorem c_X4_firstSlot_plan_now {l : Launch} {D : va_G} {cI cZ : ClassId} {ad : Nat → Nat} {f_keptSlots : Int32} {f_trace : Nat → Int32} {f_lastSeed : Int64} {f_text_letters : Nat → Int32} {f_text_length : Int32} {f_reader_place : Int32} {f_reader_greatestSource : Int32} {f_plan_chips : Int32} {f_plan_firstPins : Int32} {f_plan_firstPlaces : Int32} {f_plan_gates : Int32} {f_plan_inputs : Int32} {f_plan_registers : Int32} {f_plan_slowRegisters : Int32} {f_plan_kinds : Nat → Int32} {f_plan_firsts : Nat → Int32} {f_plan_seconds : Nat → Int32} {f_plan_clocks : Nat → Int32} {f_plan_sourceSets : Nat → Int32} {f_spare_chips : Int32} {f_spare_firstPins : Int32} {f_spare_firstPlaces : Int32} {f_spare_gates : Int32} {f_spare_inputs : Int32} {f_spare_registers : Int32} {f_spare_slowRegisters : Int32} {f_spare_kinds : Nat → Int32} {f_spare_firsts : Nat → Int32} {f_spare_seconds : Nat → Int32} {f_spare_clocks : Nat → Int32} {f_spare_sourceSets : Nat → Int32} {f_now_ones : Int32} {f_now_unknowns : Int32} {f_now_places : Int32} {f_now_pins : Int32} {f_now_count : Int32} {f_copy_ones : Int32} {f_copy_unknowns : Int32} {f_copy_places : Int32} {f_copy_pins : Int32} {f_copy_count : Int32} {f_logic_ones : Int32} {f_logic_unknowns : Int32} {f_logic_settled : Int32} {f_sched_available : Nat → Int32} {f_sched_wanted : Nat → Int32} {f_sched_coming : Nat → Int32} {f_sched_waiting : Int32} {f_sched_taken : Int32} {f_sched_sent : Int32} {f_sched_lastSent : Int32} {f_hist_next : Int32} {f_hist_held : Int32} {f_ring_cells : Nat → Int32} {f_kept_cells : Nat → Int32} {f_sight_steps : Nat → Int32} {f_sight_gates : Nat → Int32} {f_sight_values : Nat → Int32} {f_sight_truths : Nat → Int32} {f_sight_held : Int32} {X : va_W} {p3 : Int32} {p4 : Int32} {Q : Int32 → (Nat → Int32) → (Nat → Int32) → Int32 → Int32 → Int32 → Int32 → (Nat → Int32) → Prop} (h : wp_X4_firstSlot f_sched_available f_sched_coming f_sched_lastSent f_sched_sent f_sched_taken f_sched_waiting f_sched_wanted f_plan_chips f_plan_firsts f_plan_gates f_plan_inputs f_plan_registers f_plan_seconds f_plan_sourceSets f_now_pins f_now_places p3 p4 Q) : CtI l yX4_firstSlot cX4_firstSlot 6 (some .int) ({ frames := 4, cells := 0, slots := 0, locals := 94 } : Room) D [(cI, .int), (cZ, .boolean)] [.ref (ad 14), .ref (ad 29), .ref (ad 17), .int p3, .int p4] (wC ad cI cZ f_keptSlots f_trace f_lastSeed f_text_letters f_text_length f_reader_place f_reader_greatestSource f_plan_chips f_plan_firstPins f_plan_firstPlaces f_plan_gates f_plan_inputs f_plan_registers f_plan_slowRegisters f_plan_kinds f_plan_firsts f_plan_seconds f_plan_clocks f_plan_sourceSets f_spare_chips f_spare_firstPins f_spare_firstPlaces f_spare_gates f_spare_inputs f_spare_registers f_spare_slowRegisters f_spare_kinds f_spare_firsts f_spare_seconds f_spare_clocks f_spare_sourceSets f_now_ones f_now_unknowns f_now_places f_now_pins f_now_count f_copy_ones f_copy_unknowns f_copy_places f_copy_pins f_copy_count f_logic_ones f_logic_unknowns f_logic_settled f_sched_available f_sched_wanted f_sched_coming f_sched_waiting f_sched_taken f_sched_sent f_sched_lastSent f_hist_next f_hist_held f_ring_cells f_kept_cells f_sight_steps f_sight_gates f_sight_values f_sight_truths f_sight_held X) (fun r u => ∃ w0 w1 w2 w3 w4 w5 w6, u = (wC ad cI cZ f_keptSlots f_trace f_lastSeed f_text_letters f_text_length f_reader_place f_reader_greatestSource f_plan_chips f_plan_firstPins f_plan_firstPlaces f_plan_gates f_plan_inputs f_plan_registers f_plan_slowRegisters f_plan_kinds f_plan_firsts f_plan_seconds f_plan_clocks f_plan_sourceSets f_spare_chips f_spare_firstPins f_spare_firstPlaces f_spare_gates f_spare_inputs f_spare_registers f_spare_slowRegisters f_spare_kinds f_spare_firsts f_spare_seconds f_spare_clocks f_spare_sourceSets f_now_ones f_now_unknowns f_now_places f_now_pins f_now_count f_copy_ones f_copy_unknowns f_copy_places f_copy_pins f_copy_count f_logic_ones f_logic_unknowns f_logic_settled w0 w6 w1 w5 w4 w3 w2 f_hist_next f_hist_held f_ring_cells f_kept_cells f_sight_steps f_sight_gates f_sight_values f_sight_truths f_sight_held X) ∧ Q r w0 w1 w2 w3 w4 w5 w6) := by
  refine CtI.of (by decide) rfl (Nat.le_of_ble_eq_true rfl) ?_
  intro p e s m args below meth c A Z E hret ls hl hw
  have E : gE p m c cX4_firstSlot 6 s args RX4 D [(cI, .int), (cZ, .boolean)] A := E
  have hx := E.1.1
  have hb := E.1.2.1
  have hl : lv_has ls 6 [(0, .ref (ad 14)), (1, .ref (ad 29)), (2, .ref (ad 17)), (3, .int p3), (4, .int p4)] := hl
  have L12 : ∀ (n : Nat) (x5 : Int32) (f_sched_available : Nat → Int32) (f_sched_coming : Nat → Int32) (f_sched_lastSent : Int32) (f_sched_sent : Int32) (f_sched_taken : Int32) (f_sched_waiting : Int32) (f_sched_wanted : Nat → Int32) (H : Heap) (locs : List Loc) (ls : Array Slot), wp_X4_firstSlot_h12 f_plan_chips f_plan_firsts f_plan_gates f_plan_inputs f_plan_registers f_plan_seconds f_plan_sourceSets f_now_pins f_now_places p3 p4 Q  n x5 f_sched_available f_sched_coming f_sched_lastSent f_sched_sent f_sched_taken f_sched_waiting f_sched_wanted → gW D s A (wC ad cI cZ f_keptSlots f_trace f_lastSeed f_text_letters f_text_length f_reader_place f_reader_greatestSource f_plan_chips f_plan_firstPins f_plan_firstPlaces f_plan_gates f_plan_inputs f_plan_registers f_plan_slowRegisters f_plan_kinds f_plan_firsts f_plan_seconds f_plan_clocks f_plan_sourceSets f_spare_chips f_spare_firstPins f_spare_firstPlaces f_spare_gates f_spare_inputs f_spare_registers f_spare_slowRegisters f_spare_kinds f_spare_firsts f_spare_seconds f_spare_clocks f_spare_sourceSets f_now_ones f_now_unknowns f_now_places f_now_pins f_now_count f_copy_ones f_copy_unknowns f_copy_places f_copy_pins f_copy_count f_logic_ones f_logic_unknowns f_logic_settled f_sched_available f_sched_wanted f_sched_coming f_sched_waiting f_sched_taken f_sched_sent f_sched_lastSent f_hist_next f_hist_held f_ring_cells f_kept_cells f_sight_steps f_sight_gates f_sight_values f_sight_truths f_sight_held X) H locs → lv_has ls 6 [(0, .ref (ad 14)), (1, .ref (ad 29)), (2, .ref (ad 17)), (3, .int p3), (4, .int p4), (5, .int x5)] → W p l e ({ frames := 4, cells := 0, slots := 0, locals := 94 } : Room) s m args below meth c H locs 0 0 Z (F0 m 12 ls []) := by
    intro n
    induction n with
    | zero => intro x5 f_sched_available f_sched_coming f_sched_lastSent f_sched_sent f_sched_taken f_sched_waiting f_sched_wanted H locs ls h; exact False.elim h
    | succ n12 ih12 =>
      intro x5 f_sched_available f_sched_coming f_sched_lastSent f_sched_sent f_sched_taken f_sched_waiting f_sched_wanted H locs ls h hw hl
      have h : wp_X4_firstSlot_b12 f_plan_chips f_plan_firsts f_plan_gates f_plan_inputs f_plan_registers f_plan_seconds f_plan_sourceSets f_now_pins f_now_places p3 p4 Q (wp_X4_firstSlot_h12 f_plan_chips f_plan_firsts f_plan_gates f_plan_inputs f_plan_registers f_plan_seconds f_plan_sourceSets f_now_pins f_now_places p3 p4 Q  n12) x5 f_sched_available f_sched_coming f_sched_lastSent f_sched_sent f_sched_taken f_sched_waiting f_sched_wanted := h
      unfold wp_X4_firstSlot_b12 at h
      refine lv_iload hx hb dX4_firstSlot_12 (lv_at hl 5 rfl) ?_
      refine lv_bipush (v := 31) hx hb dX4_firstSlot_14 (by decide) ?_
      refine lv_icmp_ge (tgt := 69) hx hb dX4_firstSlot_16 (by decide) (fun c1 => ?_) (fun c1 => ?_)
      · have h := h.1 c1
        refine lv_bipush (v := -9) hx hb dX4_firstSlot_69 (by decide) ?_
        exact hret _ _ _ _ _ _ ⟨_, _, _, _, _, _, _, rfl, h⟩ hw dX4_firstSlot_71
      · have h := h.2 c1
        refine lv_aload_n hx hb dX4_firstSlot_19 rfl (lv_at hl 0 rfl) ?_
        refine lv_aload_n hx hb dX4_firstSlot_20 rfl (lv_at hl 1 rfl) ?_
        refine lv_aload_n hx hb dX4_firstSlot_21 rfl (lv_at hl 2 rfl) ?_
        refine gC_X4_45_now E hw dX4_firstSlot_22 ?_
        refine g_aV E hw (g_rV E hw (c_X4_settle_plan h _) ym_X4_settle k_432 ⟨rfl, rfl⟩ ⟨Nat.le_of_ble_eq_true rfl, Nat.le_of_ble_eq_true rfl⟩ 14 rfl rfl rfl rfl hl.1 rfl (Nat.le_of_ble_eq_true rfl) ⟨Nat.zero_le _, Nat.zero_le _⟩ dX4_firstSlot_25) (fun u H locs hq hw => ?_)
        obtain ⟨y3, y4, hu, h⟩ := hq
        rw [hu] at hw
        refine lv_aload_n hx hb dX4_firstSlot_28 rfl (lv_at hl 0 rfl) ?_
        refine gC_X4_9_sched E hw dX4_firstSlot_29 ?_
        refine lv_iload hx hb dX4_firstSlot_32 (lv_at hl 4 rfl) ?_
        refine g_aI E hw (g_rSN E hw (c_X9_cell (q0 := 13) rfl h _) ym_X9_cell km_22 ⟨rfl, rfl⟩ ⟨Nat.le_of_ble_eq_true rfl, Nat.le_of_ble_eq_true rfl⟩ rfl hl.1 rfl (Nat.le_of_ble_eq_true rfl) ⟨Nat.zero_le _, Nat.zero_le _⟩ dX4_firstSlot_34) (fun r5 u H locs hq hw => ?_)
        obtain ⟨hu, h⟩ := hq
        rw [hu] at hw
        refine lv_iload_n hx hb dX4_firstSlot_37 rfl (lv_at hl 3 rfl) ?_
        refine g_aI E hw (g_rSN E hw (c_X9_bit h _) ym_X9_bit km_21 ⟨rfl, rfl⟩ ⟨Nat.le_of_ble_eq_true rfl, Nat.le_of_ble_eq_true rfl⟩ rfl hl.1 rfl (Nat.le_of_ble_eq_true rfl) ⟨Nat.zero_le _, Nat.zero_le _⟩ dX4_firstSlot_38) (fun r6 u H locs hq hw => ?_)
        obtain ⟨hu, h⟩ := hq
        rw [hu] at hw
        refine lv_iand hx hb dX4_firstSlot_41 ?_
        refine lv_if_eq (tgt := 48) hx hb dX4_firstSlot_42 (by decide) (fun c7 => ?_) (fun c7 => ?_)
        · have h := h.1 c7
          refine lv_aload_n hx hb dX4_firstSlot_48 rfl (lv_at hl 0 rfl) ?_
          refine lv_aload_n hx hb dX4_firstSlot_49 rfl (lv_at hl 1 rfl) ?_
          refine lv_aload_n hx hb dX4_firstSlot_50 rfl (lv_at hl 2 rfl) ?_
          refine gC_X4_58_now E hw dX4_firstSlot_51 ?_
          refine g_aI E hw (g_rV E hw (c_X4_sends_plan h _) ym_X4_sends k_436 ⟨rfl, rfl⟩ ⟨Nat.le_of_ble_eq_true rfl, Nat.le_of_ble_eq_true rfl⟩ 14 rfl rfl rfl rfl hl.1 rfl (Nat.le_of_ble_eq_true rfl) ⟨Nat.zero_le _, Nat.zero_le _⟩ dX4_firstSlot_54) (fun r8 u H locs hq hw => ?_)
          obtain ⟨y9, y10, y11, y12, y13, hu, h⟩ := hq
          rw [hu] at hw
          refine lv_if_ne (tgt := 63) hx hb dX4_firstSlot_57 (by decide) (fun c14 => ?_) (fun c14 => ?_)
          · have h := h.1 c14
            obtain ⟨v15, ev15⟩ : ∃ y : Int32, y = x5 + 1 := ⟨_, rfl⟩
            have h := h v15 ev15
            refine lv_iinc (v := v15) (lv' := [(5, .int v15), (0, .ref (ad 14)), (1, .ref (ad 29)), (2, .ref (ad 17)), (3, .int p3), (4, .int p4)]) hx hb dX4_firstSlot_63 hl (k := 5) rfl (by rw [ev15]; rfl) (by decide) rfl (fun ls hl => ?_)
            refine lv_goto (tgt := 12) hx hb dX4_firstSlot_66 (by decide) ?_
            exact ih12 v15 y9 y10 y11 y12 y13 y4 f_sched_wanted _ _ _ h hw (lv_sub hl [1, 2, 3, 4, 5, 0] rfl)
          · have h := h.2 c14
            refine lv_goto (tgt := 69) hx hb dX4_firstSlot_60 (by decide) ?_
            refine lv_bipush (v := -9) hx hb dX4_firstSlot_69 (by decide) ?_
            exact hret _ _ _ _ _ _ ⟨_, _, _, _, _, _, _, rfl, h⟩ hw dX4_firstSlot_71
        · have h := h.2 c7
          refine lv_iload hx hb dX4_firstSlot_45 (lv_at hl 5 rfl) ?_
          exact hret _ _ _ _ _ _ ⟨_, _, _, _, _, _, _, rfl, h⟩ hw dX4_firstSlot_47
  unfold wp_X4_firstSlot at h
  refine lv_aload_n hx hb dX4_firstSlot_0 rfl (lv_at hl 0 rfl) ?_
  refine lv_aload_n hx hb dX4_firstSlot_1 rfl (lv_at hl 1 rfl) ?_
  refine lv_aload_n hx hb dX4_firstSlot_2 rfl (lv_at hl 2 rfl) ?_
  refine gC_X4_45_now E hw dX4_firstSlot_3 ?_
  refine g_aV E hw (g_rV E hw (c_X4_begin_plan h _) ym_X4_begin k_417 ⟨rfl, rfl⟩ ⟨Nat.le_of_ble_eq_true rfl, Nat.le_of_ble_eq_true rfl⟩ 14 rfl rfl rfl rfl hl.1 rfl (Nat.le_of_ble_eq_true rfl) ⟨Nat.zero_le _, Nat.zero_le _⟩ dX4_firstSlot_6) (fun u H locs hq hw => ?_)
  obtain ⟨y17, y18, y19, y20, y21, y22, hu, h⟩ := hq
  rw [hu] at hw
  refine lv_iconst (v := 0) hx hb dX4_firstSlot_9 (by decide) ?_
  refine lv_istore (lv' := [(5, .int (0 : Int32)), (0, .ref (ad 14)), (1, .ref (ad 29)), (2, .ref (ad 17)), (3, .int p3), (4, .int p4)]) hx hb dX4_firstSlot_10 hl (by decide) rfl (fun ls hl => ?_)
  obtain ⟨n, h⟩ := h
  exact L12 n (0 : Int32) y17 f_sched_coming y18 y19 y20 y21 y22 _ _ _ h hw (lv_sub hl [1, 2, 3, 4, 5, 0] rfl)
set_option maxRecDepth 100000 in
set_option maxHeartbeats 4000000 in
theorem c_X4_run_plan {l : Launch} {D : va_G} {cI cZ : ClassId} {ad : Nat → Nat} {f_keptSlots : Int32} {f_trace : Nat → Int32} {f_lastSeed : Int64} {f_text_letters : Nat → Int32} {f_text_length : Int32} {f_reader_place : Int32} {f_reader_greatestSource : Int32} {f_plan_chips : Int32} {f_plan_firstPins : Int32} {f_plan_firstPlaces : Int32} {f_plan_gates : Int32} {f_plan_inputs : Int32} {f_plan_registers : Int32} {f_plan_slowRegisters : Int32} {f_plan_kinds : Nat → Int32} {f_plan_firsts : Nat → Int32} {f_plan_seconds : Nat → Int32} {f_plan_clocks : Nat → Int32} {f_plan_sourceSets : Nat → Int32} {f_spare_chips : Int32} {f_spare_firstPins : Int32} {f_spare_firstPlaces : Int32} {f_spare_gates : Int32} {f_spare_inputs : Int32} {f_spare_registers : Int32} {f_spare_slowRegisters : Int32} {f_spare_kinds : Nat → Int32} {f_spare_firsts : Nat → Int32} {f_spare_seconds : Nat → Int32} {f_spare_clocks : Nat → Int32} {f_spare_sourceSets : Nat → Int32} {f_now_ones : Int32} {f_now_unknowns : Int32} {f_now_places : Int32} {f_now_pins : Int32} {f_now_count : Int32} {f_copy_ones : Int32} {f_copy_unknowns : Int32} {f_copy_places : Int32} {f_copy_pins : Int32} {f_copy_count : Int32} {f_logic_ones : Int32} {f_logic_unknowns : Int32} {f_logic_settled : Int32} {f_sched_available : Nat → Int32} {f_sched_wanted : Nat → Int32} {f_sched_coming : Nat → Int32} {f_sched_waiting : Int32} {f_sched_taken : Int32} {f_sched_sent : Int32} {f_sched_lastSent : Int32} {f_hist_next : Int32} {f_hist_held : Int32} {f_ring_cells : Nat → Int32} {f_kept_cells : Nat → Int32} {f_sight_steps : Nat → Int32} {f_sight_gates : Nat → Int32} {f_sight_values : Nat → Int32} {f_sight_truths : Nat → Int32} {f_sight_held : Int32} {X : va_W} {p2 : Int32} {p3 : Int32} {Q : (Nat → Int32) → (Nat → Int32) → Int32 → Int32 → Int32 → Int32 → (Nat → Int32) → Prop} (h : wp_X4_run f_sched_available f_sched_coming f_sched_lastSent f_sched_sent f_sched_taken f_sched_waiting f_sched_wanted f_plan_chips f_plan_firsts f_plan_gates f_plan_inputs f_plan_registers f_plan_seconds f_plan_sourceSets p2 p3 Q) : CtV l yX4_run cX4_run 5 none ({ frames := 4, cells := 0, slots := 0, locals := 94 } : Room) D [(cI, .int), (cZ, .boolean)] [.ref (ad 14), .ref (ad 29), .int p2, .int p3] (wC ad cI cZ f_keptSlots f_trace f_lastSeed f_text_letters f_text_length f_reader_place f_reader_greatestSource f_plan_chips f_plan_firstPins f_plan_firstPlaces f_plan_gates f_plan_inputs f_plan_registers f_plan_slowRegisters f_plan_kinds f_plan_firsts f_plan_seconds f_plan_clocks f_plan_sourceSets f_spare_chips f_spare_firstPins f_spare_firstPlaces f_spare_gates f_spare_inputs f_spare_registers f_spare_slowRegisters f_spare_kinds f_spare_firsts f_spare_seconds f_spare_clocks f_spare_sourceSets f_now_ones f_now_unknowns f_now_places f_now_pins f_now_count f_copy_ones f_copy_unknowns f_copy_places f_copy_pins f_copy_count f_logic_ones f_logic_unknowns f_logic_settled f_sched_available f_sched_wanted f_sched_coming f_sched_waiting f_sched_taken f_sched_sent f_sched_lastSent f_hist_next f_hist_held f_ring_cells f_kept_cells f_sight_steps f_sight_gates f_sight_values f_sight_truths f_sight_held X) (fun  u => ∃ w0 w1 w2 w3 w4 w5 w6, u = (wC ad cI cZ f_keptSlots f_trace f_lastSeed f_text_letters f_text_length f_reader_place f_reader_greatestSource f_plan_chips f_plan_firstPins f_plan_firstPlaces f_plan_gates f_plan_inputs f_plan_registers f_plan_slowRegisters f_plan_kinds f_plan_firsts f_plan_seconds f_plan_clocks f_plan_sourceSets f_spare_chips f_spare_firstPins f_spare_firstPlaces f_spare_gates f_spare_inputs f_spare_registers f_spare_slowRegisters f_spare_kinds f_spare_firsts f_spare_seconds f_spare_clocks f_spare_sourceSets f_now_ones f_now_unknowns f_now_places f_now_pins f_now_count f_copy_ones f_copy_unknowns f_copy_places f_copy_pins f_copy_count f_logic_ones f_logic_unknowns f_logic_settled w0 w6 w1 w5 w4 w3 w2 f_hist_next f_hist_held f_ring_cells f_kept_cells f_sight_steps f_sight_gates f_sight_values f_sight_truths f_sight_held X) ∧ Q w0 w1 w2 w3 w4 w5 w6) := by
  refine CtV.of (by decide) rfl (Nat.le_of_ble_eq_true rfl) ?_
  intro p e s m args below meth c A Z E hret ls hl hw
  have E : gE p m c cX4_run 5 s args RX4 D [(cI, .int), (cZ, .boolean)] A := E
  have hx := E.1.1
  have hb := E.1.2.1
  have hl : lv_has ls 5 [(0, .ref (ad 14)), (1, .ref (ad 29)), (2, .int p2), (3, .int p3)] := hl
  have L9 : ∀ (n : Nat) (x4 : Int32) (f_sched_available : Nat → Int32) (f_sched_coming : Nat → Int32) (f_sched_lastSent : Int32) (f_sched_sent : Int32) (f_sched_taken : Int32) (f_sched_waiting : Int32) (f_sched_wanted : Nat → Int32) (H : Heap) (locs : List Loc) (ls : Array Slot), wp_X4_run_h9 f_plan_chips f_plan_firsts f_plan_gates f_plan_inputs f_plan_registers f_plan_seconds f_plan_sourceSets p2 p3 Q  n x4 f_sched_available f_sched_coming f_sched_lastSent f_sched_sent f_sched_taken f_sched_waiting f_sched_wanted → gW D s A (wC ad cI cZ f_keptSlots f_trace f_lastSeed f_text_letters f_text_length f_reader_place f_reader_greatestSource f_plan_chips f_plan_firstPins f_plan_firstPlaces f_plan_gates f_plan_inputs f_plan_registers f_plan_slowRegisters f_plan_kinds f_plan_firsts f_plan_seconds f_plan_clocks f_plan_sourceSets f_spare_chips f_spare_firstPins f_spare_firstPlaces f_spare_gates f_spare_inputs f_spare_registers f_spare_slowRegisters f_spare_kinds f_spare_firsts f_spare_seconds f_spare_clocks f_spare_sourceSets f_now_ones f_now_unknowns f_now_places f_now_pins f_now_count f_copy_ones f_copy_unknowns f_copy_places f_copy_pins f_copy_count f_logic_ones f_logic_unknowns f_logic_settled f_sched_available f_sched_wanted f_sched_coming f_sched_waiting f_sched_taken f_sched_sent f_sched_lastSent f_hist_next f_hist_held f_ring_cells f_kept_cells f_sight_steps f_sight_gates f_sight_values f_sight_truths f_sight_held X) H locs → lv_has ls 5 [(0, .ref (ad 14)), (1, .ref (ad 29)), (2, .int p2), (3, .int p3), (4, .int x4)] → W p l e ({ frames := 4, cells := 0, slots := 0, locals := 94 } : Room) s m args below meth c H locs 0 0 Z (F0 m 9 ls []) := by
    intro n
    induction n with
    | zero => intro x4 f_sched_available f_sched_coming f_sched_lastSent f_sched_sent f_sched_taken f_sched_waiting f_sched_wanted H locs ls h; exact False.elim h
    | succ n9 ih9 =>
      intro x4 f_sched_available f_sched_coming f_sched_lastSent f_sched_sent f_sched_taken f_sched_waiting f_sched_wanted H locs ls h hw hl
      have h : wp_X4_run_b9 f_plan_chips f_plan_firsts f_plan_gates f_plan_inputs f_plan_registers f_plan_seconds f_plan_sourceSets p2 p3 Q (wp_X4_run_h9 f_plan_chips f_plan_firsts f_plan_gates f_plan_inputs f_plan_registers f_plan_seconds f_plan_sourceSets p2 p3 Q  n9) x4 f_sched_available f_sched_coming f_sched_lastSent f_sched_sent f_sched_taken f_sched_waiting f_sched_wanted := h
      unfold wp_X4_run_b9 at h
      refine lv_iload hx hb dX4_run_9 (lv_at hl 4 rfl) ?_
      refine lv_bipush (v := 31) hx hb dX4_run_11 (by decide) ?_
      refine lv_icmp_ge (tgt := 40) hx hb dX4_run_13 (by decide) (fun c1 => ?_) (fun c1 => ?_)
      · have h := h.1 c1
        exact hret _ _ _ _ _ ⟨_, _, _, _, _, _, _, rfl, h⟩ hw dX4_run_40
      · have h := h.2 c1
        refine lv_aload_n hx hb dX4_run_16 rfl (lv_at hl 0 rfl) ?_
        refine lv_aload_n hx hb dX4_run_17 rfl (lv_at hl 1 rfl) ?_
        refine lv_iload_n hx hb dX4_run_18 rfl (lv_at hl 2 rfl) ?_
        refine g_aV E hw (g_rV E hw (c_X4_settle_plan h _) ym_X4_settle k_432 ⟨rfl, rfl⟩ ⟨Nat.le_of_ble_eq_true rfl, Nat.le_of_ble_eq_true rfl⟩ 14 rfl rfl rfl rfl hl.1 rfl (Nat.le_of_ble_eq_true rfl) ⟨Nat.zero_le _, Nat.zero_le _⟩ dX4_run_19) (fun u H locs hq hw => ?_)
        obtain ⟨y3, y4, hu, h⟩ := hq
        rw [hu] at hw
        refine lv_aload_n hx hb dX4_run_22 rfl (lv_at hl 0 rfl) ?_
        refine lv_aload_n hx hb dX4_run_23 rfl (lv_at hl 1 rfl) ?_
        refine lv_iload_n hx hb dX4_run_24 rfl (lv_at hl 3 rfl) ?_
        refine g_aI E hw (g_rV E hw (c_X4_sends_plan h _) ym_X4_sends k_436 ⟨rfl, rfl⟩ ⟨Nat.le_of_ble_eq_true rfl, Nat.le_of_ble_eq_true rfl⟩ 14 rfl rfl rfl rfl hl.1 rfl (Nat.le_of_ble_eq_true rfl) ⟨Nat.zero_le _, Nat.zero_le _⟩ dX4_run_25) (fun r5 u H locs hq hw => ?_)
        obtain ⟨y6, y7, y8, y9, y10, hu, h⟩ := hq
        rw [hu] at hw
        refine lv_if_ne (tgt := 34) hx hb dX4_run_28 (by decide) (fun c11 => ?_) (fun c11 => ?_)
        · have h := h.1 c11
          obtain ⟨v12, ev12⟩ : ∃ y : Int32, y = x4 + 1 := ⟨_, rfl⟩
          have h := h v12 ev12
          refine lv_iinc (v := v12) (lv' := [(4, .int v12), (0, .ref (ad 14)), (1, .ref (ad 29)), (2, .int p2), (3, .int p3)]) hx hb dX4_run_34 hl (k := 4) rfl (by rw [ev12]; rfl) (by decide) rfl (fun ls hl => ?_)
          refine lv_goto (tgt := 9) hx hb dX4_run_37 (by decide) ?_
          exact ih9 v12 y6 y7 y8 y9 y10 y4 f_sched_wanted _ _ _ h hw (lv_sub hl [1, 2, 3, 4, 0] rfl)
        · have h := h.2 c11
          refine lv_goto (tgt := 40) hx hb dX4_run_31 (by decide) ?_
          exact hret _ _ _ _ _ ⟨_, _, _, _, _, _, _, rfl, h⟩ hw dX4_run_40
  unfold wp_X4_run at h
  refine lv_aload_n hx hb dX4_run_0 rfl (lv_at hl 0 rfl) ?_
  refine lv_aload_n hx hb dX4_run_1 rfl (lv_at hl 1 rfl) ?_
  refine lv_iload_n hx hb dX4_run_2 rfl (lv_at hl 2 rfl) ?_
  refine g_aV E hw (g_rV E hw (c_X4_begin_plan h _) ym_X4_begin k_417 ⟨rfl, rfl⟩ ⟨Nat.le_of_ble_eq_true rfl, Nat.le_of_ble_eq_true rfl⟩ 14 rfl rfl rfl rfl hl.1 rfl (Nat.le_of_ble_eq_true rfl) ⟨Nat.zero_le _, Nat.zero_le _⟩ dX4_run_3) (fun u H locs hq hw => ?_)
  obtain ⟨y14, y15, y16, y17, y18, y19, hu, h⟩ := hq
  rw [hu] at hw
  refine lv_iconst (v := 0) hx hb dX4_run_6 (by decide) ?_
  refine lv_istore (lv' := [(4, .int (0 : Int32)), (0, .ref (ad 14)), (1, .ref (ad 29)), (2, .int p2), (3, .int p3)]) hx hb dX4_run_7 hl (by decide) rfl (fun ls hl => ?_)
  obtain ⟨n, h⟩ := h
  exact L9 n (0 : Int32) y14 f_sched_coming y15 y16 y17 y18 y19 _ _ _ h hw (lv_sub hl [1, 2, 3, 4, 0] rfl)
set_option maxRecDepth 100000 in
set_option maxHeartbeats 4000000 in
theorem c_X4_isBelow {l : Launch} {D : va_G} {cI cZ : ClassId} {ad : Nat → Nat} {f_keptSlots : Int32} {f_trace : Nat → Int32} {f_lastSeed : Int64} {f_text_letters : Nat → Int32} {f_text_length : Int32} {f_reader_place : Int32} {f_reader_greatestSource : Int32} {f_plan_chips : Int32} {f_plan_firstPins : Int32} {f_plan_firstPlaces : Int32} {f_plan_gates : Int32} {f_plan_inputs : Int32} {f_plan_registers : Int32} {f_plan_slowRegisters : Int32} {f_plan_kinds : Nat → Int32} {f_plan_firsts : Nat → Int32} {f_plan_seconds : Nat → Int32} {f_plan_clocks : Nat → Int32} {f_plan_sourceSets : Nat → Int32} {f_spare_chips : Int32} {f_spare_firstPins : Int32} {f_spare_firstPlaces : Int32} {f_spare_gates : Int32} {f_spare_inputs : Int32} {f_spare_registers : Int32} {f_spare_slowRegisters : Int32} {f_spare_kinds : Nat → Int32} {f_spare_firsts : Nat → Int32} {f_spare_seconds : Nat → Int32} {f_spare_clocks : Nat → Int32} {f_spare_sourceSets : Nat → Int32} {f_now_ones : Int32} {f_now_unknowns : Int32} {f_now_places : Int32} {f_now_pins : Int32} {f_now_count : Int32} {f_copy_ones : Int32} {f_copy_unknowns : Int32} {f_copy_places : Int32} {f_copy_pins : Int32} {f_copy_count : Int32} {f_logic_ones : Int32} {f_logic_unknowns : Int32} {f_logic_settled : Int32} {f_sched_available : Nat → Int32} {f_sched_wanted : Nat → Int32} {f_sched_coming : Nat → Int32} {f_sched_waiting : Int32} {f_sched_taken : Int32} {f_sched_sent : Int32} {f_sched_lastSent : Int32} {f_hist_next : Int32} {f_hist_held : Int32} {f_ring_cells : Nat → Int32} {f_kept_cells : Nat → Int32} {f_sight_steps : Nat → Int32} {f_sight_gates : Nat → Int32} {f_sight_values : Nat → Int32} {f_sight_truths : Nat → Int32} {f_sight_held : Int32} {X : va_W} {p1 : Int32} {p2 : Int32} {Q : Int32 → Prop} (h : wp_X4_isBelow f_sched_sent f_sched_taken p1 p2 Q) : CtI l yX4_isBelow cX4_isBelow 3 (some .boolean) ({ frames := 0, cells := 0, slots := 0, locals := 0 } : Room) D [(cI, .int), (cZ, .boolean)] [.ref (ad 14), .int p1, .int p2] (wC ad cI cZ f_keptSlots f_trace f_lastSeed f_text_letters f_text_length f_reader_place f_reader_greatestSource f_plan_chips f_plan_firstPins f_plan_firstPlaces f_plan_gates f_plan_inputs f_plan_registers f_plan_slowRegisters f_plan_kinds f_plan_firsts f_plan_seconds f_plan_clocks f_plan_sourceSets f_spare_chips f_spare_firstPins f_spare_firstPlaces f_spare_gates f_spare_inputs f_spare_registers f_spare_slowRegisters f_spare_kinds f_spare_firsts f_spare_seconds f_spare_clocks f_spare_sourceSets f_now_ones f_now_unknowns f_now_places f_now_pins f_now_count f_copy_ones f_copy_unknowns f_copy_places f_copy_pins f_copy_count f_logic_ones f_logic_unknowns f_logic_settled f_sched_available f_sched_wanted f_sched_coming f_sched_waiting f_sched_taken f_sched_sent f_sched_lastSent f_hist_next f_hist_held f_ring_cells f_kept_cells f_sight_steps f_sight_gates f_sight_values f_sight_truths f_sight_held X) (fun r u => u = (wC ad cI cZ f_keptSlots f_trace f_lastSeed f_text_letters f_text_length f_reader_place f_reader_greatestSource f_plan_chips f_plan_firstPins f_plan_firstPlaces f_plan_gates f_plan_inputs f_plan_registers f_plan_slowRegisters f_plan_kinds f_plan_firsts f_plan_seconds f_plan_clocks f_plan_sourceSets f_spare_chips f_spare_firstPins f_spare_firstPlaces f_spare_gates f_spare_inputs f_spare_registers f_spare_slowRegisters f_spare_kinds f_spare_firsts f_spare_seconds f_spare_clocks f_spare_sourceSets f_now_ones f_now_unknowns f_now_places f_now_pins f_now_count f_copy_ones f_copy_unknowns f_copy_places f_copy_pins f_copy_count f_logic_ones f_logic_unknowns f_logic_settled f_sched_available f_sched_wanted f_sched_coming f_sched_waiting f_sched_taken f_sched_sent f_sched_lastSent f_hist_next f_hist_held f_ring_cells f_kept_cells f_sight_steps f_sight_gates f_sight_values f_sight_truths f_sight_held X) ∧ Q r) := by
  refine CtI.ofZ (by decide) rfl (Nat.le_of_ble_eq_true rfl) ?_
  intro p e s m args below meth c A Z E hret ls hl hw
  have E : gE p m c cX4_isBelow 3 s args RX4 D [(cI, .int), (cZ, .boolean)] A := E
  have hx := E.1.1
  have hb := E.1.2.1
  have hl : lv_has ls 3 [(0, .ref (ad 14)), (1, .int p1), (2, .int p2)] := hl
  have J24 : ∀  (H : Heap) (locs : List Loc) (ls : Array Slot), wp_X4_isBelow_b24 f_sched_sent f_sched_taken p1 p2 Q   → gW D s A (wC ad cI cZ f_keptSlots f_trace f_lastSeed f_text_letters f_text_length f_reader_place f_reader_greatestSource f_plan_chips f_plan_firstPins f_plan_firstPlaces f_plan_gates f_plan_inputs f_plan_registers f_plan_slowRegisters f_plan_kinds f_plan_firsts f_plan_seconds f_plan_clocks f_plan_sourceSets f_spare_chips f_spare_firstPins f_spare_firstPlaces f_spare_gates f_spare_inputs f_spare_registers f_spare_slowRegisters f_spare_kinds f_spare_firsts f_spare_seconds f_spare_clocks f_spare_sourceSets f_now_ones f_now_unknowns f_now_places f_now_pins f_now_count f_copy_ones f_copy_unknowns f_copy_places f_copy_pins f_copy_count f_logic_ones f_logic_unknowns f_logic_settled f_sched_available f_sched_wanted f_sched_coming f_sched_waiting f_sched_taken f_sched_sent f_sched_lastSent f_hist_next f_hist_held f_ring_cells f_kept_cells f_sight_steps f_sight_gates f_sight_values f_sight_truths f_sight_held X) H locs → lv_has ls 3 [] → W p l e ({ frames := 0, cells := 0, slots := 0, locals := 0 } : Room) s m args below meth c H locs 0 0 Z (F0 m 24 ls []) := by
    intro  H locs ls h hw hl
    unfold wp_X4_isBelow_b24 at h
    refine lv_iconst (v := 1) hx hb dX4_isBelow_24 (by decide) ?_
    refine lv_goto (tgt := 29) hx hb dX4_isBelow_25 (by decide) ?_
    exact hret _ _ _ _ _ _ (Or.inr rfl) ⟨rfl, h⟩ hw dX4_isBelow_29
  have J28 : ∀  (H : Heap) (locs : List Loc) (ls : Array Slot), wp_X4_isBelow_b28 f_sched_sent f_sched_taken p1 p2 Q   → gW D s A (wC ad cI cZ f_keptSlots f_trace f_lastSeed f_text_letters f_text_length f_reader_place f_reader_greatestSource f_plan_chips f_plan_firstPins f_plan_firstPlaces f_plan_gates f_plan_inputs f_plan_registers f_plan_slowRegisters f_plan_kinds f_plan_firsts f_plan_seconds f_plan_clocks f_plan_sourceSets f_spare_chips f_spare_firstPins f_spare_firstPlaces f_spare_gates f_spare_inputs f_spare_registers f_spare_slowRegisters f_spare_kinds f_spare_firsts f_spare_seconds f_spare_clocks f_spare_sourceSets f_now_ones f_now_unknowns f_now_places f_now_pins f_now_count f_copy_ones f_copy_unknowns f_copy_places f_copy_pins f_copy_count f_logic_ones f_logic_unknowns f_logic_settled f_sched_available f_sched_wanted f_sched_coming f_sched_waiting f_sched_taken f_sched_sent f_sched_lastSent f_hist_next f_hist_held f_ring_cells f_kept_cells f_sight_steps f_sight_gates f_sight_values f_sight_truths f_sight_held X) H locs → lv_has ls 3 [] → W p l e ({ frames := 0, cells := 0, slots := 0, locals := 0 } : Room) s m args below meth c H locs 0 0 Z (F0 m 28 ls []) := by
    intro  H locs ls h hw hl
    unfold wp_X4_isBelow_b28 at h
    refine lv_iconst (v := 0) hx hb dX4_isBelow_28 (by decide) ?_
    exact hret _ _ _ _ _ _ (Or.inl rfl) ⟨rfl, h⟩ hw dX4_isBelow_29
  unfold wp_X4_isBelow at h
  refine lv_aload_n hx hb dX4_isBelow_0 rfl (lv_at hl 0 rfl) ?_
  refine gC_X4_25_sched E hw dX4_isBelow_1 ?_
  refine lv_iload_n hx hb dX4_isBelow_4 rfl (lv_at hl 1 rfl) ?_
  refine lv_icmp_lt (tgt := 24) hx hb dX4_isBelow_5 (by decide) (fun c1 => ?_) (fun c1 => ?_)
  · have h := h.1 c1
    exact J24  _ _ _ h hw (lv_sub hl [] rfl)
  · have h := h.2 c1
    refine lv_aload_n hx hb dX4_isBelow_8 rfl (lv_at hl 0 rfl) ?_
    refine gC_X4_25_sched E hw dX4_isBelow_9 ?_
    refine lv_iload_n hx hb dX4_isBelow_12 rfl (lv_at hl 1 rfl) ?_
    refine lv_icmp_ne (tgt := 28) hx hb dX4_isBelow_13 (by decide) (fun c2 => ?_) (fun c2 => ?_)
    · have h := h.1 c2
      exact J28  _ _ _ h hw (lv_sub hl [] rfl)
    · have h := h.2 c2
      refine lv_aload_n hx hb dX4_isBelow_16 rfl (lv_at hl 0 rfl) ?_
      refine gC_X4_28_sched E hw dX4_isBelow_17 ?_
      refine lv_iload_n hx hb dX4_isBelow_20 rfl (lv_at hl 2 rfl) ?_
      refine lv_icmp_ge (tgt := 28) hx hb dX4_isBelow_21 (by decide) (fun c3 => ?_) (fun c3 => ?_)
      · have h := h.1 c3
        exact J28  _ _ _ h hw (lv_sub hl [] rfl)
      · have h := h.2 c3
        exact J24  _ _ _ h hw (lv_sub hl [] rfl)
