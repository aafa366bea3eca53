set_option maxRecDepth 20000 in
set_option maxHeartbeats 2000000 in
theorem law_undo {k : Nat} {f_keptSlots : Int32} {f_lastSeed : Int64} {f_text_letters : Nat → Int32} {f_text_length : Int32} {f_plan_chips : Int32} {f_plan_gates : Int32} {f_plan_inputs : Int32} {f_plan_registers : Int32} {f_plan_slowRegisters : Int32} {f_plan_kinds : Nat → Int32} {f_plan_firsts : Nat → Int32} {f_plan_seconds : Nat → Int32} {f_plan_clocks : Nat → Int32} {f_plan_sourceSets : Nat → Int32} {f_now_ones : Int32} {f_now_unknowns : Int32} {f_now_places : Int32} {f_now_pins : Int32} {f_now_count : Int32} {f_hist_next : Int32} {f_hist_held : Int32} {f_ring_cells : Nat → Int32} {f_kept_cells : Nat → Int32} {f_sight_steps : Nat → Int32} {f_sight_gates : Nat → Int32} {f_sight_values : Nat → Int32} {f_sight_truths : Nat → Int32} {f_sight_held : Int32} {m_thrown : Int32} {m_text : Nat → Int32} {m_textSize : Int32} {m_chips : Int32} {m_gates : Int32} {m_kind : Nat → Int32} {m_source : Nat → Int32} {m_second : Nat → Int32} {m_clock : Nat → Int32} {m_page : Nat → Int32} {m_book : Nat → Int32} {m_doings : Int32} {m_kept : Nat → Int32} {m_isKept : Nat → Int32} {m_seen : Int32} {m_seenBehind : Nat → Int32} {m_seenGate : Nat → Int32} {m_seenWorth : Nat → Int32} {m_seenWas : Nat → Int32} {m_seed : Int64} (hk : k < 512) (hI : Inv k f_keptSlots f_lastSeed f_text_letters f_text_length f_plan_chips f_plan_gates f_plan_inputs f_plan_registers f_plan_slowRegisters f_plan_kinds f_plan_firsts f_plan_seconds f_plan_clocks f_plan_sourceSets f_now_ones f_now_unknowns f_now_places f_now_pins f_now_count f_hist_next f_hist_held f_ring_cells f_kept_cells f_sight_steps f_sight_gates f_sight_values f_sight_truths f_sight_held m_text m_textSize m_chips m_gates m_kind m_source m_second m_clock m_page m_book m_doings m_kept m_isKept m_seen m_seenBehind m_seenGate m_seenWorth m_seenWas m_seed)  :
    wp_X9_undo f_hist_held f_hist_next f_ring_cells f_now_count f_now_ones f_now_pins f_now_places f_now_unknowns  (fun r y_hist_held y_hist_next y_now_count y_now_ones y_now_pins y_now_places y_now_unknowns => wp_X10_undo m_book m_doings m_page m_thrown  (fun r2 z_doings z_page z_thrown => r = r2 ∧ Inv (k + 1) f_keptSlots f_lastSeed f_text_letters f_text_length f_plan_chips f_plan_gates f_plan_inputs f_plan_registers f_plan_slowRegisters f_plan_kinds f_plan_firsts f_plan_seconds f_plan_clocks f_plan_sourceSets y_now_ones y_now_unknowns y_now_places y_now_pins y_now_count y_hist_next y_hist_held f_ring_cells f_kept_cells f_sight_steps f_sight_gates f_sight_values f_sight_truths f_sight_held m_text m_textSize m_chips m_gates m_kind m_source m_second m_clock z_page m_book z_doings m_kept m_isKept m_seen m_seenBehind m_seenGate m_seenWorth m_seenWas m_seed)) := by
  have same := inv_mono hI
  obtain ⟨hT, ⟨N, C, kd, s1, s2, ck, hP, ⟨z, hz, hA, hB⟩, hH, hK⟩, hSe, hSd⟩ := hI
  have hN := hP.1.1
  obtain ⟨h, q, zs, hh, hq, rfl, rfl, rfl, hs⟩ := hH
  unfold wp_X9_undo wp_X10_undo wp_X0_recall wp_X0_recall_b27
  by_cases h0 : h = 0
  · subst h0
    exact bn_t rfl (bn_t rfl ⟨rfl, same⟩)
  · have hne : ¬ nI h = 0 := by rw [← nI_0, nI_eq (by omega) (by omega)]; exact h0
    obtain ⟨b1, b2, b3⟩ := hs 0 (by omega)
    have eh : nI h - (1 : Int32) = nI (h - 1) := pk_sub (a := h) (b := 1) (by omega)
    have fin : ∀ j : Nat, j = (q + 13) % 14 → wp_X5_get 70 f_ring_cells f_now_count f_now_ones f_now_pins f_now_places f_now_unknowns (nI j) (fun y3 y4 y5 y6 y7 => ((¬ nI h = 0) → (∀ v6, v6 = nI (h - 1) → (∃ n, wp_X10_undo_h27 m_book (fun r2 z_doings z_page z_thrown => nI (h - 1) = r2 ∧ Inv (k + 1) f_keptSlots f_lastSeed f_text_letters f_text_length f_plan_chips f_plan_gates f_plan_inputs f_plan_registers f_plan_slowRegisters f_plan_kinds f_plan_firsts f_plan_seconds f_plan_clocks f_plan_sourceSets y4 y7 y6 y5 y3 (nI j) (nI (h - 1)) f_ring_cells f_kept_cells f_sight_steps f_sight_gates f_sight_values f_sight_truths f_sight_held m_text m_textSize m_chips m_gates m_kind m_source m_second m_clock z_page m_book z_doings m_kept m_isKept m_seen m_seenBehind m_seenGate m_seenWorth m_seenWas m_seed) n (0 : Int32) v6 m_page (0 : Int32)))) ∧ ((nI h = 0) → (nI (h - 1) = (-3 : Int32) ∧ Inv (k + 1) f_keptSlots f_lastSeed f_text_letters f_text_length f_plan_chips f_plan_gates f_plan_inputs f_plan_registers f_plan_slowRegisters f_plan_kinds f_plan_firsts f_plan_seconds f_plan_clocks f_plan_sourceSets y4 y7 y6 y5 y3 (nI j) (nI (h - 1)) f_ring_cells f_kept_cells f_sight_steps f_sight_gates f_sight_values f_sight_truths f_sight_held m_text m_textSize m_chips m_gates m_kind m_source m_second m_clock m_page m_book (nI h) m_kept m_isKept m_seen m_seenBehind m_seenGate m_seenWorth m_seenWas m_seed))) := by
      intro j hj
      have hj14 : j < 14 := by omega
      refine ev_get (by omega) (by omega) ?_
      refine bn_f hne (all_e ⟨23, ?_⟩)
      refine undo_loop (by omega) (fun t' ht => ⟨rfl, hT, ⟨N, C, kd, s1, s2, ck, hP, ⟨zs 0, b1.mono, ?_, ?_⟩, ?_, hK.mono⟩, hSe, hSd⟩) 22 0 m_page (by omega) (fun j hj => absurd hj (by omega))
      · have b2 : SA N kd (zs 0) (f_ring_cells ((q + 13 - 0) % 14 * 5)) (f_ring_cells ((q + 13 - 0) % 14 * 5 + 1)) (f_ring_cells ((q + 13 - 0) % 14 * 5 + 2)) (f_ring_cells ((q + 13 - 0) % 14 * 5 + 3)) (f_ring_cells ((q + 13 - 0) % 14 * 5 + 4)) := b2
        rw [show (q + 13 - 0) % 14 = j by omega] at b2
        exact b2
      · refine b3.cong hN (fun i hi => ?_)
        rw [ht i hi, show h - 1 - 0 = h - 1 by omega]
      · refine ⟨h - 1, j, fun i => zs (i + 1), by omega, hj14, rfl, rfl, rfl, fun i hi => ?_⟩
        obtain ⟨c1, c2, c3⟩ := hs (i + 1) (by omega)
        refine ⟨c1.mono, ?_, ?_⟩
        · have c2 : SA N kd (zs (i + 1)) (f_ring_cells ((q + 13 - (i + 1)) % 14 * 5)) (f_ring_cells ((q + 13 - (i + 1)) % 14 * 5 + 1)) (f_ring_cells ((q + 13 - (i + 1)) % 14 * 5 + 2)) (f_ring_cells ((q + 13 - (i + 1)) % 14 * 5 + 3)) (f_ring_cells ((q + 13 - (i + 1)) % 14 * 5 + 4)) := c2
          show SA N kd (zs (i + 1)) (f_ring_cells ((j + 13 - i) % 14 * 5)) (f_ring_cells ((j + 13 - i) % 14 * 5 + 1)) (f_ring_cells ((j + 13 - i) % 14 * 5 + 2)) (f_ring_cells ((j + 13 - i) % 14 * 5 + 3)) (f_ring_cells ((j + 13 - i) % 14 * 5 + 4))
          rw [show (j + 13 - i) % 14 = (q + 13 - (i + 1)) % 14 by omega]
          exact c2
        · refine c3.cong hN (fun a ha => ?_)
          rw [show h - 1 - 1 - i = h - 1 - (i + 1) by omega]
    refine bn_f hne (bn_f hne ?_)
    by_cases hq0 : q = 0
    · subst hq0
      refine br_t (by decide) (all_e ?_)
      rw [eh]
      exact fin 13 rfl
    · refine br_f (by rw [← nI_0, nI_leI (by omega) (by omega)]; omega) (all_e ?_)
      rw [eh, show nI q - (1 : Int32) = nI (q - 1) from pk_sub (a := q) (b := 1) (by omega)]
      exact fin (q - 1) (by omega)
set_option maxRecDepth 20000 in
set_option maxHeartbeats 2000000 in
theorem law_keep {k : Nat} {f_keptSlots : Int32} {f_lastSeed : Int64} {f_text_letters : Nat → Int32} {f_text_length : Int32} {f_plan_chips : Int32} {f_plan_gates : Int32} {f_plan_inputs : Int32} {f_plan_registers : Int32} {f_plan_slowRegisters : Int32} {f_plan_kinds : Nat → Int32} {f_plan_firsts : Nat → Int32} {f_plan_seconds : Nat → Int32} {f_plan_clocks : Nat → Int32} {f_plan_sourceSets : Nat → Int32} {f_now_ones : Int32} {f_now_unknowns : Int32} {f_now_places : Int32} {f_now_pins : Int32} {f_now_count : Int32} {f_hist_next : Int32} {f_hist_held : Int32} {f_ring_cells : Nat → Int32} {f_kept_cells : Nat → Int32} {f_sight_steps : Nat → Int32} {f_sight_gates : Nat → Int32} {f_sight_values : Nat → Int32} {f_sight_truths : Nat → Int32} {f_sight_held : Int32} {m_thrown : Int32} {m_text : Nat → Int32} {m_textSize : Int32} {m_chips : Int32} {m_gates : Int32} {m_kind : Nat → Int32} {m_source : Nat → Int32} {m_second : Nat → Int32} {m_clock : Nat → Int32} {m_page : Nat → Int32} {m_book : Nat → Int32} {m_doings : Int32} {m_kept : Nat → Int32} {m_isKept : Nat → Int32} {m_seen : Int32} {m_seenBehind : Nat → Int32} {m_seenGate : Nat → Int32} {m_seenWorth : Nat → Int32} {m_seenWas : Nat → Int32} {m_seed : Int64} (hk : k < 512) (hI : Inv k f_keptSlots f_lastSeed f_text_letters f_text_length f_plan_chips f_plan_gates f_plan_inputs f_plan_registers f_plan_slowRegisters f_plan_kinds f_plan_firsts f_plan_seconds f_plan_clocks f_plan_sourceSets f_now_ones f_now_unknowns f_now_places f_now_pins f_now_count f_hist_next f_hist_held f_ring_cells f_kept_cells f_sight_steps f_sight_gates f_sight_values f_sight_truths f_sight_held m_text m_textSize m_chips m_gates m_kind m_source m_second m_clock m_page m_book m_doings m_kept m_isKept m_seen m_seenBehind m_seenGate m_seenWorth m_seenWas m_seed) (a1 : Int32) :
    wp_X9_keep f_kept_cells f_keptSlots f_now_count f_now_ones f_now_pins f_now_places f_now_unknowns a1 (fun r y_kept_cells y_keptSlots => wp_X10_keep m_isKept m_kept m_page m_thrown a1 (fun r2 z_isKept z_kept z_thrown => r = r2 ∧ Inv (k + 1) y_keptSlots f_lastSeed f_text_letters f_text_length f_plan_chips f_plan_gates f_plan_inputs f_plan_registers f_plan_slowRegisters f_plan_kinds f_plan_firsts f_plan_seconds f_plan_clocks f_plan_sourceSets f_now_ones f_now_unknowns f_now_places f_now_pins f_now_count f_hist_next f_hist_held f_ring_cells y_kept_cells f_sight_steps f_sight_gates f_sight_values f_sight_truths f_sight_held m_text m_textSize m_chips m_gates m_kind m_source m_second m_clock m_page m_book m_doings z_kept z_isKept m_seen m_seenBehind m_seenGate m_seenWorth m_seenWas m_seed)) := by
  have same := inv_mono hI
  obtain ⟨hT, ⟨N, C, kd, s1, s2, ck, hP, ⟨z, hz, hA, hB⟩, hH, ⟨kp, hk1, rfl, hk3⟩⟩, hSe, hSd⟩ := hI
  have hN := hP.1.1
  unfold wp_X9_keep wp_X10_keep
  rcases ge_ix (a := a1) (N := 2) (by omega) with ⟨s, hs, rfl⟩ | hs
  · refine ev_isKeeper_t hs (bn_f (by decide) (ev_put (by omega) (by omega) (ev_bit (by omega) (all_e ?_))))
    refine ev_in_t (L := 0) (H := 1) (by omega) (by omega) (by omega) (bn_f (by decide) ⟨vp_in_nI hs (by omega), all_e ⟨23, ?_⟩⟩)
    rw [nI_clamp (by omega)]
    refine keep_loop hs (k0 := m_kept) (fun k' h1 h2 => ⟨?_, hT, ⟨N, C, kd, s1, s2, ck, hP, ⟨z, hz.mono, hA, hB⟩, hH.mono, ?_⟩, hSe, hSd⟩) 22 0 m_kept (by omega) (fun j hj => absurd hj (by omega)) (fun j _ => rfl)
    · rw [hB.1.2]; exact hA.2.2.2.2
    · refine ⟨fun i => kp i || i == s, fun i hi => ?_, sI_or kp _, fun i hi => ⟨?_, fun hk => ?_⟩⟩
      · show (kp i || i == s) = false
        rw [hk1 i hi]; have : ¬ i = s := by omega
        simp [this]
      · by_cases e : i = s
        · subst e; rw [upd_s]; simp
        · rw [upd_n e, (hk3 i hi).1]; simp [e]
      · by_cases e : i = s
        · subst e
          refine ⟨z, hz.mono, ?_, hB.cong hN h1⟩
          rw [show 5 * i = i * 5 by omega, put5_0, put5_1, put5_2, put5_3, put5_4]
          exact hA
        · have hki : kp i = true := by simpa [e] using hk
          obtain ⟨z', c1, c2, c3⟩ := (hk3 i hi).2 hki
          refine ⟨z', c1.mono, ?_, c3.cong hN (fun a ha => h2 _ (by omega))⟩
          rw [put5_o (by omega), put5_o (by omega), put5_o (by omega), put5_o (by omega), put5_o (by omega)]
          exact c2
  · have hs' : ¬ (((0 : Nat) : Int) ≤ a1.toInt ∧ a1.toInt ≤ (1 : Nat)) := by omega
    exact ev_isKeeper_f hs (bn_t rfl (ev_in_f hs' (bn_t rfl ⟨rfl, same⟩)))
set_option maxRecDepth 20000 in
set_option maxHeartbeats 2000000 in
theorem law_again {k : Nat} {f_keptSlots : Int32} {f_lastSeed : Int64} {f_text_letters : Nat → Int32} {f_text_length : Int32} {f_plan_chips : Int32} {f_plan_gates : Int32} {f_plan_inputs : Int32} {f_plan_registers : Int32} {f_plan_slowRegisters : Int32} {f_plan_kinds : Nat → Int32} {f_plan_firsts : Nat → Int32} {f_plan_seconds : Nat → Int32} {f_plan_clocks : Nat → Int32} {f_plan_sourceSets : Nat → Int32} {f_now_ones : Int32} {f_now_unknowns : Int32} {f_now_places : Int32} {f_now_pins : Int32} {f_now_count : Int32} {f_hist_next : Int32} {f_hist_held : Int32} {f_ring_cells : Nat → Int32} {f_kept_cells : Nat → Int32} {f_sight_steps : Nat → Int32} {f_sight_gates : Nat → Int32} {f_sight_values : Nat → Int32} {f_sight_truths : Nat → Int32} {f_sight_held : Int32} {m_thrown : Int32} {m_text : Nat → Int32} {m_textSize : Int32} {m_chips : Int32} {m_gates : Int32} {m_kind : Nat → Int32} {m_source : Nat → Int32} {m_second : Nat → Int32} {m_clock : Nat → Int32} {m_page : Nat → Int32} {m_book : Nat → Int32} {m_doings : Int32} {m_kept : Nat → Int32} {m_isKept : Nat → Int32} {m_seen : Int32} {m_seenBehind : Nat → Int32} {m_seenGate : Nat → Int32} {m_seenWorth : Nat → Int32} {m_seenWas : Nat → Int32} {m_seed : Int64} (hk : k < 512) (hI : Inv k f_keptSlots f_lastSeed f_text_letters f_text_length f_plan_chips f_plan_gates f_plan_inputs f_plan_registers f_plan_slowRegisters f_plan_kinds f_plan_firsts f_plan_seconds f_plan_clocks f_plan_sourceSets f_now_ones f_now_unknowns f_now_places f_now_pins f_now_count f_hist_next f_hist_held f_ring_cells f_kept_cells f_sight_steps f_sight_gates f_sight_values f_sight_truths f_sight_held m_text m_textSize m_chips m_gates m_kind m_source m_second m_clock m_page m_book m_doings m_kept m_isKept m_seen m_seenBehind m_seenGate m_seenWorth m_seenWas m_seed) (a1 : Int32) :
    wp_X9_again f_hist_held f_kept_cells f_keptSlots f_now_count f_now_ones f_now_pins f_now_places f_now_unknowns a1 (fun r y_hist_held y_now_count y_now_ones y_now_pins y_now_places y_now_unknowns => wp_X10_again m_doings m_isKept m_kept m_page m_thrown a1 (fun r2 z_doings z_page z_thrown => r = r2 ∧ Inv (k + 1) f_keptSlots f_lastSeed f_text_letters f_text_length f_plan_chips f_plan_gates f_plan_inputs f_plan_registers f_plan_slowRegisters f_plan_kinds f_plan_firsts f_plan_seconds f_plan_clocks f_plan_sourceSets y_now_ones y_now_unknowns y_now_places y_now_pins y_now_count f_hist_next y_hist_held f_ring_cells f_kept_cells f_sight_steps f_sight_gates f_sight_values f_sight_truths f_sight_held m_text m_textSize m_chips m_gates m_kind m_source m_second m_clock z_page m_book z_doings m_kept m_isKept m_seen m_seenBehind m_seenGate m_seenWorth m_seenWas m_seed)) := by
  have same := inv_mono hI
  obtain ⟨hT, ⟨N, C, kd, s1, s2, ck, hP, ⟨z, hz, hA, hB⟩, hH, ⟨kp, hk1, rfl, hk3⟩⟩, hSe, hSd⟩ := hI
  have hN := hP.1.1
  unfold wp_X9_again wp_X10_again wp_X0_forget
  rcases ge_ix (a := a1) (N := 2) (by omega) with ⟨s, hs, rfl⟩ | hs
  · refine ev_isKeeper_t hs (bn_f (by decide) (ev_bit (by omega) ?_))
    have hg : wp_X10_in (nI s).toInt64 (0 : Int64) (1 : Int64) = fun Q => wp_X10_in (nI s).toInt64 (0 : Int64) (1 : Int64) Q := rfl
    cases hks : kp s with
    | false =>
      refine bn_t (by rw [sI_andb (by omega)]; exact hks) ?_
      refine ev_in_t (L := 0) (H := 1) (by omega) (by omega) (by omega) (bn_f (by decide) ⟨vp_in_nI hs (by omega), ?_⟩)
      rw [nI_clamp (by omega), (hk3 s hs).1, hks]
      exact bn_t rfl ⟨rfl, same⟩
    | true =>
      obtain ⟨z', c1, c2, c3⟩ := (hk3 s hs).2 hks
      refine bn_f (by rw [sI_andb (by omega), hks]; decide) (ev_get (by omega) (by omega) ?_)
      refine ev_in_t (L := 0) (H := 1) (by omega) (by omega) (by omega) (bn_f (by decide) ⟨vp_in_nI hs (by omega), ?_⟩)
      rw [nI_clamp (by omega), (hk3 s hs).1, hks]
      refine bn_f (by decide) ⟨23, ?_⟩
      rw [show 5 * s = s * 5 by omega] at c2
      refine again_loop hs (fun t' ht => ⟨?_, hT, ⟨N, C, kd, s1, s2, ck, hP, ⟨z', c1.mono, c2, c3.cong hN ht⟩, ?_, RK.mono ⟨kp, hk1, rfl, hk3⟩⟩, hSe, hSd⟩) 22 0 m_page (by omega) (fun j hj => absurd hj (by omega))
      · rw [ht 21 (by omega)]; exact c2.2.2.2.2.trans c3.1.2.symm
      · obtain ⟨h, q, zs, hh, hq, rfl, rfl, rfl, hs⟩ := hH
        exact ⟨0, q, zs, by omega, hq, rfl, rfl, rfl, fun j hj => absurd hj (by omega)⟩
  · have hs' : ¬ (((0 : Nat) : Int) ≤ a1.toInt ∧ a1.toInt ≤ (1 : Nat)) := by omega
    exact ev_isKeeper_f hs (bn_t rfl (ev_in_f hs' (bn_t rfl ⟨rfl, same⟩)))
set_option maxRecDepth 20000 in
set_option maxHeartbeats 2000000 in
theorem law_step {k : Nat} {f_keptSlots : Int32} {f_lastSeed : Int64} {f_text_letters : Nat → Int32} {f_text_length : Int32} {f_plan_chips : Int32} {f_plan_gates : Int32} {f_plan_inputs : Int32} {f_plan_registers : Int32} {f_plan_slowRegisters : Int32} {f_plan_kinds : Nat → Int32} {f_plan_firsts : Nat → Int32} {f_plan_seconds : Nat → Int32} {f_plan_clocks : Nat → Int32} {f_plan_sourceSets : Nat → Int32} {f_now_ones : Int32} {f_now_unknowns : Int32} {f_now_places : Int32} {f_now_pins : Int32} {f_now_count : Int32} {f_logic_ones : Int32} {f_logic_unknowns : Int32} {f_logic_settled : Int32} {f_hist_next : Int32} {f_hist_held : Int32} {f_ring_cells : Nat → Int32} {f_kept_cells : Nat → Int32} {f_sight_steps : Nat → Int32} {f_sight_gates : Nat → Int32} {f_sight_values : Nat → Int32} {f_sight_truths : Nat → Int32} {f_sight_held : Int32} {m_thrown : Int32} {m_text : Nat → Int32} {m_textSize : Int32} {m_chips : Int32} {m_gates : Int32} {m_kind : Nat → Int32} {m_source : Nat → Int32} {m_second : Nat → Int32} {m_clock : Nat → Int32} {m_page : Nat → Int32} {m_book : Nat → Int32} {m_doings : Int32} {m_kept : Nat → Int32} {m_isKept : Nat → Int32} {m_seen : Int32} {m_seenBehind : Nat → Int32} {m_seenGate : Nat → Int32} {m_seenWorth : Nat → Int32} {m_seenWas : Nat → Int32} {m_seed : Int64} {m_worth : Nat → Int32} {m_known : Int32} (hk : k < 512) (hI : Inv k f_keptSlots f_lastSeed f_text_letters f_text_length f_plan_chips f_plan_gates f_plan_inputs f_plan_registers f_plan_slowRegisters f_plan_kinds f_plan_firsts f_plan_seconds f_plan_clocks f_plan_sourceSets f_now_ones f_now_unknowns f_now_places f_now_pins f_now_count f_hist_next f_hist_held f_ring_cells f_kept_cells f_sight_steps f_sight_gates f_sight_values f_sight_truths f_sight_held m_text m_textSize m_chips m_gates m_kind m_source m_second m_clock m_page m_book m_doings m_kept m_isKept m_seen m_seenBehind m_seenGate m_seenWorth m_seenWas m_seed) (a1 : Int32) :
    wp_X9_step f_hist_held f_hist_next f_ring_cells f_logic_ones f_logic_settled f_logic_unknowns f_now_count f_now_ones f_now_pins f_now_places f_now_unknowns f_plan_firsts f_plan_gates f_plan_inputs f_plan_kinds f_plan_registers f_plan_seconds f_plan_slowRegisters f_plan_sourceSets a1 (fun r y_hist_held y_hist_next y_ring_cells y_logic_ones y_logic_settled y_logic_unknowns y_now_count y_now_ones y_now_unknowns => wp_X10_step m_book m_clock m_doings m_gates m_kind m_known m_page m_second m_source m_thrown m_worth a1 (fun r2 z_book z_doings z_known z_page z_thrown z_worth => r = r2 ∧ Inv (k + 1) f_keptSlots f_lastSeed f_text_letters f_text_length f_plan_chips f_plan_gates f_plan_inputs f_plan_registers f_plan_slowRegisters f_plan_kinds f_plan_firsts f_plan_seconds f_plan_clocks f_plan_sourceSets y_now_ones y_now_unknowns f_now_places f_now_pins y_now_count y_hist_next y_hist_held y_ring_cells f_kept_cells f_sight_steps f_sight_gates f_sight_values f_sight_truths f_sight_held m_text m_textSize m_chips m_gates m_kind m_source m_second m_clock z_page z_book z_doings m_kept m_isKept m_seen m_seenBehind m_seenGate m_seenWorth m_seenWas m_seed)) := by
  have same := inv_mono hI
  obtain ⟨hT, ⟨N, C, kd, s1, s2, ck, hP, ⟨z, hz, hA, hB⟩, hH, hK⟩, hSe, hSd⟩ := hI
  have hP0 := hP
  obtain ⟨hO, hC, ⟨rfl, rfl, rfl, rfl, rfl⟩, hPA, hck, ⟨rfl, rfl⟩, hPB, hckM⟩ := hP
  have hN := hO.1
  have hct := hz.2.2.2.2
  unfold wp_X9_step wp_X10_step
  rcases rg_ix a1 1 99 (by omega) with ⟨n, hn1, hn, rfl⟩ | ha
  · refine in_ll (L := 1) (H := 99) hn1 hn (by omega) ?_
    refine act_past hN hH hz hA hB (fun held' next' ring' hnote => ?_)
    obtain ⟨rfl, rfl, rfl, rfl, rfl⟩ := hA
    refine ev_makeSteps (x := (z.1, z.2.2.2)) hO hPA hz.1 (by show z.2.2.2 + n < _; omega) (fun a b e => ?_)
    refine ev_in_t (L := 1) (H := 99) hn1 hn (by omega) (bn_f (by decide) (hnote _ (fun book' doings' hH' => ⟨n + 1, ?_⟩)))
    refine step_loop (r0 := m_page) hO hPB hckM (by omega) n 0 (z.1, z.2.2.2) m_page _ _ (by omega) hz.1 (by show z.2.2.2 + n < _; omega) hB.1 (fun j _ _ => rfl) (fun kn wo r' hR' hk' => ⟨rfl, hT, ⟨N, C, kd, s1, s2, ck, hP0, ⟨((stpn N kd s1 s2 ck none n (z.1, z.2.2.2)).1, z.2.1, z.2.2.1, (stpn N kd s1 s2 ck none n (z.1, z.2.2.2)).2), ?_, ⟨rfl, rfl, rfl, rfl, rfl⟩, ⟨hR', ?_, ?_⟩⟩, hH'.mono, hK.mono⟩, hSe, hSd⟩)
    · refine ⟨stpn_le n hz.1, hz.2.1, hz.2.2.1, hz.2.2.2.1, ?_⟩
      show (stpn N kd s1 s2 ck none n (z.1, z.2.2.2)).2 ≤ 99 * (k + 1)
      rw [stpn_ct]
      show z.2.2.2 + n ≤ _
      omega
    · intro g hg
      rw [hk' _ (by omega) (by omega)]; exact hB.2.1 g hg
    · rw [hk' _ (by omega) (by omega)]; exact hB.2.2
  · exact out_ll (L := 1) (H := 99) (by omega) (by omega) ha (ev_in_f ha (bn_t rfl ⟨rfl, same⟩))
set_option maxRecDepth 20000 in
set_option maxHeartbeats 2000000 in
theorem law_ahead {k : Nat} {f_keptSlots : Int32} {f_lastSeed : Int64} {f_text_letters : Nat → Int32} {f_text_length : Int32} {f_plan_chips : Int32} {f_plan_gates : Int32} {f_plan_inputs : Int32} {f_plan_registers : Int32} {f_plan_slowRegisters : Int32} {f_plan_kinds : Nat → Int32} {f_plan_firsts : Nat → Int32} {f_plan_seconds : Nat → Int32} {f_plan_clocks : Nat → Int32} {f_plan_sourceSets : Nat → Int32} {f_now_ones : Int32} {f_now_unknowns : Int32} {f_now_places : Int32} {f_now_pins : Int32} {f_now_count : Int32} {f_copy_ones : Int32} {f_copy_unknowns : Int32} {f_copy_places : Int32} {f_copy_pins : Int32} {f_copy_count : Int32} {f_logic_ones : Int32} {f_logic_unknowns : Int32} {f_logic_settled : Int32} {f_hist_next : Int32} {f_hist_held : Int32} {f_ring_cells : Nat → Int32} {f_kept_cells : Nat → Int32} {f_sight_steps : Nat → Int32} {f_sight_gates : Nat → Int32} {f_sight_values : Nat → Int32} {f_sight_truths : Nat → Int32} {f_sight_held : Int32} {m_thrown : Int32} {m_text : Nat → Int32} {m_textSize : Int32} {m_chips : Int32} {m_gates : Int32} {m_kind : Nat → Int32} {m_source : Nat → Int32} {m_second : Nat → Int32} {m_clock : Nat → Int32} {m_page : Nat → Int32} {m_trial : Nat → Int32} {m_book : Nat → Int32} {m_doings : Int32} {m_kept : Nat → Int32} {m_isKept : Nat → Int32} {m_seen : Int32} {m_seenBehind : Nat → Int32} {m_seenGate : Nat → Int32} {m_seenWorth : Nat → Int32} {m_seenWas : Nat → Int32} {m_seed : Int64} {m_worth : Nat → Int32} {m_known : Int32} (hk : k < 512) (hI : Inv k f_keptSlots f_lastSeed f_text_letters f_text_length f_plan_chips f_plan_gates f_plan_inputs f_plan_registers f_plan_slowRegisters f_plan_kinds f_plan_firsts f_plan_seconds f_plan_clocks f_plan_sourceSets f_now_ones f_now_unknowns f_now_places f_now_pins f_now_count f_hist_next f_hist_held f_ring_cells f_kept_cells f_sight_steps f_sight_gates f_sight_values f_sight_truths f_sight_held m_text m_textSize m_chips m_gates m_kind m_source m_second m_clock m_page m_book m_doings m_kept m_isKept m_seen m_seenBehind m_seenGate m_seenWorth m_seenWas m_seed) (a1 : Int32) (a2 : Int32) :
    wp_X9_ahead f_copy_count f_copy_ones f_copy_pins f_copy_places f_copy_unknowns f_logic_ones f_logic_settled f_logic_unknowns f_now_count f_now_ones f_now_pins f_now_places f_now_unknowns f_plan_firsts f_plan_gates f_plan_inputs f_plan_kinds f_plan_registers f_plan_seconds f_plan_slowRegisters f_plan_sourceSets a1 a2 (fun r y_copy_count y_copy_ones y_copy_pins y_copy_places y_copy_unknowns y_logic_ones y_logic_settled y_logic_unknowns => wp_X10_ahead m_clock m_gates m_kind m_known m_page m_second m_source m_thrown m_trial m_worth a1 a2 (fun r2 z_known z_thrown z_trial z_worth => r = r2 ∧ Inv (k + 1) f_keptSlots f_lastSeed f_text_letters f_text_length f_plan_chips f_plan_gates f_plan_inputs f_plan_registers f_plan_slowRegisters f_plan_kinds f_plan_firsts f_plan_seconds f_plan_clocks f_plan_sourceSets f_now_ones f_now_unknowns f_now_places f_now_pins f_now_count f_hist_next f_hist_held f_ring_cells f_kept_cells f_sight_steps f_sight_gates f_sight_values f_sight_truths f_sight_held m_text m_textSize m_chips m_gates m_kind m_source m_second m_clock m_page m_book m_doings m_kept m_isKept m_seen m_seenBehind m_seenGate m_seenWorth m_seenWas m_seed)) := by
  have same := inv_mono hI
  obtain ⟨hT, ⟨N, C, kd, s1, s2, ck, hP, ⟨z, hz, hA, hB⟩, hH, hK⟩, hSe, hSd⟩ := hI
  obtain ⟨hO, hC, ⟨rfl, rfl, rfl, rfl, rfl⟩, hPA, hck, ⟨rfl, rfl⟩, hPB, hckM⟩ := hP
  have hN := hO.1
  have hct := hz.2.2.2.2
  obtain ⟨rfl, rfl, rfl, rfl, rfl⟩ := hA
  unfold wp_X9_ahead wp_X10_ahead wp_X7_takeFrom
  rcases rg_ix a1 0 99 (by omega) with ⟨n, hn1, hn, rfl⟩ | ha
  · refine in_ll (L := 0) (H := 99) hn1 hn (by omega) ?_
    rcases ge_ix (a := a2) (N := N) (by omega) with ⟨g, hg, rfl⟩ | hg
    · refine ev_isGate_t (by omega) hg (bn_f (by decide) ?_)
      refine ev_makeSteps (x := (z.1, z.2.2.2)) hO hPA hz.1 (by show z.2.2.2 + n < _; omega) (fun a b e => ?_)
      refine ev_valueNow hO hPA (stpn_le n hz.1) hg (fun a b e => ?_)
      refine ev_in_t (L := 0) (H := 99) hn1 hn (by omega) (bn_f (by decide) (ev_noGate_t (by omega) hg (br_t rfl (ev_layTrial (fun t' ht => ⟨n + 1, ?_⟩)))))
      have hR : RV N kd z.1 z.2.2.2 t' := (hB.cong hN ht).1
      exact ahead_loop hO hPB hckM (by omega) hg n 0 (z.1, z.2.2.2) t' _ _ (by omega) hz.1 (by show z.2.2.2 + n < _; omega) hR (fun kn wo r' => ⟨rfl, same⟩)
    · refine ev_isGate_f (by omega) hg (bn_t rfl ?_)
      exact ev_in_t (L := 0) (H := 99) hn1 hn (by omega) (bn_f (by decide) (ev_noGate_f (by omega) hg (br_f (by decide) ⟨rfl, same⟩)))
  · exact out_ll (L := 0) (H := 99) (by omega) (by omega) ha (ev_in_f ha (bn_t rfl ⟨rfl, same⟩))
set_option maxRecDepth 20000 in
set_option maxHeartbeats 2000000 in
theorem law_gate {k : Nat} {f_keptSlots : Int32} {f_lastSeed : Int64} {f_text_letters : Nat → Int32} {f_text_length : Int32} {f_plan_chips : Int32} {f_plan_gates : Int32} {f_plan_inputs : Int32} {f_plan_registers : Int32} {f_plan_slowRegisters : Int32} {f_plan_kinds : Nat → Int32} {f_plan_firsts : Nat → Int32} {f_plan_seconds : Nat → Int32} {f_plan_clocks : Nat → Int32} {f_plan_sourceSets : Nat → Int32} {f_now_ones : Int32} {f_now_unknowns : Int32} {f_now_places : Int32} {f_now_pins : Int32} {f_now_count : Int32} {f_logic_ones : Int32} {f_logic_unknowns : Int32} {f_logic_settled : Int32} {f_hist_next : Int32} {f_hist_held : Int32} {f_ring_cells : Nat → Int32} {f_kept_cells : Nat → Int32} {f_sight_steps : Nat → Int32} {f_sight_gates : Nat → Int32} {f_sight_values : Nat → Int32} {f_sight_truths : Nat → Int32} {f_sight_held : Int32} {m_thrown : Int32} {m_text : Nat → Int32} {m_textSize : Int32} {m_chips : Int32} {m_gates : Int32} {m_kind : Nat → Int32} {m_source : Nat → Int32} {m_second : Nat → Int32} {m_clock : Nat → Int32} {m_page : Nat → Int32} {m_book : Nat → Int32} {m_doings : Int32} {m_kept : Nat → Int32} {m_isKept : Nat → Int32} {m_seen : Int32} {m_seenBehind : Nat → Int32} {m_seenGate : Nat → Int32} {m_seenWorth : Nat → Int32} {m_seenWas : Nat → Int32} {m_seed : Int64} {m_worth : Nat → Int32} {m_known : Int32} (hk : k < 512) (hI : Inv k f_keptSlots f_lastSeed f_text_letters f_text_length f_plan_chips f_plan_gates f_plan_inputs f_plan_registers f_plan_slowRegisters f_plan_kinds f_plan_firsts f_plan_seconds f_plan_clocks f_plan_sourceSets f_now_ones f_now_unknowns f_now_places f_now_pins f_now_count f_hist_next f_hist_held f_ring_cells f_kept_cells f_sight_steps f_sight_gates f_sight_values f_sight_truths f_sight_held m_text m_textSize m_chips m_gates m_kind m_source m_second m_clock m_page m_book m_doings m_kept m_isKept m_seen m_seenBehind m_seenGate m_seenWorth m_seenWas m_seed) (a1 : Int32) (a2 : Int32) :
    wp_X9_gate f_logic_ones f_logic_settled f_logic_unknowns f_now_ones f_now_places f_now_unknowns f_plan_clocks f_plan_firsts f_plan_gates f_plan_inputs f_plan_kinds f_plan_registers f_plan_seconds f_plan_sourceSets a1 a2 (fun r y_logic_ones y_logic_settled y_logic_unknowns => wp_X10_gate m_clock m_gates m_kind m_known m_page m_second m_source m_thrown m_worth a1 a2 (fun r2 z_known z_thrown z_worth => r = r2 ∧ Inv (k + 1) f_keptSlots f_lastSeed f_text_letters f_text_length f_plan_chips f_plan_gates f_plan_inputs f_plan_registers f_plan_slowRegisters f_plan_kinds f_plan_firsts f_plan_seconds f_plan_clocks f_plan_sourceSets f_now_ones f_now_unknowns f_now_places f_now_pins f_now_count f_hist_next f_hist_held f_ring_cells f_kept_cells f_sight_steps f_sight_gates f_sight_values f_sight_truths f_sight_held m_text m_textSize m_chips m_gates m_kind m_source m_second m_clock m_page m_book m_doings m_kept m_isKept m_seen m_seenBehind m_seenGate m_seenWorth m_seenWas m_seed)) := by
  have same := inv_mono hI
  obtain ⟨hT, ⟨N, C, kd, s1, s2, ck, hP, ⟨z, hz, hA, hB⟩, hH, hK⟩, hSe, hSd⟩ := hI
  obtain ⟨hO, hC, ⟨rfl, rfl, rfl, rfl, rfl⟩, hPA, hck, ⟨rfl, rfl⟩, hPB, hckM⟩ := hP
  have hN := hO.1
  obtain ⟨rfl, rfl, rfl, rfl, rfl⟩ := hA
  unfold wp_X9_gate wp_X10_gate
  rcases ge_ix (a := a1) (N := N) (by omega) with ⟨g, hg, rfl⟩ | hg
  · obtain ⟨p1, p2, p3, p4⟩ := hPA g hg
    obtain ⟨q1, q2, q3⟩ := hPB g hg
    have ig : vp_in (nI g) 10 := vp_in_nI (by omega) (by omega)
    have e10 : (10 : Int32) + nI g = nI (10 + g) := nI_add 10 g
    have i22 : vp_in ((10 : Int32) + nI g) 22 := by rw [e10]; exact vp_in_nI (by omega) (by omega)
    have cl : ((10 : Int32) + nI g).toNatClampNeg = 10 + g := by rw [e10, nI_clamp (by omega)]
    have cg : (nI g).toNatClampNeg = g := nI_clamp (by omega)
    refine ev_isGate_t (by omega) hg (bn_f (by decide) ?_)
    rw [cl, cg]
    by_cases h0 : a2 = 0
    · refine br_t h0 (ev_kindOf (by omega) (ev_noGate_t (by omega) hg (br_t rfl (br_t h0 ⟨ig, ?_, same⟩))))
      rw [p1, q1]
    refine br_f h0 ?_
    by_cases h1 : a2 = 1
    · refine br_t h1 (ev_chipIn hz.2.1 (by omega) (ev_noGate_t (by omega) hg (br_t rfl (br_f h0 (br_t h1 ⟨i22, ?_, same⟩)))))
      exact (hB.2.1 g hg).symm
    refine br_f h1 ?_
    by_cases h2 : a2 = 2
    · refine br_t h2 (ev_firstOf (by omega) (ev_noGate_t (by omega) hg (br_t rfl (br_f h0 (br_f h1 (br_t h2 ⟨ig, ?_, same⟩))))))
      rw [p2, q2]
    refine br_f h2 ?_
    by_cases h3 : a2 = 3
    · refine br_t h3 (ev_secondOf (by omega) (ev_noGate_t (by omega) hg (br_t rfl (br_f h0 (br_f h1 (br_f h2 (br_t h3 ⟨ig, ?_, same⟩)))))))
      rw [p3, q3]
    refine br_f h3 ?_
    by_cases h4 : a2 = 4
    · refine br_t h4 (ev_clockOf (by omega) (ev_noGate_t (by omega) hg (br_t rfl (br_f h0 (br_f h1 (br_f h2 (br_f h3 (br_t h4 ⟨ig, ?_, same⟩))))))))
      rw [hck g hg, hckM g hg]
    refine br_f h4 ?_
    by_cases h5 : a2 = 5
    · refine br_t h5 (ev_valueNow hO hPA hz.1 hg (fun a b e => ev_noGate_t (by omega) hg (br_t rfl (br_f h0 (br_f h1 (br_f h2 (br_f h3 (br_f h4 (br_t h5 ?_)))))))))
      exact ev_worthOf hO hPB hB.1 hz.1 hg (fun kn f => ⟨rfl, same⟩)
    refine br_f h5 ?_
    by_cases h6 : a2 = 6
    · refine br_t h6 (ev_readersOf hO hPA hg (ev_noGate_t (by omega) hg (br_t rfl (br_f h0 (br_f h1 (br_f h2 (br_f h3 (br_f h4 (br_f h5 (br_t h6 ?_))))))))))
      exact ev_usedBy hO hPB hg ⟨rfl, same⟩
    exact br_f h6 (ev_noGate_t (by omega) hg (br_t rfl (br_f h0 (br_f h1 (br_f h2 (br_f h3 (br_f h4 (br_f h5 (br_f h6 ⟨rfl, same⟩)))))))))
  · refine ev_isGate_f (by omega) hg (bn_t rfl ?_)
    exact ev_noGate_f (by omega) hg (br_f (by decide) ⟨rfl, same⟩)
set_option maxRecDepth 20000 in
set_option maxHeartbeats 2000000 in
theorem law_count {k : Nat} {f_keptSlots : Int32} {f_lastSeed : Int64} {f_text_letters : Nat → Int32} {f_text_length : Int32} {f_plan_chips : Int32} {f_plan_gates : Int32} {f_plan_inputs : Int32} {f_plan_registers : Int32} {f_plan_slowRegisters : Int32} {f_plan_kinds : Nat → Int32} {f_plan_firsts : Nat → Int32} {f_plan_seconds : Nat → Int32} {f_plan_clocks : Nat → Int32} {f_plan_sourceSets : Nat → Int32} {f_now_ones : Int32} {f_now_unknowns : Int32} {f_now_places : Int32} {f_now_pins : Int32} {f_now_count : Int32} {f_logic_ones : Int32} {f_logic_unknowns : Int32} {f_logic_settled : Int32} {f_hist_next : Int32} {f_hist_held : Int32} {f_ring_cells : Nat → Int32} {f_kept_cells : Nat → Int32} {f_sight_steps : Nat → Int32} {f_sight_gates : Nat → Int32} {f_sight_values : Nat → Int32} {f_sight_truths : Nat → Int32} {f_sight_held : Int32} {m_thrown : Int32} {m_text : Nat → Int32} {m_textSize : Int32} {m_chips : Int32} {m_gates : Int32} {m_kind : Nat → Int32} {m_source : Nat → Int32} {m_second : Nat → Int32} {m_clock : Nat → Int32} {m_page : Nat → Int32} {m_book : Nat → Int32} {m_doings : Int32} {m_kept : Nat → Int32} {m_isKept : Nat → Int32} {m_seen : Int32} {m_seenBehind : Nat → Int32} {m_seenGate : Nat → Int32} {m_seenWorth : Nat → Int32} {m_seenWas : Nat → Int32} {m_seed : Int64} {m_worth : Nat → Int32} {m_known : Int32} (hk : k < 512) (hI : Inv k f_keptSlots f_lastSeed f_text_letters f_text_length f_plan_chips f_plan_gates f_plan_inputs f_plan_registers f_plan_slowRegisters f_plan_kinds f_plan_firsts f_plan_seconds f_plan_clocks f_plan_sourceSets f_now_ones f_now_unknowns f_now_places f_now_pins f_now_count f_hist_next f_hist_held f_ring_cells f_kept_cells f_sight_steps f_sight_gates f_sight_values f_sight_truths f_sight_held m_text m_textSize m_chips m_gates m_kind m_source m_second m_clock m_page m_book m_doings m_kept m_isKept m_seen m_seenBehind m_seenGate m_seenWorth m_seenWas m_seed) (a1 : Int32) :
    wp_X9_count f_hist_held f_logic_ones f_logic_settled f_logic_unknowns f_now_count f_now_ones f_now_pins f_now_unknowns f_plan_chips f_plan_firsts f_plan_gates f_plan_inputs f_plan_kinds f_plan_registers f_plan_seconds f_plan_sourceSets f_sight_held f_text_length a1 (fun r y_logic_ones y_logic_settled y_logic_unknowns => wp_X10_count m_chips m_doings m_gates m_kind m_known m_page m_second m_seen m_source m_textSize m_thrown m_worth a1 (fun r2 z_known z_thrown z_worth => r = r2 ∧ Inv (k + 1) f_keptSlots f_lastSeed f_text_letters f_text_length f_plan_chips f_plan_gates f_plan_inputs f_plan_registers f_plan_slowRegisters f_plan_kinds f_plan_firsts f_plan_seconds f_plan_clocks f_plan_sourceSets f_now_ones f_now_unknowns f_now_places f_now_pins f_now_count f_hist_next f_hist_held f_ring_cells f_kept_cells f_sight_steps f_sight_gates f_sight_values f_sight_truths f_sight_held m_text m_textSize m_chips m_gates m_kind m_source m_second m_clock m_page m_book m_doings m_kept m_isKept m_seen m_seenBehind m_seenGate m_seenWorth m_seenWas m_seed)) := by
  have same := inv_mono hI
  obtain ⟨⟨T, hT, rfl, rfl, hL⟩, ⟨N, C, kd, s1, s2, ck, hP, ⟨z, hz, hA, hB⟩, ⟨h, q, zs, hh, hq, rfl, rfl, rfl, hs⟩, hK⟩, ⟨H, hH, rfl, rfl, hS⟩, hSd⟩ := hI
  obtain ⟨hO, hC, ⟨rfl, rfl, rfl, rfl, rfl⟩, hPA, hck, ⟨rfl, rfl⟩, hPB, hckM⟩ := hP
  have hN := hO.1
  obtain ⟨rfl, rfl, rfl, rfl, rfl⟩ := hA
  unfold wp_X9_count wp_X10_count
  by_cases h0 : a1 = 0
  · exact br_t h0 (br_t h0 ⟨rfl, same⟩)
  refine br_f h0 ?_
  by_cases h1 : a1 = 1
  · exact br_t h1 (br_f h0 (br_t h1 ⟨rfl, same⟩))
  refine br_f h1 ?_
  by_cases h2 : a1 = 2
  · exact br_t h2 (br_f h0 (br_f h1 (br_t h2 ⟨rfl, same⟩)))
  refine br_f h2 ?_
  by_cases h3 : a1 = 3
  · refine br_t h3 (br_f h0 (br_f h1 (br_f h2 (br_t h3 ⟨vp_in_nI (n := 20) (by omega) (by omega), ?_, same⟩))))
    rw [show (20 : Int32).toNatClampNeg = 20 from by decide]; exact hB.2.2.symm
  refine br_f h3 ?_
  by_cases h4 : a1 = 4
  · refine br_t h4 (br_f h0 (br_f h1 (br_f h2 (br_f h3 (br_t h4 ⟨vp_in_nI (n := 21) (by omega) (by omega), ?_, same⟩)))))
    rw [show (21 : Int32).toNatClampNeg = 21 from by decide]; exact hB.1.2.symm
  refine br_f h4 ?_
  by_cases h5 : a1 = 5
  · exact br_t h5 (br_f h0 (br_f h1 (br_f h2 (br_f h3 (br_f h4 (br_t h5 (ev_ofKind (j := 0) hO hPB (by omega) ⟨rfl, same⟩)))))))
  refine br_f h5 ?_
  by_cases h6 : a1 = 6
  · exact br_t h6 (br_f h0 (br_f h1 (br_f h2 (br_f h3 (br_f h4 (br_f h5 (br_t h6 (ev_ofKind (j := 5) hO hPB (by omega) ⟨rfl, same⟩))))))))
  refine br_f h6 ?_
  by_cases h7 : a1 = 7
  · exact br_t h7 (ev_compute (stuck := none) hO hPA hz.1 (by intro g h; cases h) (fun z => br_f h0 (br_f h1 (br_f h2 (br_f h3 (br_f h4 (br_f h5 (br_f h6 (br_t h7 (ev_worthSo (j := 1) hO hPB hB.1 hz.1 (by omega) (fun kn f => ⟨rfl, same⟩)))))))))))
  refine br_f h7 ?_
  by_cases h8 : a1 = 8
  · exact br_t h8 (ev_compute (stuck := none) hO hPA hz.1 (by intro g h; cases h) (fun z => br_f h0 (br_f h1 (br_f h2 (br_f h3 (br_f h4 (br_f h5 (br_f h6 (br_f h7 (br_t h8 (ev_worthSo (j := 2) hO hPB hB.1 hz.1 (by omega) (fun kn f => ⟨rfl, same⟩))))))))))))
  refine br_f h8 ?_
  by_cases h9 : a1 = 9
  · exact br_t h9 (br_f h0 (br_f h1 (br_f h2 (br_f h3 (br_f h4 (br_f h5 (br_f h6 (br_f h7 (br_f h8 (br_t h9 ⟨rfl, same⟩))))))))))
  refine br_f h9 ?_
  by_cases h10 : a1 = 10
  · exact br_t h10 (br_f h0 (br_f h1 (br_f h2 (br_f h3 (br_f h4 (br_f h5 (br_f h6 (br_f h7 (br_f h8 (br_f h9 (br_t h10 ⟨rfl, same⟩)))))))))))
  exact br_f h10 (br_f h0 (br_f h1 (br_f h2 (br_f h3 (br_f h4 (br_f h5 (br_f h6 (br_f h7 (br_f h8 (br_f h9 (br_f h10 ⟨rfl, same⟩)))))))))))
