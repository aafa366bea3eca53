set_option maxRecDepth 20000 in
set_option maxHeartbeats 2000000 in
theorem law_pins {k : Nat} {f_keptSlots : Int32} {f_lastSeed : Int64} {f_text_letters : Nat → Int32} {f_text_length : Int32} {f_plan_chips : Int32} {f_plan_gates : Int32} {f_plan_inputs : Int32} {f_plan_registers : Int32} {f_plan_slowRegisters : Int32} {f_plan_kinds : Nat → Int32} {f_plan_firsts : Nat → Int32} {f_plan_seconds : Nat → Int32} {f_plan_clocks : Nat → Int32} {f_plan_sourceSets : Nat → Int32} {f_now_ones : Int32} {f_now_unknowns : Int32} {f_now_places : Int32} {f_now_pins : Int32} {f_now_count : Int32} {f_hist_next : Int32} {f_hist_held : Int32} {f_ring_cells : Nat → Int32} {f_kept_cells : Nat → Int32} {f_sight_steps : Nat → Int32} {f_sight_gates : Nat → Int32} {f_sight_values : Nat → Int32} {f_sight_truths : Nat → Int32} {f_sight_held : Int32} {m_thrown : Int32} {m_text : Nat → Int32} {m_textSize : Int32} {m_chips : Int32} {m_gates : Int32} {m_kind : Nat → Int32} {m_source : Nat → Int32} {m_second : Nat → Int32} {m_clock : Nat → Int32} {m_page : Nat → Int32} {m_book : Nat → Int32} {m_doings : Int32} {m_kept : Nat → Int32} {m_isKept : Nat → Int32} {m_seen : Int32} {m_seenBehind : Nat → Int32} {m_seenGate : Nat → Int32} {m_seenWorth : Nat → Int32} {m_seenWas : Nat → Int32} {m_seed : Int64} (hk : k < 512) (hI : Inv k f_keptSlots f_lastSeed f_text_letters f_text_length f_plan_chips f_plan_gates f_plan_inputs f_plan_registers f_plan_slowRegisters f_plan_kinds f_plan_firsts f_plan_seconds f_plan_clocks f_plan_sourceSets f_now_ones f_now_unknowns f_now_places f_now_pins f_now_count f_hist_next f_hist_held f_ring_cells f_kept_cells f_sight_steps f_sight_gates f_sight_values f_sight_truths f_sight_held m_text m_textSize m_chips m_gates m_kind m_source m_second m_clock m_page m_book m_doings m_kept m_isKept m_seen m_seenBehind m_seenGate m_seenWorth m_seenWas m_seed) (a1 : Int32) :
    wp_X9_pins f_hist_held f_hist_next f_ring_cells f_now_count f_now_ones f_now_pins f_now_places f_now_unknowns a1 (fun r y_hist_held y_hist_next y_ring_cells y_now_pins => wp_X10_pins m_book m_doings m_page m_thrown a1 (fun r2 z_book z_doings z_page z_thrown => r = r2 ∧ Inv (k + 1) f_keptSlots f_lastSeed f_text_letters f_text_length f_plan_chips f_plan_gates f_plan_inputs f_plan_registers f_plan_slowRegisters f_plan_kinds f_plan_firsts f_plan_seconds f_plan_clocks f_plan_sourceSets f_now_ones f_now_unknowns f_now_places y_now_pins f_now_count y_hist_next y_hist_held y_ring_cells f_kept_cells f_sight_steps f_sight_gates f_sight_values f_sight_truths f_sight_held m_text m_textSize m_chips m_gates m_kind m_source m_second m_clock z_page z_book z_doings m_kept m_isKept m_seen m_seenBehind m_seenGate m_seenWorth m_seenWas m_seed)) := by
  have same := inv_mono hI
  obtain ⟨hT, ⟨N, C, kd, s1, s2, ck, hP, ⟨z, hz, hA, hB⟩, hH, hK⟩, hSe, hSd⟩ := hI
  have hN := hP.1.1
  unfold wp_X9_pins wp_X10_pins
  rcases rg_ix a1 1 9 (by omega) with ⟨j, hj1, hj, rfl⟩ | ha
  · refine ev_isPins_t ⟨hj1, hj⟩ (bn_f (by decide) ?_)
    refine act_past hN hH hz hA hB (fun held' next' ring' hnote => ?_)
    refine ev_in_t (L := 1) (H := 9) hj1 hj (by omega) (bn_f (by decide) (hnote _ (fun book' doings' hH' => ?_)))
    have i20 : vp_in (20 : Int32) 22 := vp_in_nI (n := 20) (by omega) (by omega)
    refine ⟨i20, all_e ⟨i20, all_e ⟨?_, hT, ⟨N, C, kd, s1, s2, ck, hP, ⟨(z.1, z.2.1, j, z.2.2.2), ?_, ?_, ?_⟩, hH'.mono, hK.mono⟩, hSe, hSd⟩⟩⟩
    · rw [show (20 : Int32).toNatClampNeg = 20 from by decide, hB.2.2]; exact hA.2.2.2.1
    · exact ⟨hz.1, hz.2.1, hz.2.2.1, ⟨hj1, hj⟩, hz.mono.2.2.2.2⟩
    · exact ⟨hA.1, hA.2.1, hA.2.2.1, rfl, hA.2.2.2.2⟩
    · rw [show (20 : Int32).toNatClampNeg = 20 from by decide]
      refine ⟨⟨fun g hg hs => ?_, ?_⟩, fun g hg => ?_, upd_s⟩
      · rw [upd_n (by omega)]; exact hB.1.1 g hg hs
      · rw [upd_n (by omega)]; exact hB.1.2
      · rw [upd_n (by omega)]; exact hB.2.1 g hg
  · refine ev_isPins_f ha (bn_t rfl (ev_in_f ha (bn_t rfl ⟨rfl, same⟩)))
set_option maxRecDepth 20000 in
set_option maxHeartbeats 2000000 in
theorem law_input {k : Nat} {f_keptSlots : Int32} {f_lastSeed : Int64} {f_text_letters : Nat → Int32} {f_text_length : Int32} {f_plan_chips : Int32} {f_plan_gates : Int32} {f_plan_inputs : Int32} {f_plan_registers : Int32} {f_plan_slowRegisters : Int32} {f_plan_kinds : Nat → Int32} {f_plan_firsts : Nat → Int32} {f_plan_seconds : Nat → Int32} {f_plan_clocks : Nat → Int32} {f_plan_sourceSets : Nat → Int32} {f_now_ones : Int32} {f_now_unknowns : Int32} {f_now_places : Int32} {f_now_pins : Int32} {f_now_count : Int32} {f_hist_next : Int32} {f_hist_held : Int32} {f_ring_cells : Nat → Int32} {f_kept_cells : Nat → Int32} {f_sight_steps : Nat → Int32} {f_sight_gates : Nat → Int32} {f_sight_values : Nat → Int32} {f_sight_truths : Nat → Int32} {f_sight_held : Int32} {m_thrown : Int32} {m_text : Nat → Int32} {m_textSize : Int32} {m_chips : Int32} {m_gates : Int32} {m_kind : Nat → Int32} {m_source : Nat → Int32} {m_second : Nat → Int32} {m_clock : Nat → Int32} {m_page : Nat → Int32} {m_book : Nat → Int32} {m_doings : Int32} {m_kept : Nat → Int32} {m_isKept : Nat → Int32} {m_seen : Int32} {m_seenBehind : Nat → Int32} {m_seenGate : Nat → Int32} {m_seenWorth : Nat → Int32} {m_seenWas : Nat → Int32} {m_seed : Int64} (hk : k < 512) (hI : Inv k f_keptSlots f_lastSeed f_text_letters f_text_length f_plan_chips f_plan_gates f_plan_inputs f_plan_registers f_plan_slowRegisters f_plan_kinds f_plan_firsts f_plan_seconds f_plan_clocks f_plan_sourceSets f_now_ones f_now_unknowns f_now_places f_now_pins f_now_count f_hist_next f_hist_held f_ring_cells f_kept_cells f_sight_steps f_sight_gates f_sight_values f_sight_truths f_sight_held m_text m_textSize m_chips m_gates m_kind m_source m_second m_clock m_page m_book m_doings m_kept m_isKept m_seen m_seenBehind m_seenGate m_seenWorth m_seenWas m_seed) (a1 : Int32) (a2 : Int32) :
    wp_X9_input f_hist_held f_hist_next f_ring_cells f_now_count f_now_ones f_now_pins f_now_places f_now_unknowns f_plan_gates f_plan_kinds a1 a2 (fun r y_hist_held y_hist_next y_ring_cells y_now_ones y_now_unknowns => wp_X10_input m_book m_doings m_gates m_kind m_page m_thrown a1 a2 (fun r2 z_book z_doings z_page z_thrown => r = r2 ∧ Inv (k + 1) f_keptSlots f_lastSeed f_text_letters f_text_length f_plan_chips f_plan_gates f_plan_inputs f_plan_registers f_plan_slowRegisters f_plan_kinds f_plan_firsts f_plan_seconds f_plan_clocks f_plan_sourceSets y_now_ones y_now_unknowns f_now_places f_now_pins f_now_count y_hist_next y_hist_held y_ring_cells f_kept_cells f_sight_steps f_sight_gates f_sight_values f_sight_truths f_sight_held m_text m_textSize m_chips m_gates m_kind m_source m_second m_clock z_page z_book z_doings m_kept m_isKept m_seen m_seenBehind m_seenGate m_seenWorth m_seenWas m_seed)) := by
  have same := inv_mono hI
  obtain ⟨hT, ⟨N, C, kd, s1, s2, ck, hP, ⟨z, hz, hA, hB⟩, hH, hK⟩, hSe, hSd⟩ := hI
  have hP0 := hP
  obtain ⟨hO, hC, ⟨rfl, rfl, rfl, rfl, rfl⟩, hPA, hck, ⟨rfl, rfl⟩, hPB, hckM⟩ := hP
  have hN := hO.1
  unfold wp_X9_input wp_X10_input
  rcases ge_ix (a := a1) (N := N) (by omega) with ⟨g, hg, rfl⟩ | hg
  · refine ev_isGate_t (by omega) hg (bn_f (by decide) (ev_kindOf (by omega) ?_))
    have ig : vp_in (nI g) 10 := vp_in_nI (by omega) (by omega)
    have ig22 : vp_in (nI g) 22 := vp_in_nI (by omega) (by omega)
    rw [(hPA g hg).1]
    by_cases h0 : kd g = 0
    · rw [h0]
      refine br_t rfl ?_
      rcases rg_ix a2 0 2 (by omega) with ⟨j, hj1, hj, rfl⟩ | ha
      · refine ev_isValue_t hj (bn_f (by decide) ?_)
        refine act_past hN hH hz hA hB (fun held' next' ring' hnote => ?_)
        obtain ⟨rfl, rfl, rfl, rfl, rfl⟩ := hA
        refine ev_valueIn (by omega) (ev_store hN hg (by rw [h0]; rfl) hj ?_)
        refine ev_noGate_t (by omega) hg (br_t rfl ⟨ig, ?_⟩)
        rw [nI_clamp (by omega), (hPB g hg).1, h0]
        refine br_t rfl (ev_in_t (L := 0) (H := 2) (by omega) hj (by omega) (bn_f (by decide) (hnote _ (fun book' doings' hH' => ?_))))
        refine ⟨ig22, all_e ⟨ig22, all_e ⟨?_, hT, ⟨N, C, kd, s1, s2, ck, hP0, ⟨(upN z.1 g j, z.2), ?_, ?_, ?_⟩, hH'.mono, hK.mono⟩, hSe, hSd⟩⟩⟩
        · rw [hB.1.1 g hg (by rw [h0]; rfl)]
          congr 1
          have := hz.1 g
          unfold sU sO
          have hs0 : stb (kd g) = true := by rw [h0]; rfl
          simp only [hg, hs0, decide_true, Bool.true_and, beq_iff_eq]
          split
          · omega
          · split <;> omega
        · refine ⟨fun i => ?_, hz.2.1, hz.2.2.1, hz.2.2.2.1, hz.mono.2.2.2.2⟩
          show upN z.1 g j i ≤ 2
          unfold upN; split
          · exact hj
          · exact hz.1 i
        · exact ⟨rfl, rfl, rfl, rfl, rfl⟩
        · refine ⟨⟨fun i hi hs => ?_, ?_⟩, fun i hi => ?_, ?_⟩
          · show upd m_page g (nI j) i = nI (upN z.1 g j i)
            by_cases e : i = g
            · rw [e, upd_s, upN_s]
            · rw [upd_n e, upN_n e]; exact hB.1.1 i hi hs
          · rw [upd_n (by omega)]; exact hB.1.2
          · rw [upd_n (by omega)]; exact hB.2.1 i hi
          · rw [upd_n (by omega)]; exact hB.2.2
      · refine ev_isValue_f ha (bn_t rfl ?_)
        refine ev_noGate_t (by omega) hg (br_t rfl ⟨ig, ?_⟩)
        rw [nI_clamp (by omega), (hPB g hg).1, h0]
        exact br_t rfl (ev_in_f ha (bn_t rfl ⟨rfl, same⟩))
    · have hk5 := (hO.2 g hg).1
      have hne : ¬ nI (kd g) = 0 := by rw [← nI_0, nI_eq (by omega) (by omega)]; exact h0
      refine br_f hne ?_
      refine ev_noGate_t (by omega) hg (br_t rfl ⟨ig, ?_⟩)
      rw [nI_clamp (by omega), (hPB g hg).1]
      exact br_f hne ⟨rfl, same⟩
  · refine ev_isGate_f (by omega) hg (bn_t rfl ?_)
    exact ev_noGate_f (by omega) hg (br_f (by decide) ⟨rfl, same⟩)
set_option maxRecDepth 20000 in
set_option maxHeartbeats 2000000 in
theorem law_lay {k : Nat} {f_keptSlots : Int32} {f_lastSeed : Int64} {f_text_letters : Nat → Int32} {f_text_length : Int32} {f_plan_chips : Int32} {f_plan_gates : Int32} {f_plan_inputs : Int32} {f_plan_registers : Int32} {f_plan_slowRegisters : Int32} {f_plan_kinds : Nat → Int32} {f_plan_firsts : Nat → Int32} {f_plan_seconds : Nat → Int32} {f_plan_clocks : Nat → Int32} {f_plan_sourceSets : Nat → Int32} {f_now_ones : Int32} {f_now_unknowns : Int32} {f_now_places : Int32} {f_now_pins : Int32} {f_now_count : Int32} {f_hist_next : Int32} {f_hist_held : Int32} {f_ring_cells : Nat → Int32} {f_kept_cells : Nat → Int32} {f_sight_steps : Nat → Int32} {f_sight_gates : Nat → Int32} {f_sight_values : Nat → Int32} {f_sight_truths : Nat → Int32} {f_sight_held : Int32} {m_thrown : Int32} {m_text : Nat → Int32} {m_textSize : Int32} {m_chips : Int32} {m_gates : Int32} {m_kind : Nat → Int32} {m_source : Nat → Int32} {m_second : Nat → Int32} {m_clock : Nat → Int32} {m_page : Nat → Int32} {m_book : Nat → Int32} {m_doings : Int32} {m_kept : Nat → Int32} {m_isKept : Nat → Int32} {m_seen : Int32} {m_seenBehind : Nat → Int32} {m_seenGate : Nat → Int32} {m_seenWorth : Nat → Int32} {m_seenWas : Nat → Int32} {m_seed : Int64} (hk : k < 512) (hI : Inv k f_keptSlots f_lastSeed f_text_letters f_text_length f_plan_chips f_plan_gates f_plan_inputs f_plan_registers f_plan_slowRegisters f_plan_kinds f_plan_firsts f_plan_seconds f_plan_clocks f_plan_sourceSets f_now_ones f_now_unknowns f_now_places f_now_pins f_now_count f_hist_next f_hist_held f_ring_cells f_kept_cells f_sight_steps f_sight_gates f_sight_values f_sight_truths f_sight_held m_text m_textSize m_chips m_gates m_kind m_source m_second m_clock m_page m_book m_doings m_kept m_isKept m_seen m_seenBehind m_seenGate m_seenWorth m_seenWas m_seed) (a1 : Int32) (a2 : Int32) :
    wp_X9_lay f_hist_held f_hist_next f_ring_cells f_now_count f_now_ones f_now_pins f_now_places f_now_unknowns f_plan_chips f_plan_gates a1 a2 (fun r y_hist_held y_hist_next y_ring_cells y_now_places => wp_X10_lay m_book m_chips m_doings m_gates m_page m_thrown a1 a2 (fun r2 z_book z_doings z_page z_thrown => r = r2 ∧ Inv (k + 1) f_keptSlots f_lastSeed f_text_letters f_text_length f_plan_chips f_plan_gates f_plan_inputs f_plan_registers f_plan_slowRegisters f_plan_kinds f_plan_firsts f_plan_seconds f_plan_clocks f_plan_sourceSets f_now_ones f_now_unknowns y_now_places f_now_pins f_now_count y_hist_next y_hist_held y_ring_cells f_kept_cells f_sight_steps f_sight_gates f_sight_values f_sight_truths f_sight_held m_text m_textSize m_chips m_gates m_kind m_source m_second m_clock z_page z_book z_doings m_kept m_isKept m_seen m_seenBehind m_seenGate m_seenWorth m_seenWas m_seed)) := by
  have same := inv_mono hI
  obtain ⟨hT, ⟨N, C, kd, s1, s2, ck, hP, ⟨z, hz, hA, hB⟩, hH, hK⟩, hSe, hSd⟩ := hI
  have hP0 := hP
  obtain ⟨hO, hC, ⟨rfl, rfl, rfl, rfl, rfl⟩, hPA, hck, ⟨rfl, rfl⟩, hPB, hckM⟩ := hP
  have hN := hO.1
  unfold wp_X9_lay wp_X10_lay
  rcases ge_ix (a := a1) (N := N) (by omega) with ⟨g, hg, rfl⟩ | hg
  · refine ev_isGate_t (by omega) hg (br_f (by decide) ?_)
    have e10 : (10 : Int32) + nI g = nI (10 + g) := nI_add 10 g
    have i22 : vp_in ((10 : Int32) + nI g) 22 := by rw [e10]; exact vp_in_nI (by omega) (by omega)
    have cl : ((10 : Int32) + nI g).toNatClampNeg = 10 + g := by rw [e10, nI_clamp (by omega)]
    rcases ge_ix (a := a2) (N := C) (by omega) with ⟨j, hj, rfl⟩ | hj
    · refine ev_isChip_t (by omega) hj (bn_f (by decide) ?_)
      have hAp := hA.2.2.1
      have hlg := hz.2.2.1 g hg
      have cc : wp_X9_chipIn f_now_places (nI g) = fun Q => wp_X9_chipIn (pI z.2.1) (nI g) Q := by rw [hAp]
      rw [cc]
      refine ev_chipIn hz.2.1 (by omega) ?_
      by_cases he : z.2.1 g = j
      · refine bn_t (by rw [he]) ?_
        refine ev_noGate_t (by omega) hg (bn_t rfl (ev_noChip_t (by omega) hj (br_t rfl ⟨i22, ?_⟩)))
        rw [cl, hB.2.1 g hg, he]
        exact bn_t rfl ⟨rfl, same⟩
      · have hne : ¬ nI (z.2.1 g) = nI j := by rw [nI_eq (by omega) (by omega)]; exact he
        refine bn_f hne ?_
        refine act_past hN hH hz hA hB (fun held' next' ring' hnote => ?_)
        rw [hAp]
        refine ev_placed hz.2.1 (by omega) (by omega) ?_
        refine ev_noGate_t (by omega) hg (bn_t rfl (ev_noChip_t (by omega) hj (br_t rfl ⟨i22, ?_⟩)))
        rw [cl, hB.2.1 g hg]
        refine bn_f hne (hnote _ (fun book' doings' hH' => ?_))
        refine ⟨i22, all_e ⟨i22, all_e ⟨rfl, hT, ⟨N, C, kd, s1, s2, ck, hP0, ⟨(z.1, upN z.2.1 g j, z.2.2), ?_, ?_, ?_⟩, hH'.mono, hK.mono⟩, hSe, hSd⟩⟩⟩
        · refine ⟨hz.1, fun i => ?_, fun i hi => ?_, hz.2.2.2.1, hz.mono.2.2.2.2⟩
          · show upN z.2.1 g j i < 4
            unfold upN; split
            · omega
            · exact hz.2.1 i
          · show upN z.2.1 g j i < C
            unfold upN; split
            · exact hj
            · exact hz.2.2.1 i hi
        · exact ⟨hA.1, hA.2.1, rfl, hA.2.2.2.1, hA.2.2.2.2⟩
        · refine ⟨⟨fun i hi hs => ?_, ?_⟩, fun i hi => ?_, ?_⟩
          · rw [upd_n (by omega)]; exact hB.1.1 i hi hs
          · rw [upd_n (by omega)]; exact hB.1.2
          · show upd m_page (10 + g) (nI j) (10 + i) = nI (upN z.2.1 g j i)
            by_cases e : i = g
            · rw [e, upd_s, upN_s]
            · rw [upd_n (by omega), upN_n e]; exact hB.2.1 i hi
          · rw [upd_n (by omega)]; exact hB.2.2
    · refine ev_isChip_f (by omega) hj (bn_t rfl ?_)
      exact ev_noGate_t (by omega) hg (bn_t rfl (ev_noChip_f (by omega) hj (br_f (by decide) ⟨rfl, same⟩)))
  · refine ev_isGate_f (by omega) hg (br_t rfl ?_)
    exact ev_noGate_f (by omega) hg (bn_f (by decide) ⟨rfl, same⟩)
