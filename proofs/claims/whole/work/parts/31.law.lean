/-! THE CLAIM OUT OF ONE WALK OF THE LAW'S BODY. Your part is whole_start (and what it stands on); all else here is the same for every law, but numbers. -/
def R_law : String := "ChipSlotsLaw"
def lw_P (b : Addr) (xs : List Int32) (args : Array Value) (s : State) : Prop := args = #[.ref b] ∧ s.IntsAt b xs ∧ xs.length ≤ 3072 ∧ (Jvm.Cond.and given_1 narrow_1).before args s = true
def lw_Q (_ : Array Value) (s : State) (o : Outcome) (t : State) : Prop := o = .returned (some (.int 1)) ∧ Framed s o t [] 600000 7302250
def lw_Z (below : List Frame) (a : Array Value) (s : State) : State → Prop := fun t => ∃ o, t.status = .running ∧ Ended t below o ∧ lw_Q a s o t
/-- the law's own end, with 1 on the stack, nothing written that was there before, its room as the claim has it -/
theorem lw_ret {p : Program} {l : Launch} {e : Env} {s : State} {m : MethodId} {below : List Frame} {meth : Method} {c : Code} {b : Nat} (hx : p.tables.exec = Jvm.exec) (hb : c.code = code) (hr : meth.sig.returnType = ret) (hlocks : meth.locks = false) {pc : Nat} {H : Heap} {ls : Array Slot} (hdg : decode code pc = .ok (.ireturn, 1)) : W p l e room_1 s m #[Value.ref b] below meth c H [] 600000 7302250 (lw_Z below #[Value.ref b] s) (F0 m pc ls [.int 1]) := by
  intro T hT X
  obtain ⟨fs, hret, hrun, hended, hW, hframe⟩ := X.leave (v := some (.int 1)) (hlocks := hlocks) (fun h => by rw [hr] at h; cases h)
  have hmeth' : T.vm.method? m = some meth := X.method'
  refine ⟨T.setFrames fs, ?_, .returned (some (.int 1)), hrun, hended, rfl, ⟨_, rfl⟩, hW, hframe⟩
  jvm_step X.here [X.here.top, hx, hb, hdg, hmeth', hr, ret, narrow_b1]
  (try refine ⟨rfl, ?_⟩); (try refine ⟨rfl, ?_⟩)
  first | (intro acts; rw [hret _ acts rfl rfl rfl]) | rw [hret _ _ rfl rfl rfl]
  exact Steps.refl _
/-- what holds at the law's entry: the machine, the code, the tables' words (any of lw_tbl by 'hts w (by decide +kernel)'), the script of L ints xs at the cell b, what the Statement gives of the start (any of its parts by flat_of_before) -/
def lw_At (p : Program) (s : State) (m : MethodId) (meth : Method) (c : Code) (b L : Nat) (xs : Nat → Int32) : Prop :=
  p.tables.exec = Jvm.exec ∧ c.code = code ∧ meth.sig.returnType = ret ∧ c.maxLocals = 4 ∧ s.vm.findClass R_law = some m.cls ∧ (∀ w ∈ lw_tbl, w.before #[Value.ref b] s = true) ∧ va_X b L xs s s.heap ∧ b < s.heap.size ∧ meth.locks = false ∧ (Jvm.Cond.and given_1 narrow_1).before #[Value.ref b] s = true
theorem law_cmp {k L : Nat} {x3 : Int32} (ex : x3 = nI (6 * k)) (h : L < 6 * k + 6) (hL : L ≤ 3072) (hk : 6 * k ≤ 3078) : Int32.ofNat L - 6 < x3 := by
  rw [Int32.lt_iff_toInt_lt, ex, nI_toInt (by omega)]
  have := pk_sub_toInt (a := L) (b := 6) (by omega) (by omega)
  have e : Int32.ofNat L - 6 = nI L - nI 6 := rfl
  rw [e, this]
  omega
set_option maxRecDepth 100000 in
set_option maxHeartbeats 8000000 in
theorem law_loop {p : Program} {l : Launch} {e : Env} {s : State} {m : MethodId} {below : List Frame} {meth : Method} {c : Code} {D : va_G} {cI cZ : ClassId} {b L : Nat} {xs : Nat → Int32} (E : gE p m c cL_law 4 s #[Value.ref b] RL D [(cI, .int), (cZ, .boolean)] (fun q => s.heap.size ≤ q)) (hr : meth.sig.returnType = ret) (hlocks : meth.locks = false) (hX : va_X b L xs s s.heap) (hbl : b < s.heap.size) (hL : L ≤ 3072) {ad2 : Nat → Nat} :
    ∀ (n k : Nat) (x3 : Int32), L < 6 * k + n → x3 = nI (6 * k) → 6 * k ≤ 3078 → ∀ (ad : Nat → Nat) (f_keptSlots : Int32) (f_trace : Nat → Int32) (f_lastSeed : Int64) (f_text_letters : Nat → Int32) (f_text_length : Int32) (f_reader_place : Int32) (f_reader_greatestSource : Int32) (f_plan_chips : Int32) (f_plan_firstPins : Int32) (f_plan_firstPlaces : Int32) (f_plan_gates : Int32) (f_plan_inputs : Int32) (f_plan_registers : Int32) (f_plan_slowRegisters : Int32) (f_plan_kinds : Nat → Int32) (f_plan_firsts : Nat → Int32) (f_plan_seconds : Nat → Int32) (f_plan_clocks : Nat → Int32) (f_plan_sourceSets : Nat → Int32) (f_spare_chips : Int32) (f_spare_firstPins : Int32) (f_spare_firstPlaces : Int32) (f_spare_gates : Int32) (f_spare_inputs : Int32) (f_spare_registers : Int32) (f_spare_slowRegisters : Int32) (f_spare_kinds : Nat → Int32) (f_spare_firsts : Nat → Int32) (f_spare_seconds : Nat → Int32) (f_spare_clocks : Nat → Int32) (f_spare_sourceSets : Nat → Int32) (f_now_ones : Int32) (f_now_unknowns : Int32) (f_now_places : Int32) (f_now_pins : Int32) (f_now_count : Int32) (f_copy_ones : Int32) (f_copy_unknowns : Int32) (f_copy_places : Int32) (f_copy_pins : Int32) (f_copy_count : Int32) (f_logic_ones : Int32) (f_logic_unknowns : Int32) (f_logic_settled : Int32) (f_sched_available : Nat → Int32) (f_sched_wanted : Nat → Int32) (f_sched_coming : Nat → Int32) (f_sched_waiting : Int32) (f_sched_taken : Int32) (f_sched_sent : Int32) (f_sched_lastSent : Int32) (f_hist_next : Int32) (f_hist_held : Int32) (f_ring_cells : Nat → Int32) (f_kept_cells : Nat → Int32) (f_sight_steps : Nat → Int32) (f_sight_gates : Nat → Int32) (f_sight_values : Nat → Int32) (f_sight_truths : Nat → Int32) (f_sight_held : Int32) (m_thrown : Int32) (m_text : Nat → Int32) (m_textSize : Int32) (m_place : Int32) (m_chips : Int32) (m_gates : Int32) (m_kind : Nat → Int32) (m_source : Nat → Int32) (m_second : Nat → Int32) (m_clock : Nat → Int32) (m_readChips : Int32) (m_readPins : Int32) (m_readGates : Int32) (m_readKind : Nat → Int32) (m_readLies : Nat → Int32) (m_readSource : Nat → Int32) (m_readSecond : Nat → Int32) (m_readClock : Nat → Int32) (m_page : Nat → Int32) (m_trial : Nat → Int32) (m_book : Nat → Int32) (m_doings : Int32) (m_kept : Nat → Int32) (m_isKept : Nat → Int32) (m_seen : Int32) (m_seenBehind : Nat → Int32) (m_seenGate : Nat → Int32) (m_seenWorth : Nat → Int32) (m_seenWas : Nat → Int32) (m_seed : Int64) (m_worth : Nat → Int32) (m_known : Int32) (m_hand : Nat → Int32) (m_goes : Nat → Int32) (m_takes : Int32) (m_crossed : Int32) (m_last : Int32) (m_lastNow : Int32) (m_states : Nat → Int32) (H : Heap) (locs : List Loc), Inv k f_keptSlots f_lastSeed f_text_letters f_text_length f_plan_chips f_plan_gates f_plan_inputs f_plan_registers f_plan_slowRegisters f_plan_kinds f_plan_firsts f_plan_seconds f_plan_clocks f_plan_sourceSets f_now_ones f_now_unknowns f_now_places f_now_pins f_now_count f_hist_next f_hist_held f_ring_cells f_kept_cells f_sight_steps f_sight_gates f_sight_values f_sight_truths f_sight_held m_text m_textSize m_chips m_gates m_kind m_source m_second m_clock m_page m_book m_doings m_kept m_isKept m_seen m_seenBehind m_seenGate m_seenWorth m_seenWas m_seed → gW D s (fun q => s.heap.size ≤ q) (wC ad cI cZ f_keptSlots f_trace f_lastSeed f_text_letters f_text_length f_reader_place f_reader_greatestSource f_plan_chips f_plan_firstPins f_plan_firstPlaces f_plan_gates f_plan_inputs f_plan_registers f_plan_slowRegisters f_plan_kinds f_plan_firsts f_plan_seconds f_plan_clocks f_plan_sourceSets f_spare_chips f_spare_firstPins f_spare_firstPlaces f_spare_gates f_spare_inputs f_spare_registers f_spare_slowRegisters f_spare_kinds f_spare_firsts f_spare_seconds f_spare_clocks f_spare_sourceSets f_now_ones f_now_unknowns f_now_places f_now_pins f_now_count f_copy_ones f_copy_unknowns f_copy_places f_copy_pins f_copy_count f_logic_ones f_logic_unknowns f_logic_settled f_sched_available f_sched_wanted f_sched_coming f_sched_waiting f_sched_taken f_sched_sent f_sched_lastSent f_hist_next f_hist_held f_ring_cells f_kept_cells f_sight_steps f_sight_gates f_sight_values f_sight_truths f_sight_held (wM ad2 cI cZ m_thrown m_text m_textSize m_place m_chips m_gates m_kind m_source m_second m_clock m_readChips m_readPins m_readGates m_readKind m_readLies m_readSource m_readSecond m_readClock m_page m_trial m_book m_doings m_kept m_isKept m_seen m_seenBehind m_seenGate m_seenWorth m_seenWas m_seed m_worth m_known m_hand m_goes m_takes m_crossed m_last m_lastNow m_states [])) H locs → ∀ (ls : Array Slot), lv_has ls 4 [(0, .ref b), (1, .ref (ad 33)), (2, .ref (ad2 23)), (3, .int x3)] → W p l e room_1 s m #[Value.ref b] below meth c H locs 58 1351 (lw_Z below #[Value.ref b] s) (F0 m 18 ls []) := by
  have hbA : ¬ (fun q : Nat => s.heap.size ≤ q) b := Nat.not_le.mpr hbl
  have hx := E.1.1
  have hb := E.1.2.1
  intro n
  induction n with
  | zero =>
    intro k x3 hn ex hk2 ad f_keptSlots f_trace f_lastSeed f_text_letters f_text_length f_reader_place f_reader_greatestSource f_plan_chips f_plan_firstPins f_plan_firstPlaces f_plan_gates f_plan_inputs f_plan_registers f_plan_slowRegisters f_plan_kinds f_plan_firsts f_plan_seconds f_plan_clocks f_plan_sourceSets f_spare_chips f_spare_firstPins f_spare_firstPlaces f_spare_gates f_spare_inputs f_spare_registers f_spare_slowRegisters f_spare_kinds f_spare_firsts f_spare_seconds f_spare_clocks f_spare_sourceSets f_now_ones f_now_unknowns f_now_places f_now_pins f_now_count f_copy_ones f_copy_unknowns f_copy_places f_copy_pins f_copy_count f_logic_ones f_logic_unknowns f_logic_settled f_sched_available f_sched_wanted f_sched_coming f_sched_waiting f_sched_taken f_sched_sent f_sched_lastSent f_hist_next f_hist_held f_ring_cells f_kept_cells f_sight_steps f_sight_gates f_sight_values f_sight_truths f_sight_held m_thrown m_text m_textSize m_place m_chips m_gates m_kind m_source m_second m_clock m_readChips m_readPins m_readGates m_readKind m_readLies m_readSource m_readSecond m_readClock m_page m_trial m_book m_doings m_kept m_isKept m_seen m_seenBehind m_seenGate m_seenWorth m_seenWas m_seed m_worth m_known m_hand m_goes m_takes m_crossed m_last m_lastNow m_states H locs hI hw ls hl
    refine lv_iload_n hx hb dL_law_18 rfl (lv_at hl 3 rfl) ?_
    refine lv_aload_n hx hb dL_law_19 rfl (lv_at hl 0 rfl) ?_
    refine va_slen hx hb hX hbl hbA hw.2.2 dL_law_20 ?_
    refine lv_bipush (v := 6) hx hb dL_law_21 (by decide) ?_
    refine lv_isub hx hb dL_law_23 ?_
    refine lv_icmp_gt (tgt := 929) hx hb dL_law_24 (by decide) (fun c1 => ?_) (fun c1 => ?_)
    · refine lv_iconst (v := 1) hx hb dL_law_929 (by decide) ?_
      refine va_forget (fun q hq => hw.2.2.2.2 q hq) ?_
      refine W.widen (k := 600000) (n := 7302250) (Nat.le_of_ble_eq_true rfl) (Nat.le_of_ble_eq_true rfl) ?_
      exact lw_ret hx hb hr hlocks dL_law_930
    · exact absurd (law_cmp ex (by omega) hL (by omega)) c1
  | succ n ih =>
    intro k x3 hn ex hk2 ad f_keptSlots f_trace f_lastSeed f_text_letters f_text_length f_reader_place f_reader_greatestSource f_plan_chips f_plan_firstPins f_plan_firstPlaces f_plan_gates f_plan_inputs f_plan_registers f_plan_slowRegisters f_plan_kinds f_plan_firsts f_plan_seconds f_plan_clocks f_plan_sourceSets f_spare_chips f_spare_firstPins f_spare_firstPlaces f_spare_gates f_spare_inputs f_spare_registers f_spare_slowRegisters f_spare_kinds f_spare_firsts f_spare_seconds f_spare_clocks f_spare_sourceSets f_now_ones f_now_unknowns f_now_places f_now_pins f_now_count f_copy_ones f_copy_unknowns f_copy_places f_copy_pins f_copy_count f_logic_ones f_logic_unknowns f_logic_settled f_sched_available f_sched_wanted f_sched_coming f_sched_waiting f_sched_taken f_sched_sent f_sched_lastSent f_hist_next f_hist_held f_ring_cells f_kept_cells f_sight_steps f_sight_gates f_sight_values f_sight_truths f_sight_held m_thrown m_text m_textSize m_place m_chips m_gates m_kind m_source m_second m_clock m_readChips m_readPins m_readGates m_readKind m_readLies m_readSource m_readSecond m_readClock m_page m_trial m_book m_doings m_kept m_isKept m_seen m_seenBehind m_seenGate m_seenWorth m_seenWas m_seed m_worth m_known m_hand m_goes m_takes m_crossed m_last m_lastNow m_states H locs hI hw ls hl
    refine lv_iload_n hx hb dL_law_18 rfl (lv_at hl 3 rfl) ?_
    refine lv_aload_n hx hb dL_law_19 rfl (lv_at hl 0 rfl) ?_
    refine va_slen hx hb hX hbl hbA hw.2.2 dL_law_20 ?_
    refine lv_bipush (v := 6) hx hb dL_law_21 (by decide) ?_
    refine lv_isub hx hb dL_law_23 ?_
    refine lv_icmp_gt (tgt := 929) hx hb dL_law_24 (by decide) (fun c1 => ?_) (fun c1 => ?_)
    · refine lv_iconst (v := 1) hx hb dL_law_929 (by decide) ?_
      refine va_forget (fun q hq => hw.2.2.2.2 q hq) ?_
      refine W.widen (k := 600000) (n := 7302250) (Nat.le_of_ble_eq_true rfl) (Nat.le_of_ble_eq_true rfl) ?_
      exact lw_ret hx hb hr hlocks dL_law_930
    · have h6 : 6 * k + 6 ≤ L := by
        rcases Nat.lt_or_ge L (6 * k + 6) with h | h
        · exact absurd (law_cmp ex h hL (by omega)) c1
        · exact h
      have hk : k < 512 := by omega
      have h0 : vp_in x3 L := by rw [ex]; exact vp_in_nI (by omega) (by omega)
      have h1 : vp_in (x3 + 1) L := by rw [ex, nI_1]; exact vp_in_nI (by omega) (by omega)
      have h2 : vp_in (x3 + 2) L := by rw [ex, show (2 : Int32) = nI 2 from rfl, nI_add]; exact vp_in_nI (by omega) (by omega)
      have h3 : vp_in (x3 + 3) L := by rw [ex, show (3 : Int32) = nI 3 from rfl, nI_add]; exact vp_in_nI (by omega) (by omega)
      have h4 : vp_in (x3 + 4) L := by rw [ex, show (4 : Int32) = nI 4 from rfl, nI_add]; exact vp_in_nI (by omega) (by omega)
      have h5 : vp_in (x3 + 5) L := by rw [ex, show (5 : Int32) = nI 5 from rfl, nI_add]; exact vp_in_nI (by omega) (by omega)
      have hnext : ∀ (ad : Nat → Nat) (f_keptSlots : Int32) (f_trace : Nat → Int32) (f_lastSeed : Int64) (f_text_letters : Nat → Int32) (f_text_length : Int32) (f_reader_place : Int32) (f_reader_greatestSource : Int32) (f_plan_chips : Int32) (f_plan_firstPins : Int32) (f_plan_firstPlaces : Int32) (f_plan_gates : Int32) (f_plan_inputs : Int32) (f_plan_registers : Int32) (f_plan_slowRegisters : Int32) (f_plan_kinds : Nat → Int32) (f_plan_firsts : Nat → Int32) (f_plan_seconds : Nat → Int32) (f_plan_clocks : Nat → Int32) (f_plan_sourceSets : Nat → Int32) (f_spare_chips : Int32) (f_spare_firstPins : Int32) (f_spare_firstPlaces : Int32) (f_spare_gates : Int32) (f_spare_inputs : Int32) (f_spare_registers : Int32) (f_spare_slowRegisters : Int32) (f_spare_kinds : Nat → Int32) (f_spare_firsts : Nat → Int32) (f_spare_seconds : Nat → Int32) (f_spare_clocks : Nat → Int32) (f_spare_sourceSets : Nat → Int32) (f_now_ones : Int32) (f_now_unknowns : Int32) (f_now_places : Int32) (f_now_pins : Int32) (f_now_count : Int32) (f_copy_ones : Int32) (f_copy_unknowns : Int32) (f_copy_places : Int32) (f_copy_pins : Int32) (f_copy_count : Int32) (f_logic_ones : Int32) (f_logic_unknowns : Int32) (f_logic_settled : Int32) (f_sched_available : Nat → Int32) (f_sched_wanted : Nat → Int32) (f_sched_coming : Nat → Int32) (f_sched_waiting : Int32) (f_sched_taken : Int32) (f_sched_sent : Int32) (f_sched_lastSent : Int32) (f_hist_next : Int32) (f_hist_held : Int32) (f_ring_cells : Nat → Int32) (f_kept_cells : Nat → Int32) (f_sight_steps : Nat → Int32) (f_sight_gates : Nat → Int32) (f_sight_values : Nat → Int32) (f_sight_truths : Nat → Int32) (f_sight_held : Int32) (m_thrown : Int32) (m_text : Nat → Int32) (m_textSize : Int32) (m_place : Int32) (m_chips : Int32) (m_gates : Int32) (m_kind : Nat → Int32) (m_source : Nat → Int32) (m_second : Nat → Int32) (m_clock : Nat → Int32) (m_readChips : Int32) (m_readPins : Int32) (m_readGates : Int32) (m_readKind : Nat → Int32) (m_readLies : Nat → Int32) (m_readSource : Nat → Int32) (m_readSecond : Nat → Int32) (m_readClock : Nat → Int32) (m_page : Nat → Int32) (m_trial : Nat → Int32) (m_book : Nat → Int32) (m_doings : Int32) (m_kept : Nat → Int32) (m_isKept : Nat → Int32) (m_seen : Int32) (m_seenBehind : Nat → Int32) (m_seenGate : Nat → Int32) (m_seenWorth : Nat → Int32) (m_seenWas : Nat → Int32) (m_seed : Int64) (m_worth : Nat → Int32) (m_known : Int32) (m_hand : Nat → Int32) (m_goes : Nat → Int32) (m_takes : Int32) (m_crossed : Int32) (m_last : Int32) (m_lastNow : Int32) (m_states : Nat → Int32) (H : Heap) (locs : List Loc), Inv (k + 1) f_keptSlots f_lastSeed f_text_letters f_text_length f_plan_chips f_plan_gates f_plan_inputs f_plan_registers f_plan_slowRegisters f_plan_kinds f_plan_firsts f_plan_seconds f_plan_clocks f_plan_sourceSets f_now_ones f_now_unknowns f_now_places f_now_pins f_now_count f_hist_next f_hist_held f_ring_cells f_kept_cells f_sight_steps f_sight_gates f_sight_values f_sight_truths f_sight_held m_text m_textSize m_chips m_gates m_kind m_source m_second m_clock m_page m_book m_doings m_kept m_isKept m_seen m_seenBehind m_seenGate m_seenWorth m_seenWas m_seed → gW D s (fun q => s.heap.size ≤ q) (wC ad cI cZ f_keptSlots f_trace f_lastSeed f_text_letters f_text_length f_reader_place f_reader_greatestSource f_plan_chips f_plan_firstPins f_plan_firstPlaces f_plan_gates f_plan_inputs f_plan_registers f_plan_slowRegisters f_plan_kinds f_plan_firsts f_plan_seconds f_plan_clocks f_plan_sourceSets f_spare_chips f_spare_firstPins f_spare_firstPlaces f_spare_gates f_spare_inputs f_spare_registers f_spare_slowRegisters f_spare_kinds f_spare_firsts f_spare_seconds f_spare_clocks f_spare_sourceSets f_now_ones f_now_unknowns f_now_places f_now_pins f_now_count f_copy_ones f_copy_unknowns f_copy_places f_copy_pins f_copy_count f_logic_ones f_logic_unknowns f_logic_settled f_sched_available f_sched_wanted f_sched_coming f_sched_waiting f_sched_taken f_sched_sent f_sched_lastSent f_hist_next f_hist_held f_ring_cells f_kept_cells f_sight_steps f_sight_gates f_sight_values f_sight_truths f_sight_held (wM ad2 cI cZ m_thrown m_text m_textSize m_place m_chips m_gates m_kind m_source m_second m_clock m_readChips m_readPins m_readGates m_readKind m_readLies m_readSource m_readSecond m_readClock m_page m_trial m_book m_doings m_kept m_isKept m_seen m_seenBehind m_seenGate m_seenWorth m_seenWas m_seed m_worth m_known m_hand m_goes m_takes m_crossed m_last m_lastNow m_states [])) H locs → ∀ (ls : Array Slot), lv_has ls 4 [(0, .ref b), (1, .ref (ad 33)), (2, .ref (ad2 23)), (3, .int x3)] → W p l e room_1 s m #[Value.ref b] below meth c H locs 58 1351 (lw_Z below #[Value.ref b] s) (F0 m 923 ls []) := by
        intro ad f_keptSlots f_trace f_lastSeed f_text_letters f_text_length f_reader_place f_reader_greatestSource f_plan_chips f_plan_firstPins f_plan_firstPlaces f_plan_gates f_plan_inputs f_plan_registers f_plan_slowRegisters f_plan_kinds f_plan_firsts f_plan_seconds f_plan_clocks f_plan_sourceSets f_spare_chips f_spare_firstPins f_spare_firstPlaces f_spare_gates f_spare_inputs f_spare_registers f_spare_slowRegisters f_spare_kinds f_spare_firsts f_spare_seconds f_spare_clocks f_spare_sourceSets f_now_ones f_now_unknowns f_now_places f_now_pins f_now_count f_copy_ones f_copy_unknowns f_copy_places f_copy_pins f_copy_count f_logic_ones f_logic_unknowns f_logic_settled f_sched_available f_sched_wanted f_sched_coming f_sched_waiting f_sched_taken f_sched_sent f_sched_lastSent f_hist_next f_hist_held f_ring_cells f_kept_cells f_sight_steps f_sight_gates f_sight_values f_sight_truths f_sight_held m_thrown m_text m_textSize m_place m_chips m_gates m_kind m_source m_second m_clock m_readChips m_readPins m_readGates m_readKind m_readLies m_readSource m_readSecond m_readClock m_page m_trial m_book m_doings m_kept m_isKept m_seen m_seenBehind m_seenGate m_seenWorth m_seenWas m_seed m_worth m_known m_hand m_goes m_takes m_crossed m_last m_lastNow m_states H locs hI hw ls hl
        obtain ⟨x4, ex4⟩ : ∃ y : Int32, y = x3 + 6 := ⟨_, rfl⟩
        refine lv_iinc (v := x4) (lv' := [(3, .int x4), (0, .ref b), (1, .ref (ad 33)), (2, .ref (ad2 23))]) hx hb dL_law_923 hl (k := 3) rfl (by rw [ex4]; rfl) (by decide) rfl (fun ls hl => ?_)
        refine lv_goto (tgt := 18) hx hb dL_law_926 (by decide) ?_
        exact ih (k + 1) x4 (by omega) (by rw [ex4, ex, show (6 : Int32) = nI 6 from rfl, nI_add]; rfl) (by omega) ad f_keptSlots f_trace f_lastSeed f_text_letters f_text_length f_reader_place f_reader_greatestSource f_plan_chips f_plan_firstPins f_plan_firstPlaces f_plan_gates f_plan_inputs f_plan_registers f_plan_slowRegisters f_plan_kinds f_plan_firsts f_plan_seconds f_plan_clocks f_plan_sourceSets f_spare_chips f_spare_firstPins f_spare_firstPlaces f_spare_gates f_spare_inputs f_spare_registers f_spare_slowRegisters f_spare_kinds f_spare_firsts f_spare_seconds f_spare_clocks f_spare_sourceSets f_now_ones f_now_unknowns f_now_places f_now_pins f_now_count f_copy_ones f_copy_unknowns f_copy_places f_copy_pins f_copy_count f_logic_ones f_logic_unknowns f_logic_settled f_sched_available f_sched_wanted f_sched_coming f_sched_waiting f_sched_taken f_sched_sent f_sched_lastSent f_hist_next f_hist_held f_ring_cells f_kept_cells f_sight_steps f_sight_gates f_sight_values f_sight_truths f_sight_held m_thrown m_text m_textSize m_place m_chips m_gates m_kind m_source m_second m_clock m_readChips m_readPins m_readGates m_readKind m_readLies m_readSource m_readSecond m_readClock m_page m_trial m_book m_doings m_kept m_isKept m_seen m_seenBehind m_seenGate m_seenWorth m_seenWas m_seed m_worth m_known m_hand m_goes m_takes m_crossed m_last m_lastNow m_states H locs hI hw ls (lv_sub hl [1, 2, 3, 0] rfl)
      refine lv_aload_n hx hb dL_law_27 rfl (lv_at hl 0 rfl) ?_
      refine lv_iload_n hx hb dL_law_28 rfl (lv_at hl 3 rfl) ?_
      refine va_sld hx hb hX hbl hbA hw.2.2 h0 dL_law_29 ?_
      refine lv_bipush (v := 31) hx hb dL_law_30 (by decide) ?_
      refine lv_iand hx hb dL_law_32 ?_
      refine lv_topi (fun v ev => ?_)
      by_cases c10 : v = 0
      · refine lv_tableIn (tgt := 152) (off := 119) hx hb dL_law_33 (by rw [c10]; decide) (by rw [c10]; decide) (by rw [c10]; rfl) (by decide) ?_
        exact law_case_0 E hX hbl hbA hL hk h1 h2 h3 h4 h5 hI hw hl hnext
      by_cases c11 : v = 1
      · refine lv_tableIn (tgt := 175) (off := 142) hx hb dL_law_33 (by rw [c11]; decide) (by rw [c11]; decide) (by rw [c11]; rfl) (by decide) ?_
        exact law_case_1 E hX hbl hbA hL hk h1 h2 h3 h4 h5 hI hw hl hnext
      by_cases c12 : v = 2
      · refine lv_tableIn (tgt := 188) (off := 155) hx hb dL_law_33 (by rw [c12]; decide) (by rw [c12]; decide) (by rw [c12]; rfl) (by decide) ?_
        exact law_case_2 E hX hbl hbA hL hk h1 h2 h3 h4 h5 hI hw hl hnext
      by_cases c13 : v = 3
      · refine lv_tableIn (tgt := 201) (off := 168) hx hb dL_law_33 (by rw [c13]; decide) (by rw [c13]; decide) (by rw [c13]; rfl) (by decide) ?_
        exact law_case_3 E hX hbl hbA hL hk h1 h2 h3 h4 h5 hI hw hl hnext
      by_cases c14 : v = 4
      · refine lv_tableIn (tgt := 214) (off := 181) hx hb dL_law_33 (by rw [c14]; decide) (by rw [c14]; decide) (by rw [c14]; rfl) (by decide) ?_
        exact law_case_4 E hX hbl hbA hL hk h1 h2 h3 h4 h5 hI hw hl hnext
      by_cases c15 : v = 5
      · refine lv_tableIn (tgt := 247) (off := 214) hx hb dL_law_33 (by rw [c15]; decide) (by rw [c15]; decide) (by rw [c15]; rfl) (by decide) ?_
        exact law_case_5 E hX hbl hbA hL hk h1 h2 h3 h4 h5 hI hw hl hnext
      by_cases c16 : v = 6
      · refine lv_tableIn (tgt := 270) (off := 237) hx hb dL_law_33 (by rw [c16]; decide) (by rw [c16]; decide) (by rw [c16]; rfl) (by decide) ?_
        exact law_case_6 E hX hbl hbA hL hk h1 h2 h3 h4 h5 hI hw hl hnext
      by_cases c17 : v = 7
      · refine lv_tableIn (tgt := 303) (off := 270) hx hb dL_law_33 (by rw [c17]; decide) (by rw [c17]; decide) (by rw [c17]; rfl) (by decide) ?_
        exact law_case_7 E hX hbl hbA hL hk h1 h2 h3 h4 h5 hI hw hl hnext
      by_cases c18 : v = 8
      · refine lv_tableIn (tgt := 336) (off := 303) hx hb dL_law_33 (by rw [c18]; decide) (by rw [c18]; decide) (by rw [c18]; rfl) (by decide) ?_
        exact law_case_8 E hX hbl hbA hL hk h1 h2 h3 h4 h5 hI hw hl hnext
      by_cases c19 : v = 9
      · refine lv_tableIn (tgt := 359) (off := 326) hx hb dL_law_33 (by rw [c19]; decide) (by rw [c19]; decide) (by rw [c19]; rfl) (by decide) ?_
        exact law_case_9 E hX hbl hbA hL hk h1 h2 h3 h4 h5 hI hw hl hnext
      by_cases c20 : v = 10
      · refine lv_tableIn (tgt := 372) (off := 339) hx hb dL_law_33 (by rw [c20]; decide) (by rw [c20]; decide) (by rw [c20]; rfl) (by decide) ?_
        exact law_case_10 E hX hbl hbA hL hk h1 h2 h3 h4 h5 hI hw hl hnext
      by_cases c21 : v = 11
      · refine lv_tableIn (tgt := 405) (off := 372) hx hb dL_law_33 (by rw [c21]; decide) (by rw [c21]; decide) (by rw [c21]; rfl) (by decide) ?_
        exact law_case_11 E hX hbl hbA hL hk h1 h2 h3 h4 h5 hI hw hl hnext
      by_cases c22 : v = 12
      · refine lv_tableIn (tgt := 428) (off := 395) hx hb dL_law_33 (by rw [c22]; decide) (by rw [c22]; decide) (by rw [c22]; rfl) (by decide) ?_
        exact law_case_12 E hX hbl hbA hL hk h1 h2 h3 h4 h5 hI hw hl hnext
      by_cases c23 : v = 13
      · refine lv_tableIn (tgt := 461) (off := 428) hx hb dL_law_33 (by rw [c23]; decide) (by rw [c23]; decide) (by rw [c23]; rfl) (by decide) ?_
        exact law_case_13 E hX hbl hbA hL hk h1 h2 h3 h4 h5 hI hw hl hnext
      by_cases c24 : v = 14
      · refine lv_tableIn (tgt := 484) (off := 451) hx hb dL_law_33 (by rw [c24]; decide) (by rw [c24]; decide) (by rw [c24]; rfl) (by decide) ?_
        exact law_case_14 E hX hbl hbA hL hk h1 h2 h3 h4 h5 hI hw hl hnext
      by_cases c25 : v = 15
      · refine lv_tableIn (tgt := 507) (off := 474) hx hb dL_law_33 (by rw [c25]; decide) (by rw [c25]; decide) (by rw [c25]; rfl) (by decide) ?_
        exact law_case_15 E hX hbl hbA hL hk h1 h2 h3 h4 h5 hI hw hl hnext
      by_cases c26 : v = 16
      · refine lv_tableIn (tgt := 570) (off := 537) hx hb dL_law_33 (by rw [c26]; decide) (by rw [c26]; decide) (by rw [c26]; rfl) (by decide) ?_
        exact law_case_16 E hX hbl hbA hL hk h1 h2 h3 h4 h5 hI hw hl hnext
      by_cases c27 : v = 17
      · refine lv_tableIn (tgt := 623) (off := 590) hx hb dL_law_33 (by rw [c27]; decide) (by rw [c27]; decide) (by rw [c27]; rfl) (by decide) ?_
        exact law_case_17 E hX hbl hbA hL hk h1 h2 h3 h4 h5 hI hw hl hnext
      by_cases c28 : v = 18
      · refine lv_tableIn (tgt := 636) (off := 603) hx hb dL_law_33 (by rw [c28]; decide) (by rw [c28]; decide) (by rw [c28]; rfl) (by decide) ?_
        exact law_case_18 E hX hbl hbA hL hk h1 h2 h3 h4 h5 hI hw hl hnext
      by_cases c29 : v = 19
      · refine lv_tableIn (tgt := 649) (off := 616) hx hb dL_law_33 (by rw [c29]; decide) (by rw [c29]; decide) (by rw [c29]; rfl) (by decide) ?_
        exact law_case_19 E hX hbl hbA hL hk h1 h2 h3 h4 h5 hI hw hl hnext
      by_cases c30 : v = 20
      · refine lv_tableIn (tgt := 698) (off := 665) hx hb dL_law_33 (by rw [c30]; decide) (by rw [c30]; decide) (by rw [c30]; rfl) (by decide) ?_
        exact law_case_20 E hX hbl hbA hL hk h1 h2 h3 h4 h5 hI hw hl hnext
      by_cases c31 : v = 21
      · refine lv_tableIn (tgt := 777) (off := 744) hx hb dL_law_33 (by rw [c31]; decide) (by rw [c31]; decide) (by rw [c31]; rfl) (by decide) ?_
        exact law_case_21 E hX hbl hbA hL hk h1 h2 h3 h4 h5 hI hw hl hnext
      by_cases c32 : v = 22
      · refine lv_tableIn (tgt := 831) (off := 798) hx hb dL_law_33 (by rw [c32]; decide) (by rw [c32]; decide) (by rw [c32]; rfl) (by decide) ?_
        exact law_case_22 E hX hbl hbA hL hk h1 h2 h3 h4 h5 hI hw hl hnext
      by_cases c33 : v = 23
      · refine lv_tableIn (tgt := 854) (off := 821) hx hb dL_law_33 (by rw [c33]; decide) (by rw [c33]; decide) (by rw [c33]; rfl) (by decide) ?_
        exact law_case_23 E hX hbl hbA hL hk h1 h2 h3 h4 h5 hI hw hl hnext
      by_cases c34 : v = 24
      · refine lv_tableIn (tgt := 877) (off := 844) hx hb dL_law_33 (by rw [c34]; decide) (by rw [c34]; decide) (by rw [c34]; rfl) (by decide) ?_
        exact law_case_24 E hX hbl hbA hL hk h1 h2 h3 h4 h5 hI hw hl hnext
      by_cases c35 : v = 25
      · refine lv_tableIn (tgt := 900) (off := 867) hx hb dL_law_33 (by rw [c35]; decide) (by rw [c35]; decide) (by rw [c35]; rfl) (by decide) ?_
        exact law_case_25 E hX hbl hbA hL hk h1 h2 h3 h4 h5 hI hw hl hnext
      have n0 := lv_neT c10 (a := 0) rfl
      have n1 := lv_neT c11 (a := 1) rfl
      have n2 := lv_neT c12 (a := 2) rfl
      have n3 := lv_neT c13 (a := 3) rfl
      have n4 := lv_neT c14 (a := 4) rfl
      have n5 := lv_neT c15 (a := 5) rfl
      have n6 := lv_neT c16 (a := 6) rfl
      have n7 := lv_neT c17 (a := 7) rfl
      have n8 := lv_neT c18 (a := 8) rfl
      have n9 := lv_neT c19 (a := 9) rfl
      have n10 := lv_neT c20 (a := 10) rfl
      have n11 := lv_neT c21 (a := 11) rfl
      have n12 := lv_neT c22 (a := 12) rfl
      have n13 := lv_neT c23 (a := 13) rfl
      have n14 := lv_neT c24 (a := 14) rfl
      have n15 := lv_neT c25 (a := 15) rfl
      have n16 := lv_neT c26 (a := 16) rfl
      have n17 := lv_neT c27 (a := 17) rfl
      have n18 := lv_neT c28 (a := 18) rfl
      have n19 := lv_neT c29 (a := 19) rfl
      have n20 := lv_neT c30 (a := 20) rfl
      have n21 := lv_neT c31 (a := 21) rfl
      have n22 := lv_neT c32 (a := 22) rfl
      have n23 := lv_neT c33 (a := 23) rfl
      have n24 := lv_neT c34 (a := 24) rfl
      have n25 := lv_neT c35 (a := 25) rfl
      refine lv_tableOut (tgt := 923) hx hb dL_law_33 (by omega) (by decide) ?_
      exact hnext ad f_keptSlots f_trace f_lastSeed f_text_letters f_text_length f_reader_place f_reader_greatestSource f_plan_chips f_plan_firstPins f_plan_firstPlaces f_plan_gates f_plan_inputs f_plan_registers f_plan_slowRegisters f_plan_kinds f_plan_firsts f_plan_seconds f_plan_clocks f_plan_sourceSets f_spare_chips f_spare_firstPins f_spare_firstPlaces f_spare_gates f_spare_inputs f_spare_registers f_spare_slowRegisters f_spare_kinds f_spare_firsts f_spare_seconds f_spare_clocks f_spare_sourceSets f_now_ones f_now_unknowns f_now_places f_now_pins f_now_count f_copy_ones f_copy_unknowns f_copy_places f_copy_pins f_copy_count f_logic_ones f_logic_unknowns f_logic_settled f_sched_available f_sched_wanted f_sched_coming f_sched_waiting f_sched_taken f_sched_sent f_sched_lastSent f_hist_next f_hist_held f_ring_cells f_kept_cells f_sight_steps f_sight_gates f_sight_values f_sight_truths f_sight_held m_thrown m_text m_textSize m_place m_chips m_gates m_kind m_source m_second m_clock m_readChips m_readPins m_readGates m_readKind m_readLies m_readSource m_readSecond m_readClock m_page m_trial m_book m_doings m_kept m_isKept m_seen m_seenBehind m_seenGate m_seenWorth m_seenWas m_seed m_worth m_known m_hand m_goes m_takes m_crossed m_last m_lastNow m_states H locs (inv_mono hI) hw ls hl
set_option maxRecDepth 20000 in
theorem nstF_at : nstF.map (fun q => Cond.fieldLinkNest q.1 q.2.1 q.2.2.1 q.2.2.2.1 q.2.2.2.2.1 q.2.2.2.2.2) = [79, 80, 107, 108, 109, 111, 112, 114, 116, 117, 118, 119, 120, 122, 124, 125, 127, 165, 166, 167, 169, 170, 171, 173, 174, 175, 177, 178, 179, 181, 182, 183, 202, 203, 205, 206, 226, 228, 230, 268, 289].filterMap (fun i => lw_tbl[i]?) := by decide +kernel
set_option maxRecDepth 20000 in
theorem nstM_at : nstM.map (fun q => Cond.methodLinkNest q.1 q.2.1 q.2.2.1 q.2.2.2) = [73, 89, 102, 160, 197, 217, 248, 280, 352, 375, 382, 396, 397, 404, 415, 484, 491, 525, 541, 576, 612, 613, 617, 618, 640, 707, 724, 730].filterMap (fun i => lw_tbl[i]?) := by decide +kernel
theorem nstF_in : ∀ q ∈ nstF, Cond.fieldLinkNest q.1 q.2.1 q.2.2.1 q.2.2.2.1 q.2.2.2.2.1 q.2.2.2.2.2 ∈ lw_tbl := by
  intro q hq
  have h : Cond.fieldLinkNest q.1 q.2.1 q.2.2.1 q.2.2.2.1 q.2.2.2.2.1 q.2.2.2.2.2 ∈ nstF.map (fun q => Cond.fieldLinkNest q.1 q.2.1 q.2.2.1 q.2.2.2.1 q.2.2.2.2.1 q.2.2.2.2.2) := List.mem_map.mpr ⟨q, hq, rfl⟩
  rw [nstF_at] at h
  obtain ⟨i, -, hi⟩ := List.mem_filterMap.mp h
  exact List.mem_of_getElem? hi
theorem nstM_in : ∀ q ∈ nstM, Cond.methodLinkNest q.1 q.2.1 q.2.2.1 q.2.2.2 ∈ lw_tbl := by
  intro q hq
  have h : Cond.methodLinkNest q.1 q.2.1 q.2.2.1 q.2.2.2 ∈ nstM.map (fun q => Cond.methodLinkNest q.1 q.2.1 q.2.2.1 q.2.2.2) := List.mem_map.mpr ⟨q, hq, rfl⟩
  rw [nstM_at] at h
  obtain ⟨i, -, hi⟩ := List.mem_filterMap.mp h
  exact List.mem_of_getElem? hi
set_option maxRecDepth 100000 in
set_option maxHeartbeats 8000000 in
/-- THE LAW, from its entry -/
theorem whole_start {p : Program} {e : Env} {s : State} {m : MethodId} {below : List Frame} {meth : Method} {c : Code} (l : Launch) (hflags : l.flags = flags0) {b L : Nat} {xs : Nat → Int32} (hL : L ≤ 3072) (C0 : lw_At p s m meth c b L xs) : W p l e room_1 s m #[Value.ref b] below meth c s.heap [] 0 0 (lw_Z below #[Value.ref b] s) (entryFrame m ([Value.ref b] : List Value).toArray 4) := by
  obtain ⟨hx, hb, hr, hml, hown, hts0, hX, hbl, hlocks, hgv⟩ := id C0
  have hts : ∀ w ∈ gT, w.before #[Value.ref b] s = true := fun w h => hts0 w (gT_good w h).1
  have hA : ∀ q : Nat, s.heap.size ≤ q → (fun q : Nat => s.heap.size ≤ q) q := fun _ h => h
  obtain ⟨cX0, iX0, hKnX0⟩ := u_known (C := RX0) (T := TX0) (N := 3) (n := 3) hts inX0 (hts (.instantiable RX0 3) k_134)
  obtain ⟨cX1, iX1, hKnX1⟩ := u_known (C := RX1) (T := TX1) (N := 3) (n := 3) hts inX1 (hts (.instantiable RX1 3) k_114)
  obtain ⟨cX2, iX2, hKnX2⟩ := u_known (C := RX2) (T := TX2) (N := 12) (n := 12) hts inX2 (hts (.instantiable RX2 12) k_87)
  obtain ⟨cX3, iX3, hKnX3⟩ := u_known (C := RX3) (T := TX3) (N := 2) (n := 2) hts inX3 (hts (.instantiable RX3 2) k_80)
  obtain ⟨cX4, iX4, hKnX4⟩ := u_known (C := RX4) (T := TX4) (N := 7) (n := 7) hts inX4 (hts (.instantiable RX4 7) k_122)
  obtain ⟨cX5, iX5, hKnX5⟩ := u_known (C := RX5) (T := TX5) (N := 1) (n := 1) hts inX5 (hts (.instantiable RX5 1) k_139)
  obtain ⟨cX6, iX6, hKnX6⟩ := u_known (C := RX6) (T := TX6) (N := 5) (n := 5) hts inX6 (hts (.instantiable RX6 5) k_154)
  obtain ⟨cX7, iX7, hKnX7⟩ := u_known (C := RX7) (T := TX7) (N := 5) (n := 5) hts inX7 (hts (.instantiable RX7 5) k_104)
  obtain ⟨cX8, iX8, hKnX8⟩ := u_known (C := RX8) (T := TX8) (N := 2) (n := 2) hts inX8 (hts (.instantiable RX8 2) k_72)
  obtain ⟨cX9, iX9, hKnX9⟩ := u_known (C := RX9) (T := TX9) (N := 14) (n := 14) hts inX9 (hts (.instantiable RX9 14) k_64)
  obtain ⟨cX10, iX10, hKnX10⟩ := u_known (C := RX10) (T := TX10) (N := 39) (n := 39) hts inX10 (hts (.instantiable RX10 39) k_582)
  obtain ⟨dC, dI, hKc⟩ : ∃ (dC : Nat → ClassId) (dI : Nat → Nat → Nat), ∀ (k : Nat) (q : vw_C), vwCl[k]? = some q → u_Kn s q.1 q.2.1 q.2.2 (dC k) (dI k) := by
    refine ⟨fun k => if k = 0 then cX0 else if k = 1 then cX1 else if k = 2 then cX2 else if k = 3 then cX3 else if k = 4 then cX4 else if k = 5 then cX5 else if k = 6 then cX6 else if k = 7 then cX7 else if k = 8 then cX8 else if k = 9 then cX9 else cX10, fun k => if k = 0 then iX0 else if k = 1 then iX1 else if k = 2 then iX2 else if k = 3 then iX3 else if k = 4 then iX4 else if k = 5 then iX5 else if k = 6 then iX6 else if k = 7 then iX7 else if k = 8 then iX8 else if k = 9 then iX9 else iX10, ?_⟩
    intro k q hq
    match k, hq with
    | 0, hq => cases hq; exact hKnX0
    | 1, hq => cases hq; exact hKnX1
    | 2, hq => cases hq; exact hKnX2
    | 3, hq => cases hq; exact hKnX3
    | 4, hq => cases hq; exact hKnX4
    | 5, hq => cases hq; exact hKnX5
    | 6, hq => cases hq; exact hKnX6
    | 7, hq => cases hq; exact hKnX7
    | 8, hq => cases hq; exact hKnX8
    | 9, hq => cases hq; exact hKnX9
    | 10, hq => cases hq; exact hKnX10
    | k + 11, hq => simp [vwCl] at hq
  obtain ⟨cI, kI, compI, hI1, hI2, hI3⟩ := Cond.arrayClass_spec (hts (.arrayClass .int) k_78)
  obtain ⟨cZ, kZ, compZ, hZ1, hZ2, hZ3⟩ := Cond.arrayClass_spec (hts (.arrayClass .boolean) k_626)
  have hK : va_K (dC, dI) vwCl [(cI, .int), (cZ, .boolean)] s := by
    refine ⟨hKc, fun k q h => ?_⟩
    match k, h with
    | 0, h => cases h; exact ⟨fun n z => ⟨fun k h => (by cases h), kI, hI2, compI, hI3⟩, hI1⟩
    | 1, h => cases h; exact ⟨fun n z => ⟨fun k h => (by cases h), kZ, hZ2, compZ, hZ3⟩, hZ1⟩
    | k + 2, h => simp at h
  have hN : nst s := by
    refine ⟨fun q hq => va_Nw.of rfl (hts0 _ (nstF_in q hq)), fun q hq => va_Nw.of rfl (hts0 _ (nstM_in q hq))⟩
  have E : gE p m c cL_law 4 s #[Value.ref b] RL (dC, dI) [(cI, .int), (cZ, .boolean)] (fun q => s.heap.size ≤ q) := ⟨⟨hx, hb, hml, hown, hts⟩, hK, hN, hA⟩
  have hw : gW (dC, dI) s (fun q => s.heap.size ≤ q) [] s.heap [] := ⟨fun k q h => by simp at h, ⟨fun i j p q h => by simp at h, fun k q h => by simp at h⟩, va_S.rf⟩
  have hl := lv_entry ([.ref b]) (n := 4) (Nat.le_of_ble_eq_true rfl)
  rw [lg_entry_eq]
  generalize (lg_sl ([.ref b]) ++ List.replicate (4 - (lg_sl ([.ref b])).length) Slot.unset).toArray = ls at hl ⊢
  have hl : lv_has ls 4 [(0, .ref b)] := hl
  refine g_new (fs := [.null, .null, .null, .null, .null, .null, .null, .null, .null, .null, .int 0, .null, .null, .long 0]) (ci := 9) E hw inX9 tyX9 tyX9_ok k_63 k_64 k_50 rfl rfl (Nat.le_of_ble_eq_true rfl) (Nat.le_of_ble_eq_true rfl) dL_law_0 (fun qx H locs hw => ?_)
  refine lv_dup hx hb dL_law_3 rfl ?_
  refine g_aN E hw (g_rI E hw (c_X9_init _) ymi_X9_init k_65 rfl ⟨rfl, rfl⟩ ⟨Nat.le_of_ble_eq_true rfl, Nat.le_of_ble_eq_true rfl⟩ rfl hl.1 rfl (Nat.le_of_ble_eq_true rfl) ⟨Nat.le_of_ble_eq_true rfl, Nat.le_of_ble_eq_true rfl⟩ dL_law_4) (fun u H locs hq hw => ?_)
  obtain ⟨ad, h33, hu⟩ := hq
  rw [hu] at hw
  rw [← h33]
  refine lv_astore_n (lv' := [(1, .ref (ad 33)), (0, .ref b)]) hx hb dL_law_7 rfl hl (by decide) rfl (fun ls hl => ?_)
  refine g_new (fs := [.int 0, .null, .int 0, .int 0, .int 0, .int 0, .null, .null, .null, .null, .int 0, .int 0, .int 0, .null, .null, .null, .null, .null, .null, .null, .null, .int 0, .null, .null, .int 0, .null, .null, .null, .null, .long 0, .null, .int 0, .null, .null, .int 0, .int 0, .int 0, .int 0, .null]) (ci := 10) E hw inX10 tyX10 tyX10_ok k_581 k_582 k_61 rfl rfl (Nat.le_of_ble_eq_true rfl) (Nat.le_of_ble_eq_true rfl) dL_law_8 (fun qm H locs hw => ?_)
  refine lv_dup hx hb dL_law_11 rfl ?_
  refine g_aN E hw (g_rI E hw (c_X10_init _) ymi_X10_init k_583 rfl ⟨rfl, rfl⟩ ⟨Nat.le_of_ble_eq_true rfl, Nat.le_of_ble_eq_true rfl⟩ rfl hl.1 rfl (Nat.le_of_ble_eq_true rfl) ⟨Nat.le_of_ble_eq_true rfl, Nat.le_of_ble_eq_true rfl⟩ dL_law_12) (fun u H locs hq hw => ?_)
  obtain ⟨ad2, h23, hu⟩ := hq
  rw [hu] at hw
  rw [← h23]
  refine lv_astore_n (lv' := [(2, .ref (ad2 23)), (1, .ref (ad 33)), (0, .ref b)]) hx hb dL_law_15 rfl hl (by decide) rfl (fun ls hl => ?_)
  refine lv_iconst (v := 0) hx hb dL_law_16 (by decide) ?_
  refine lv_istore_n (lv' := [(3, .int 0), (2, .ref (ad2 23)), (1, .ref (ad 33)), (0, .ref b)]) hx hb dL_law_17 rfl hl (by decide) rfl (fun ls hl => ?_)
  exact law_loop E hr hlocks hX hbl hL (L + 1) 0 0 (by omega) rfl (by omega) ad (0) (fun _ => 0) (0) (fun _ => 0) (0) (0) ((-9)) (1) (1) (0) (0) (0) (0) (0) (fun _ => 0) (fun _ => 0) (fun _ => 0) (fun _ => 0) (fun _ => 0) (1) (1) (0) (0) (0) (0) (0) (fun _ => 0) (fun _ => 0) (fun _ => 0) (fun _ => 0) (fun _ => 0) (0) (0) (0) (1) (0) (0) (0) (0) (1) (0) (0) (0) (0) (fun _ => 0) (fun _ => 0) (fun _ => 0) (0) (1) (0) (0) (0) (0) (fun _ => 0) (fun _ => 0) (fun _ => 0) (fun _ => 0) (fun _ => 0) (fun _ => 0) (0) (0) (fun _ => 0) (0) (0) (1) (0) (fun _ => 0) (fun _ => 0) (fun _ => 0) (fun _ => 0) (0) (0) (0) (fun _ => 0) (fun _ => 0) (fun _ => 0) (fun _ => 0) (fun _ => 0) (upd (fun _ => 0) ((20 : Int32)).toNatClampNeg (1 : Int32)) (fun _ => 0) (fun _ => 0) (0) (fun _ => 0) (fun _ => 0) (0) (fun _ => 0) (fun _ => 0) (fun _ => 0) (fun _ => 0) (0) (fun _ => 0) (0) (fun _ => 0) (fun _ => 0) (0) (0) (0) (0) (fun _ => 0) H locs inv_init (hw.perm wCM_perm.symm) ls (lv_sub hl [3, 2, 1, 0] rfl)
set_option maxHeartbeats 4000000 in
theorem lw_walk (l : Launch) (hflags : l.flags = flags0) (b : Addr) (xs : List Int32) : MetFree l x (headSpec (Jvm.Cond.code x code maxLocals ret :: tables_1) room_1) (lw_P b xs) (fun _ _ _ _ _ => True) lw_Q := by
  refine MetFree.of_bodyS (code := code) (maxLocals := maxLocals) (ret := ret) (by decide) ?_ ?_
  · intro args s m h hn
    obtain ⟨meth, c, h1, h2, h3, h4, h5, h6, -, -⟩ := Cond.code_spec hn (atoms_spec (ws := Jvm.Cond.code x code maxLocals ret :: tables_1) h _ List.mem_cons_self)
    exact ⟨meth, c, h1, h2, h3, h4, h5, h6⟩
  · intro p e s m args below meth c s₁ B hml0 hP _
    obtain ⟨rfl, hx, hbd, hgv⟩ := hP
    obtain ⟨scr, harrAt, hlist, hof, hsmall⟩ := hx
    obtain ⟨hcb, hkn, -, -⟩ := State.arrayAt?_spec harrAt
    have hown : s.vm.findClass R_law = some m.cls := findClass_of_methodNamed B.named
    have hts0 : ∀ c ∈ (Jvm.Cond.code x code maxLocals ret :: tables_1), c.before #[Value.ref b] s = true := atoms_spec (ws := Jvm.Cond.code x code maxLocals ret :: tables_1) B.pre
    have hts : ∀ w ∈ lw_tbl, w.before #[Value.ref b] s = true := k2_hts_sels lw_privs (fun w hw => hts0 w (List.mem_cons_of_mem _ hw)) lw_privs_ok
    have hml : c.maxLocals = 4 := B.maxLocals_eq (hts0 _ List.mem_cons_self)
    have X₀ : Stand p l e room_1 s m #[Value.ref b] below meth c s₁ [] 0 0 := Stand.of_body B
    have hh0 : s₁.heap = s.heap := by rw [B.state]; rfl
    have hsz : scr.slots.size = xs.length := by rw [← Array.length_toList, hlist, List.length_map]
    have hval : ∀ j : Nat, j < xs.length → scr.slots[j]? = some (.int (xs.getD j 0)) := fun j hj => by
      rw [← Array.getElem?_toList, hlist]
      simp [hj]
    have hbl : b < s.heap.size := (Array.getElem?_eq_some_iff.mp hcb).1
    have hX : va_X b xs.length (fun j => xs.getD j 0) s s.heap := ⟨scr, hcb, hof, hkn, hsz, hval⟩
    have K : W p l e room_1 s m #[Value.ref b] below meth c s₁.heap [] 0 0 (lw_Z below #[Value.ref b] s) (entryFrame m ([Value.ref b] : List Value).toArray 4) := by
      rw [hh0]
      exact whole_start l hflags hbd ⟨B.exec, B.bytes, B.returns, hml, hown, hts, hX, hbl, B.notSynchronized, hgv⟩
    obtain ⟨t, a1, o, b1, b2, b3⟩ := K s₁ rfl X₀
    exact ⟨t, o, a1, b1, b2, b3⟩
theorem lw_pre_spec {args : Array Value} {s : State} (h : (Jvm.Cond.and given_1 narrow_1).before args s = true) (hr : rest_1_c.before args s = true) : ∃ (b : Addr) (xs : List Int32), lw_P b xs args s := by
  have hs := flat_of_before _ h
  have hq := flat_of_before _ hr
  have hc : (Cond.count 1).before args s = true := hs _ (by decide +kernel)
  have harr : (Cond.arrayOf (.arg 0) .int).before args s = true := hs _ (by decide +kernel)
  have hle : (Cond.le (.length (.arg 0)) (.int 3072)).before args s = true := hs _ (by decide +kernel)
  have hlen : (Cond.isInt (.length (.arg 0))).before args s = true := hq _ (by decide +kernel)
  have hall : (Cond.all (.arg 0) (.isInt (.elem (.arg 0) (.index 0)))).before args s = true := hq _ (by decide +kernel)
  obtain ⟨b, xs, hb, hx⟩ := State.ints_of_pre rfl harr hlen hall
  have hsm : xs.length < 2 ^ 31 := hx.choose_spec.2.2.2
  have hev : (Term.length (.arg 0)).eval args s none [] s = some (.int xs.length.toInt32) := hx.length_eval hb
  have hv := Cond.le_ints hev (show (Term.int 3072).eval args s none [] s = some (.int 3072) from rfl)
  have hd : xs.length.toInt32 ≤ 3072 := by
    simpa [Cond.before, Cond.holds, hv] using hle
  have hN : xs.length ≤ 3072 := (Int32.ofNat_le_ofNat hsm (by decide)).mp (show Int32.ofNat xs.length ≤ Int32.ofNat 3072 from hd)
  exact ⟨b, xs, Cond.one_arg hc (show args[0]? = some (.ref b) from hb), hx, hN, h⟩
theorem lw_comes (l : Launch) (hflags : l.flags = flags0) : Comes l x (Jvm.Cond.code x code maxLocals ret :: tables_1) room_1 (fun tb e args s => Calls_1 tb e args s ∧ rest_1 tb e args s ∧ Pre_1 tb e args s)
    (fun _ _ args s o t => lw_Q args s o t) := by
  intro p e ha hc hk s m args below hf hfit hheap happ hpre
  obtain ⟨b, xs, hP⟩ := lw_pre_spec hpre.2.2 hpre.2.1
  obtain ⟨k, o, h1, h2, h3, hQ⟩ := lw_walk l hflags b xs p e ha hc hk s m args below hf ((Spec.applies_iff_loose hf).mp happ).1 hP trivial
  exact ⟨k, o, h1, h2, h3, hQ⟩
theorem lw_frame {s t : State} {o : Outcome} {args : Array Value} (h : Framed s o t [] 600000 7302250) :
    Framed s o t (fieldLocs frame_1_writes args s ++ arrayLocs frame_1_arrays args s ++ staticLocs frame_1_statics s) 600000 7302250 := h
theorem lw_limb (L : Cond) (hL : ∀ (args : Array Value) (s t : State), L.after args s (.returned (some (.int 1))) t = true) :
    ArmFor flags0 classFile x code maxLocals ret World_1 tables_1 room_1 Calls_1 rest_1 Pre_1
      (fun tb e a s o t => postC L tb e a s o t ∧ Framed s o t (fieldLocs frame_1_writes a s ++ arrayLocs frame_1_arrays a s ++ staticLocs frame_1_statics s) 600000 7302250) := by
  intro l hflags _ _ p e ha hc hk s m args below hf hfit hheap happ hpre
  obtain ⟨k, o, h1, h2, h3, rfl, hF⟩ := lw_comes l hflags p e ha hc hk s m args below hf hfit hheap happ hpre
  exact ⟨k, _, h1, h2, h3, hL args s _, lw_frame hF⟩
theorem i_vc : Claimed_1_1 ∧ Claimed_1_2 := ⟨lw_limb limb_1_1 (fun args s t => by simp [limb_1_1, Cond.after, Cond.holds, Cond.value]), lw_limb limb_1_2 (fun args s t => Cond.after_iff.mpr (by
  first | (rw [show limb_1_2 = Cond.eq .result (.int 1) from rfl, Cond.eq_ints (x := 1) (y := 1) rfl rfl]; simp; done) | (simp [limb_1_2, Cond.value, Term.eval]; done)))⟩
