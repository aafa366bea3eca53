/-! ===== a new board: the reference's copying ===== -/
section
variable {N p : Nat} {kd s1 s2 ck l : Nat → Nat} {text : Nat → Int32} {ts : Int32} {Q : Int32 → Int32 → (Nat → Int32) → Int32 → Int32 → (Nat → Int32) → (Nat → Int32) → (Nat → Int32) → Int32 → Int32 → (Nat → Int32) → Int32 → (Nat → Int32) → (Nat → Int32) → Int32 → (Nat → Int32) → (Nat → Int32) → (Nat → Int32) → (Nat → Int32) → Int32 → Prop} {isKept rclk rk rl rsec rsrc : Nat → Int32} {chips doings pl rch rpi th : Int32}
def BG (x : Nat) (kd s1 s2 ck l : Nat → Nat) (kind source second clock page : Nat → Int32) : Prop := ∀ g, g < x → kind g = nI (kd g) ∧ source g = fI kd s1 g ∧ second g = eI kd s2 g ∧ clock g = cI_ kd ck g ∧ page (10 + g) = nI (l g)
def BP (p : Nat) (page : Nat → Int32) : Prop := page 20 = nI p ∧ page 21 = 0 ∧ ∀ g, g < 10 → page g = 0
theorem board_copy (hN : N ≤ 10) (hK : KB N kd s1 s2 ck l rclk rk rl rsec rsrc (nI N)) (hQ : ∀ kind source second clock page, BG N kd s1 s2 ck l kind source second clock page → BP p page → Q (nI N) chips clock 0 (nI N) (upd (upd isKept 0 0) 1 0) kind page pl rch rclk (nI N) rk rl rpi rsec rsrc second source th) :
    ∀ (d x : Nat), x + d = N → ∀ kind source second clock page, BG x kd s1 s2 ck l kind source second clock page → BP p page → wp_X10_board_h67 text ts Q (d + 1) (nI x) chips clock doings (nI N) isKept kind page pl rch rclk (nI N) rk rl rpi rsec rsrc second source th := by
  intro d
  induction d with
  | zero =>
    intro x hx kind source second clock page hg hp
    show wp_X10_board_b67 text ts Q _ _ _ _ _ _ _ _ _ _ _ _ _ _ _ _ _ _ _ _ _
    unfold wp_X10_board_b67
    have e : x = N := by omega
    subst e
    rw [show (0 : Int32).toNatClampNeg = 0 by decide, show (1 : Int32).toNatClampNeg = 1 by decide]
    exact pk_le x x (fun _ => ⟨vp_in_nI (n := 0) (by omega) (by omega), all_e ⟨vp_in_nI (n := 1) (by omega) (by omega), all_e (hQ _ _ _ _ _ hg hp)⟩⟩) (fun h => absurd h (by omega))
  | succ d ih =>
    intro x hx kind source second clock page hg hp
    show wp_X10_board_b67 text ts Q (wp_X10_board_h67 text ts Q (d + 1)) _ _ _ _ _ _ _ _ _ _ _ _ _ _ _ _ _ _ _ _
    unfold wp_X10_board_b67
    have hxN : x < N := by omega
    have ix : vp_in (nI x) 10 := vp_in_nI (by omega) (by omega)
    obtain ⟨q1, q2, q3, q4, q5⟩ := hK.2 x hxN
    rw [ix10, nI_clamp (by omega), nI_clamp (by omega)]
    refine pk_le N x (fun h => absurd h (by omega)) (fun _ => ⟨ix, all_e ⟨ix, all_e ⟨ix, all_e ⟨ix, all_e ⟨ix, all_e ⟨ix, all_e ⟨ix, all_e ⟨ix, all_e ⟨ix, all_e ⟨vp_in_nI (by omega) (by omega), all_e (all_e ?_)⟩⟩⟩⟩⟩⟩⟩⟩⟩⟩)
    rw [nI_1]
    refine ih (x + 1) (by omega) _ _ _ _ _ (fun g hg' => ?_) ⟨?_, ?_, fun g hg' => ?_⟩
    · by_cases e : g = x
      · subst e
        rw [upd_s, upd_s, upd_s, upd_s, upd_s]; exact ⟨q1, q2, q3, q4, q5⟩
      · rw [upd_n e, upd_n e, upd_n e, upd_n e, upd_n (show 10 + g ≠ 10 + x by omega)]; exact hg g (by omega)
    · rw [upd_n (by omega)]; exact hp.1
    · rw [upd_n (by omega)]; exact hp.2.1
    · rw [upd_n (by omega)]; exact hp.2.2 g hg'
theorem board_zero (hN : N ≤ 10) (hK : KB N kd s1 s2 ck l rclk rk rl rsec rsrc (nI N)) {kind source second clock : Nat → Int32} (hQ : ∀ kind source second clock page, BG N kd s1 s2 ck l kind source second clock page → BP p page → Q (nI N) chips clock 0 (nI N) (upd (upd isKept 0 0) 1 0) kind page pl rch rclk (nI N) rk rl (nI p) rsec rsrc second source th) :
    ∀ (d x : Nat), x + d = 22 → ∀ page : Nat → Int32, (∀ j, j < x → page j = 0) → wp_X10_board_h35 text ts Q (d + 1) (nI x) chips clock doings (nI N) isKept kind page pl rch rclk (nI N) rk rl (nI p) rsec rsrc second source th := by
  intro d
  induction d with
  | zero =>
    intro x hx page hg
    show wp_X10_board_b35 text ts Q _ _ _ _ _ _ _ _ _ _ _ _ _ _ _ _ _ _ _ _ _
    unfold wp_X10_board_b35
    have e : x = 22 := by omega
    subst e
    rw [show (20 : Int32).toNatClampNeg = 20 by decide]
    refine pk_le 22 22 (fun _ => ⟨vp_in_nI (n := 20) (by omega) (by omega), all_e ⟨N + 1, ?_⟩⟩) (fun h => absurd h (by omega))
    refine board_copy hN hK hQ N 0 (by omega) _ _ _ _ _ (fun g hg' => absurd hg' (by omega)) ⟨upd_s, ?_, fun g hg' => ?_⟩
    · rw [upd_n (by omega)]; exact hg 21 (by omega)
    · rw [upd_n (by omega)]; exact hg g (by omega)
  | succ d ih =>
    intro x hx page hg
    show wp_X10_board_b35 text ts Q (wp_X10_board_h35 text ts Q (d + 1)) _ _ _ _ _ _ _ _ _ _ _ _ _ _ _ _ _ _ _ _
    unfold wp_X10_board_b35
    rw [nI_clamp (by omega)]
    refine pk_le 22 x (fun h => absurd h (by omega)) (fun _ => ⟨vp_in_nI (by omega) (by omega), all_e (all_e ?_)⟩)
    rw [nI_1]
    refine ih (x + 1) (by omega) _ (fun j hj => ?_)
    by_cases e : j = x
    · subst e; exact upd_s
    · rw [upd_n e]; exact hg j (by omega)
end
set_option maxRecDepth 20000 in
set_option maxHeartbeats 2000000 in
theorem law_board {k : Nat} {f_keptSlots : Int32} {f_lastSeed : Int64} {f_text_letters : Nat → Int32} {f_text_length : Int32} {f_reader_place : Int32} {f_reader_greatestSource : Int32} {f_plan_chips : Int32} {f_plan_firstPins : Int32} {f_plan_firstPlaces : Int32} {f_plan_gates : Int32} {f_plan_inputs : Int32} {f_plan_registers : Int32} {f_plan_slowRegisters : Int32} {f_plan_kinds : Nat → Int32} {f_plan_firsts : Nat → Int32} {f_plan_seconds : Nat → Int32} {f_plan_clocks : Nat → Int32} {f_plan_sourceSets : Nat → Int32} {f_spare_chips : Int32} {f_spare_firstPins : Int32} {f_spare_firstPlaces : Int32} {f_spare_gates : Int32} {f_spare_inputs : Int32} {f_spare_registers : Int32} {f_spare_slowRegisters : Int32} {f_spare_kinds : Nat → Int32} {f_spare_firsts : Nat → Int32} {f_spare_seconds : Nat → Int32} {f_spare_clocks : Nat → Int32} {f_spare_sourceSets : Nat → Int32} {f_now_ones : Int32} {f_now_unknowns : Int32} {f_now_places : Int32} {f_now_pins : Int32} {f_now_count : Int32} {f_hist_next : Int32} {f_hist_held : Int32} {f_ring_cells : Nat → Int32} {f_kept_cells : Nat → Int32} {f_sight_steps : Nat → Int32} {f_sight_gates : Nat → Int32} {f_sight_values : Nat → Int32} {f_sight_truths : Nat → Int32} {f_sight_held : Int32} {m_thrown : Int32} {m_text : Nat → Int32} {m_textSize : Int32} {m_place : Int32} {m_chips : Int32} {m_gates : Int32} {m_kind : Nat → Int32} {m_source : Nat → Int32} {m_second : Nat → Int32} {m_clock : Nat → Int32} {m_readChips : Int32} {m_readPins : Int32} {m_readGates : Int32} {m_readKind : Nat → Int32} {m_readLies : Nat → Int32} {m_readSource : Nat → Int32} {m_readSecond : Nat → Int32} {m_readClock : Nat → Int32} {m_page : Nat → Int32} {m_book : Nat → Int32} {m_doings : Int32} {m_kept : Nat → Int32} {m_isKept : Nat → Int32} {m_seen : Int32} {m_seenBehind : Nat → Int32} {m_seenGate : Nat → Int32} {m_seenWorth : Nat → Int32} {m_seenWas : Nat → Int32} {m_seed : Int64} (hk : k < 512) (hI : Inv k f_keptSlots f_lastSeed f_text_letters f_text_length f_plan_chips f_plan_gates f_plan_inputs f_plan_registers f_plan_slowRegisters f_plan_kinds f_plan_firsts f_plan_seconds f_plan_clocks f_plan_sourceSets f_now_ones f_now_unknowns f_now_places f_now_pins f_now_count f_hist_next f_hist_held f_ring_cells f_kept_cells f_sight_steps f_sight_gates f_sight_values f_sight_truths f_sight_held m_text m_textSize m_chips m_gates m_kind m_source m_second m_clock m_page m_book m_doings m_kept m_isKept m_seen m_seenBehind m_seenGate m_seenWorth m_seenWas m_seed)  :
    wp_X9_board f_keptSlots f_text_letters f_text_length f_reader_place f_reader_greatestSource f_plan_chips f_plan_firstPins f_plan_firstPlaces f_plan_gates f_plan_inputs f_plan_registers f_plan_slowRegisters f_plan_kinds f_plan_firsts f_plan_seconds f_plan_clocks f_plan_sourceSets f_spare_chips f_spare_firstPins f_spare_firstPlaces f_spare_gates f_spare_inputs f_spare_registers f_spare_slowRegisters f_spare_kinds f_spare_firsts f_spare_seconds f_spare_clocks f_spare_sourceSets f_now_ones f_now_unknowns f_now_places f_now_pins f_now_count f_hist_held  (fun r y_keptSlots y_reader_place y_reader_greatestSource y_plan_chips y_plan_firstPins y_plan_firstPlaces y_plan_gates y_plan_inputs y_plan_registers y_plan_slowRegisters y_plan_kinds y_plan_firsts y_plan_seconds y_plan_clocks y_plan_sourceSets y_spare_chips y_spare_firstPins y_spare_firstPlaces y_spare_gates y_spare_inputs y_spare_registers y_spare_slowRegisters y_spare_kinds y_spare_firsts y_spare_seconds y_spare_clocks y_spare_sourceSets y_now_ones y_now_unknowns y_now_places y_now_pins y_now_count y_hist_held => wp_X10_board m_chips m_clock m_doings m_gates m_isKept m_kind m_page m_place m_readChips m_readClock m_readGates m_readKind m_readLies m_readPins m_readSecond m_readSource m_second m_source m_text m_textSize m_thrown  (fun r2 z_chips z_clock z_doings z_gates z_isKept z_kind z_page z_place z_readChips z_readClock z_readGates z_readKind z_readLies z_readPins z_readSecond z_readSource z_second z_source z_thrown => r = r2 ∧ Inv (k + 1) y_keptSlots f_lastSeed f_text_letters f_text_length y_plan_chips y_plan_gates y_plan_inputs y_plan_registers y_plan_slowRegisters y_plan_kinds y_plan_firsts y_plan_seconds y_plan_clocks y_plan_sourceSets y_now_ones y_now_unknowns y_now_places y_now_pins y_now_count f_hist_next y_hist_held f_ring_cells f_kept_cells f_sight_steps f_sight_gates f_sight_values f_sight_truths f_sight_held m_text m_textSize z_chips z_gates z_kind z_source z_second z_clock z_page m_book z_doings m_kept z_isKept m_seen m_seenBehind m_seenGate m_seenWorth m_seenWas m_seed)) := by
  have same := inv_mono hI
  obtain ⟨⟨T, hT, rfl, rfl, hL⟩, ⟨N0, C0, kd0, s10, s20, ck0, _, _, ⟨h0, q0, zs0, _, hq, hnext, _⟩, _⟩, hSe, hSd⟩ := hI
  obtain ⟨res, N, C, p, kd, s1, s2, ck, l, hz, h1, h2⟩ := all_sim (letters := f_text_letters) (text := m_text) hT (fun j hj => (hL j hj).1)
  unfold wp_X9_board wp_X10_board
  refine h1 _ _ _ _ _ _ _ _ _ _ _ _ _ _ _ (fun gs pl ch clo fpi fpl fi ga inp ki re se sl ss ha => ?_)
  by_cases hr : res = -9
  · obtain ⟨⟨hP, hlc, hl4⟩, hC, hp⟩ := hz hr
    obtain ⟨e1, e2, a1, a2, a3, a4, a5, a6⟩ := ha hr
    refine br_t hr (h2 _ _ _ _ _ _ _ _ _ _ (fun pl ch' rclk rga rk rl rpi rsec rsrc hb => br_t hr ⟨23, ?_⟩))
    obtain ⟨e3, e4, b⟩ := hb hr
    have e5 := b.1
    rw [e5] at b
    rw [e3, e4, e5]
    refine board_zero hP.1 b (fun kind source second clock page hg hp' => ⟨a1, ⟨T, hT, rfl, rfl, hL⟩, ⟨N, C, kd, s1, s2, ck, ?_, ⟨(fun _ => 0, l, p, 0), ?_, ?_, ?_⟩, ?_, ?_⟩, hSe, hSd⟩) 22 0 (by omega) _ (fun j hj => absurd hj (by omega))
    · exact ⟨hP, hC, ⟨e1, a1, a2, a3, a4⟩, fun g h => ⟨(a6 g h).1, (a6 g h).2.1, (a6 g h).2.2.1, (a6 g h).2.2.2.1⟩, fun g h => (a6 g h).2.2.2.2, ⟨rfl, rfl⟩, fun g h => ⟨(hg g h).1, (hg g h).2.1, (hg g h).2.2.1⟩, fun g h => (hg g h).2.2.2.1⟩
    · exact ⟨fun _ => by show 0 ≤ 2; omega, hl4, hlc, hp, Nat.zero_le _⟩
    · refine ⟨sI_none.symm.trans (sI_cong fun i _ => ?_), sI_none.symm.trans (sI_cong fun i _ => ?_), a5, e2, rfl⟩
      · unfold sO; simp
      · unfold sU; simp
    · exact ⟨⟨fun g h _ => hp'.2.2 g (by have := hP.1; omega), hp'.2.1⟩, fun g h => (hg g h).2.2.2.2, hp'.1⟩
    · exact ⟨0, q0, zs0, by omega, hq, hnext, rfl, rfl, fun j hj => absurd hj (by omega)⟩
    · refine ⟨fun _ => false, fun _ _ => rfl, sI_none.symm, fun i hi => ⟨?_, fun h => by cases h⟩⟩
      rcases (show i = 0 ∨ i = 1 by omega) with rfl | rfl
      · rw [upd_n (by omega), upd_s]; rfl
      · rw [upd_s]; rfl
  · exact br_f hr (h2 _ _ _ _ _ _ _ _ _ _ (fun pl ch rclk rga rk rl rpi rsec rsrc _ => br_f hr ⟨rfl, same⟩))
