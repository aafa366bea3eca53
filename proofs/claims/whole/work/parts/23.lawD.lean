set_option maxRecDepth 20000 in
set_option maxHeartbeats 2000000 in
theorem law_when {k : Nat} {f_keptSlots : Int32} {f_lastSeed : Int64} {f_text_letters : Nat → Int32} {f_text_length : Int32} {f_plan_chips : Int32} {f_plan_gates : Int32} {f_plan_inputs : Int32} {f_plan_registers : Int32} {f_plan_slowRegisters : Int32} {f_plan_kinds : Nat → Int32} {f_plan_firsts : Nat → Int32} {f_plan_seconds : Nat → Int32} {f_plan_clocks : Nat → Int32} {f_plan_sourceSets : Nat → Int32} {f_now_ones : Int32} {f_now_unknowns : Int32} {f_now_places : Int32} {f_now_pins : Int32} {f_now_count : Int32} {f_sched_available : Nat → Int32} {f_sched_wanted : Nat → Int32} {f_sched_coming : Nat → Int32} {f_sched_waiting : Int32} {f_sched_taken : Int32} {f_sched_sent : Int32} {f_sched_lastSent : Int32} {f_hist_next : Int32} {f_hist_held : Int32} {f_ring_cells : Nat → Int32} {f_kept_cells : Nat → Int32} {f_sight_steps : Nat → Int32} {f_sight_gates : Nat → Int32} {f_sight_values : Nat → Int32} {f_sight_truths : Nat → Int32} {f_sight_held : Int32} {m_thrown : Int32} {m_text : Nat → Int32} {m_textSize : Int32} {m_chips : Int32} {m_gates : Int32} {m_kind : Nat → Int32} {m_source : Nat → Int32} {m_second : Nat → Int32} {m_clock : Nat → Int32} {m_page : Nat → Int32} {m_book : Nat → Int32} {m_doings : Int32} {m_kept : Nat → Int32} {m_isKept : Nat → Int32} {m_seen : Int32} {m_seenBehind : Nat → Int32} {m_seenGate : Nat → Int32} {m_seenWorth : Nat → Int32} {m_seenWas : Nat → Int32} {m_seed : Int64} {m_hand : Nat → Int32} {m_goes : Nat → Int32} {m_takes : Int32} {m_crossed : Int32} {m_last : Int32} {m_lastNow : Int32} (hk : k < 512) (hI : Inv k f_keptSlots f_lastSeed f_text_letters f_text_length f_plan_chips f_plan_gates f_plan_inputs f_plan_registers f_plan_slowRegisters f_plan_kinds f_plan_firsts f_plan_seconds f_plan_clocks f_plan_sourceSets f_now_ones f_now_unknowns f_now_places f_now_pins f_now_count f_hist_next f_hist_held f_ring_cells f_kept_cells f_sight_steps f_sight_gates f_sight_values f_sight_truths f_sight_held m_text m_textSize m_chips m_gates m_kind m_source m_second m_clock m_page m_book m_doings m_kept m_isKept m_seen m_seenBehind m_seenGate m_seenWorth m_seenWas m_seed) (a1 : Int32) (a2 : Int32) :
    wp_X9_when f_now_pins f_now_places f_plan_chips f_plan_firsts f_plan_gates f_plan_inputs f_plan_registers f_plan_seconds f_plan_sourceSets f_sched_available f_sched_coming f_sched_lastSent f_sched_sent f_sched_taken f_sched_waiting f_sched_wanted a1 a2 (fun r y_sched_available y_sched_coming y_sched_lastSent y_sched_sent y_sched_taken y_sched_waiting y_sched_wanted => wp_X10_when m_chips m_crossed m_gates m_goes m_hand m_kind m_last m_lastNow m_page m_second m_source m_takes m_thrown a1 a2 (fun r2 z_crossed z_goes z_hand z_last z_lastNow z_takes z_thrown => r = r2 ∧ Inv (k + 1) f_keptSlots f_lastSeed f_text_letters f_text_length f_plan_chips f_plan_gates f_plan_inputs f_plan_registers f_plan_slowRegisters f_plan_kinds f_plan_firsts f_plan_seconds f_plan_clocks f_plan_sourceSets f_now_ones f_now_unknowns f_now_places f_now_pins f_now_count f_hist_next f_hist_held f_ring_cells f_kept_cells f_sight_steps f_sight_gates f_sight_values f_sight_truths f_sight_held m_text m_textSize m_chips m_gates m_kind m_source m_second m_clock m_page m_book m_doings m_kept m_isKept m_seen m_seenBehind m_seenGate m_seenWorth m_seenWas m_seed)) := by
  have same := inv_mono hI
  obtain ⟨hT, ⟨N, C, kd, s1, s2, ck, hP, ⟨z, hz, hA, hB⟩, hH, hK⟩, hSe, hSd⟩ := hI
  obtain ⟨hO, hC, ⟨rfl, rfl, rfl, rfl, rfl⟩, hPA, hck, ⟨rfl, rfl⟩, hPB, hckM⟩ := hP
  have hN := hO.1
  obtain ⟨rfl, rfl, rfl, rfl, rfl⟩ := hA
  have hpn := hz.2.2.2.1
  unfold wp_X9_when wp_X10_when
  rw [show (20 : Int32).toNatClampNeg = 20 from by decide, hB.2.2]
  rcases ge_ix (a := a1) (N := N) (by omega) with ⟨g, hg, rfl⟩ | hg
  · refine ev_isGate_t (by omega) hg (br_f (by decide) ?_)
    rcases ge_ix (a := a2) (N := C) (by omega) with ⟨c, hc, rfl⟩ | hc
    · refine ev_isChip_t (by omega) hc (bn_f (by decide) (ev_firstSlot hO hPA hz.2.1 hC (by omega) (by omega) hg (fun A Co ls se ta wt W => ?_)))
      refine ev_noGate_t (by omega) hg (bn_t rfl (ev_noChip_t (by omega) hc (br_t rfl ⟨vp_in_nI (n := 20) (by omega) (by omega), ?_⟩)))
      refine ev_laySchedule hO hPB hz.2.1 hB.2.1 hC (by omega) (fun goes hand ln hH' => ?_)
      rw [ix40, nI_clamp (by omega), hH'.1 g hg c (by omega), fsl_sch hN hz.2.1 hC]
      refine ⟨vp_in_nI (by omega) (by omega), ?_, same⟩
      split <;> rfl
    · refine ev_isChip_f (by omega) hc (bn_t rfl ?_)
      exact ev_noGate_t (by omega) hg (bn_t rfl (ev_noChip_f (by omega) hc (br_f (by decide) ⟨rfl, same⟩)))
  · refine ev_isGate_f (by omega) hg (br_t rfl ?_)
    exact ev_noGate_f (by omega) hg (bn_f (by decide) ⟨rfl, same⟩)
theorem fewest_loop {N C : Nat} {kd s1 s2 ck l : Nat → Nat} {kinds firsts seconds sets kind source second page : Nat → Int32} (hO : POK N kd s1 s2 ck) (hA : PA N kd s1 s2 kinds firsts seconds sets) (hB : PB N kd s1 s2 kind source second) (hl : ∀ i, l i < 4) (hR : RLy N l page) (hC : 1 ≤ C ∧ C ≤ 4) {a : Int32} {th : Int32} :
    ∀ (d p : Nat), p + d = 10 → ∃ res : Int32, (∀ (Q : Int32 → (Nat → Int32) → (Nat → Int32) → Int32 → Int32 → Int32 → Int32 → (Nat → Int32) → Prop), (∀ A Co ls se ta wt W, Q res A Co ls se ta wt W) → ∀ A Co ls se ta wt W, wp_X9_fewest_h16 (pI l) (nI C) firsts (nI N) (sI (inF N kd)) (sI (reF N kd)) seconds sets a Q (d + 1) (nI p) A Co ls se ta wt W) ∧ (∀ (Q : Int32 → Int32 → (Nat → Int32) → (Nat → Int32) → Int32 → Int32 → Int32 → Int32 → Prop), (∀ cr go ha la ln ta, Q res cr go ha la ln ta th) → ∀ cr go ha la ln ta, wp_X10_fewest_h22 (nI C) (nI N) kind page second source a Q (d + 1) (nI p) cr go ha la ln ta th) := by
  intro d
  induction d with
  | zero =>
    intro p hpd
    refine ⟨-9, fun Q hQ A Co ls se ta wt W => ?_, fun Q hQ cr go ha la ln ta => ?_⟩
    · show wp_X9_fewest_b16 (pI l) (nI C) firsts (nI N) (sI (inF N kd)) (sI (reF N kd)) seconds sets a Q _ _ _ _ _ _ _ _ _
      unfold wp_X9_fewest_b16
      exact pk_lt 9 p (fun _ => hQ _ _ _ _ _ _ _) (fun h => absurd h (by omega))
    · show wp_X10_fewest_b22 (nI C) (nI N) kind page second source a Q _ _ _ _ _ _ _ _ _
      unfold wp_X10_fewest_b22
      exact pk_le 10 p (fun _ => hQ _ _ _ _ _ _) (fun h => absurd h (by omega))
  | succ d ih =>
    intro p hpd
    obtain ⟨res, h1, h2⟩ := ih (p + 1) (by omega)
    by_cases hlt : a < nI (sch N C kd s1 s2 l p).2.1
    · refine ⟨res, fun Q hQ A Co ls se ta wt W => ?_, fun Q hQ cr go ha la ln ta => ?_⟩
      · show wp_X9_fewest_b16 (pI l) (nI C) firsts (nI N) (sI (inF N kd)) (sI (reF N kd)) seconds sets a Q (wp_X9_fewest_h16 (pI l) (nI C) firsts (nI N) (sI (inF N kd)) (sI (reF N kd)) seconds sets a Q (d + 1)) _ _ _ _ _ _ _ _
        unfold wp_X9_fewest_b16
        refine pk_lt 9 p (fun h => absurd h (by omega)) (fun _ => ev_run hO hA hl hC (by omega) (fun A Co wt W => br_t hlt (all_e ?_)))
        rw [nI_1]
        exact h1 Q hQ _ _ _ _ _ _ _
      · show wp_X10_fewest_b22 (nI C) (nI N) kind page second source a Q (wp_X10_fewest_h22 (nI C) (nI N) kind page second source a Q (d + 1)) _ _ _ _ _ _ _ _
        unfold wp_X10_fewest_b22
        refine pk_le 10 p (fun h => absurd h (by omega)) (fun _ => ev_laySchedule hO hB hl hR hC (by omega) (fun goes hand ln hH' => br_t hlt (all_e ?_)))
        rw [nI_1]
        exact h2 Q hQ _ _ _ _ _ _
    · refine ⟨nI p, fun Q hQ A Co ls se ta wt W => ?_, fun Q hQ cr go ha la ln ta => ?_⟩
      · show wp_X9_fewest_b16 (pI l) (nI C) firsts (nI N) (sI (inF N kd)) (sI (reF N kd)) seconds sets a Q (wp_X9_fewest_h16 (pI l) (nI C) firsts (nI N) (sI (inF N kd)) (sI (reF N kd)) seconds sets a Q (d + 1)) _ _ _ _ _ _ _ _
        unfold wp_X9_fewest_b16
        exact pk_lt 9 p (fun h => absurd h (by omega)) (fun _ => ev_run hO hA hl hC (by omega) (fun A Co wt W => br_f hlt (hQ _ _ _ _ _ _ _)))
      · show wp_X10_fewest_b22 (nI C) (nI N) kind page second source a Q (wp_X10_fewest_h22 (nI C) (nI N) kind page second source a Q (d + 1)) _ _ _ _ _ _ _ _
        unfold wp_X10_fewest_b22
        exact pk_le 10 p (fun h => absurd h (by omega)) (fun _ => ev_laySchedule hO hB hl hR hC (by omega) (fun goes hand ln hH' => br_f hlt (hQ _ _ _ _ _ _)))
set_option maxRecDepth 20000 in
set_option maxHeartbeats 2000000 in
theorem law_fewest {k : Nat} {f_keptSlots : Int32} {f_lastSeed : Int64} {f_text_letters : Nat → Int32} {f_text_length : Int32} {f_plan_chips : Int32} {f_plan_gates : Int32} {f_plan_inputs : Int32} {f_plan_registers : Int32} {f_plan_slowRegisters : Int32} {f_plan_kinds : Nat → Int32} {f_plan_firsts : Nat → Int32} {f_plan_seconds : Nat → Int32} {f_plan_clocks : Nat → Int32} {f_plan_sourceSets : Nat → Int32} {f_now_ones : Int32} {f_now_unknowns : Int32} {f_now_places : Int32} {f_now_pins : Int32} {f_now_count : Int32} {f_sched_available : Nat → Int32} {f_sched_wanted : Nat → Int32} {f_sched_coming : Nat → Int32} {f_sched_waiting : Int32} {f_sched_taken : Int32} {f_sched_sent : Int32} {f_sched_lastSent : Int32} {f_hist_next : Int32} {f_hist_held : Int32} {f_ring_cells : Nat → Int32} {f_kept_cells : Nat → Int32} {f_sight_steps : Nat → Int32} {f_sight_gates : Nat → Int32} {f_sight_values : Nat → Int32} {f_sight_truths : Nat → Int32} {f_sight_held : Int32} {m_thrown : Int32} {m_text : Nat → Int32} {m_textSize : Int32} {m_chips : Int32} {m_gates : Int32} {m_kind : Nat → Int32} {m_source : Nat → Int32} {m_second : Nat → Int32} {m_clock : Nat → Int32} {m_page : Nat → Int32} {m_book : Nat → Int32} {m_doings : Int32} {m_kept : Nat → Int32} {m_isKept : Nat → Int32} {m_seen : Int32} {m_seenBehind : Nat → Int32} {m_seenGate : Nat → Int32} {m_seenWorth : Nat → Int32} {m_seenWas : Nat → Int32} {m_seed : Int64} {m_hand : Nat → Int32} {m_goes : Nat → Int32} {m_takes : Int32} {m_crossed : Int32} {m_last : Int32} {m_lastNow : Int32} (hk : k < 512) (hI : Inv k f_keptSlots f_lastSeed f_text_letters f_text_length f_plan_chips f_plan_gates f_plan_inputs f_plan_registers f_plan_slowRegisters f_plan_kinds f_plan_firsts f_plan_seconds f_plan_clocks f_plan_sourceSets f_now_ones f_now_unknowns f_now_places f_now_pins f_now_count f_hist_next f_hist_held f_ring_cells f_kept_cells f_sight_steps f_sight_gates f_sight_values f_sight_truths f_sight_held m_text m_textSize m_chips m_gates m_kind m_source m_second m_clock m_page m_book m_doings m_kept m_isKept m_seen m_seenBehind m_seenGate m_seenWorth m_seenWas m_seed) (a1 : Int32) :
    wp_X9_fewest f_now_places f_plan_chips f_plan_firsts f_plan_gates f_plan_inputs f_plan_registers f_plan_seconds f_plan_sourceSets f_sched_available f_sched_coming f_sched_lastSent f_sched_sent f_sched_taken f_sched_waiting f_sched_wanted a1 (fun r y_sched_available y_sched_coming y_sched_lastSent y_sched_sent y_sched_taken y_sched_waiting y_sched_wanted => wp_X10_fewest m_chips m_crossed m_gates m_goes m_hand m_kind m_last m_lastNow m_page m_second m_source m_takes m_thrown a1 (fun r2 z_crossed z_goes z_hand z_last z_lastNow z_takes z_thrown => r = r2 ∧ Inv (k + 1) f_keptSlots f_lastSeed f_text_letters f_text_length f_plan_chips f_plan_gates f_plan_inputs f_plan_registers f_plan_slowRegisters f_plan_kinds f_plan_firsts f_plan_seconds f_plan_clocks f_plan_sourceSets f_now_ones f_now_unknowns f_now_places f_now_pins f_now_count f_hist_next f_hist_held f_ring_cells f_kept_cells f_sight_steps f_sight_gates f_sight_values f_sight_truths f_sight_held m_text m_textSize m_chips m_gates m_kind m_source m_second m_clock m_page m_book m_doings m_kept m_isKept m_seen m_seenBehind m_seenGate m_seenWorth m_seenWas m_seed)) := by
  have same := inv_mono hI
  obtain ⟨hT, ⟨N, C, kd, s1, s2, ck, hP, ⟨z, hz, hA, hB⟩, hH, hK⟩, hSe, hSd⟩ := hI
  obtain ⟨hO, hC, ⟨rfl, rfl, rfl, rfl, rfl⟩, hPA, hck, ⟨rfl, rfl⟩, hPB, hckM⟩ := hP
  have hN := hO.1
  obtain ⟨rfl, rfl, rfl, rfl, rfl⟩ := hA
  unfold wp_X9_fewest wp_X10_fewest
  rcases rg_ix a1 1 99 (by omega) with ⟨n, hn1, hn, rfl⟩ | ha
  · obtain ⟨res, h1, h2⟩ := fewest_loop (a := nI n) hO hPA hPB hz.2.1 hB.2.1 hC (th := 0) 9 1 (by omega)
    refine in_ll (L := 1) (H := 99) hn1 hn (by omega) ⟨10, h1 _ (fun A Co ls se ta wt W => ?_) _ _ _ _ _ _ _⟩
    refine ev_in_t (L := 1) (H := 99) hn1 hn (by omega) (bn_f (by decide) ⟨10, h2 _ (fun cr go ha la ln ta => ⟨rfl, same⟩) _ _ _ _ _ _⟩)
  · exact out_ll (L := 1) (H := 99) (by omega) (by omega) ha (ev_in_f ha (bn_t rfl ⟨rfl, same⟩))
def bl (ta se t s : Int32) : Bool := decide (ta < t) || (decide (ta = t) && !decide (s ≤ se))
abbrev BX : Type := Int32 × Int32 × Int32
def bm1 (N C : Nat) (kd s1 s2 l : Nat → Nat) (p g c : Nat) (b : BX) : BX :=
  if c = l g then b else if bl (nI (sch N C kd s1 s2 (upN l g c) p).2.1) (nI (sch N C kd s1 s2 (upN l g c) p).2.2.1) b.2.1 b.2.2 = true then ((10 : Int32) * nI g + nI c, nI (sch N C kd s1 s2 (upN l g c) p).2.1, nI (sch N C kd s1 s2 (upN l g c) p).2.2.1) else b
def bmc (N C : Nat) (kd s1 s2 l : Nat → Nat) (p g : Nat) : Nat → Nat → BX → BX
  | _, 0, b => b
  | c, d + 1, b => bmc N C kd s1 s2 l p g (c + 1) d (bm1 N C kd s1 s2 l p g c b)
def bmg (N C : Nat) (kd s1 s2 l : Nat → Nat) (p : Nat) : Nat → Nat → BX → BX
  | _, 0, b => b
  | g, d + 1, b => bmg N C kd s1 s2 l p (g + 1) d (bmc N C kd s1 s2 l p g 0 C b)
theorem ev_isBelow {ta se t s : Int32} {Q : Int32 → Prop} (hQ : Q (if bl ta se t s = true then 1 else 0)) : wp_X4_isBelow se ta t s Q := by
  unfold wp_X4_isBelow wp_X4_isBelow_b24 wp_X4_isBelow_b28
  unfold bl at hQ
  by_cases h1 : ta < t
  · refine br_t h1 ?_
    simpa [h1] using hQ
  · refine br_f h1 ?_
    by_cases h2 : ta = t
    · refine bn_t h2 ?_
      by_cases h3 : s ≤ se
      · refine br_t h3 ?_
        simpa only [h1, h3, decide_false, decide_true, Bool.not_true, Bool.and_false, Bool.or_false, Bool.false_eq_true, if_false] using hQ
      · refine br_f h3 ?_
        simpa only [h1, h2, h3, decide_false, decide_true, Bool.not_false, Bool.and_true, Bool.or_true, if_true] using hQ
    · refine bn_f h2 ?_
      simpa only [h1, h2, decide_false, Bool.false_and, Bool.or_false, Bool.false_eq_true, if_false] using hQ
section
variable {N C : Nat} {kd s1 s2 ck l : Nat → Nat} {kinds firsts seconds sets kind source second page : Nat → Int32} {p : Nat}
theorem bestA_in (hO : POK N kd s1 s2 ck) (hA : PA N kd s1 s2 kinds firsts seconds sets) (hl : ∀ i, l i < 4) (hC : 1 ≤ C ∧ C ≤ 4) (hp : p < 100) {g : Nat} (hg : g < N) {Q : Int32 → (Nat → Int32) → (Nat → Int32) → Int32 → Int32 → Int32 → Int32 → (Nat → Int32) → Prop} {k47 : Int32 → Int32 → Int32 → Int32 → (Nat → Int32) → (Nat → Int32) → Int32 → Int32 → Int32 → Int32 → (Nat → Int32) → Prop} :
    ∀ (d c : Nat) (b : BX) (A Co : Nat → Int32) (ls se ta wt : Int32) (W : Nat → Int32), c + d = C → (∀ A Co ls se ta wt W v, v = nI g + 1 → k47 (bmc N C kd s1 s2 l p g c d b).1 (bmc N C kd s1 s2 l p g c d b).2.1 (bmc N C kd s1 s2 l p g c d b).2.2 v A Co ls se ta wt W) →
      wp_X9_bestMove_h62 (nI p) (pI l) (nI C) firsts (nI N) (sI (inF N kd)) (sI (reF N kd)) seconds sets Q k47 (d + 1) b.1 b.2.1 b.2.2 (nI g) (nI c) A Co ls se ta wt W := by
  have hN := hO.1
  intro d
  induction d with
  | zero =>
    intro c b A Co ls se ta wt W hcd hQ
    show wp_X9_bestMove_b62 (nI p) (pI l) (nI C) firsts (nI N) (sI (inF N kd)) (sI (reF N kd)) seconds sets Q k47 _ _ _ _ _ _ _ _ _ _ _ _ _
    unfold wp_X9_bestMove_b62
    exact pk_le C c (fun _ v hv => hQ _ _ _ _ _ _ _ v hv) (fun h => absurd h (by omega))
  | succ d ih =>
    intro c b A Co ls se ta wt W hcd hQ
    show wp_X9_bestMove_b62 (nI p) (pI l) (nI C) firsts (nI N) (sI (inF N kd)) (sI (reF N kd)) seconds sets Q k47 (wp_X9_bestMove_h62 (nI p) (pI l) (nI C) firsts (nI N) (sI (inF N kd)) (sI (reF N kd)) seconds sets Q k47 (d + 1)) _ _ _ _ _ _ _ _ _ _ _ _
    unfold wp_X9_bestMove_b62 wp_X9_bestMove_b163
    have next : ∀ (b' : BX) (A Co : Nat → Int32) (ls se ta wt : Int32) (W : Nat → Int32), b' = bm1 N C kd s1 s2 l p g c b → ∀ v, v = nI c + 1 → wp_X9_bestMove_h62 (nI p) (pI l) (nI C) firsts (nI N) (sI (inF N kd)) (sI (reF N kd)) seconds sets Q k47 (d + 1) b'.1 b'.2.1 b'.2.2 (nI g) v A Co ls se ta wt W := by
      intro b' A Co ls se ta wt W hb v hv
      rw [hv, nI_1, hb]
      exact ih (c + 1) _ _ _ _ _ _ _ _ (by omega) hQ
    have hlg := hl g
    refine pk_le C c (fun h => absurd h (by omega)) (fun _ => ev_chipIn hl (by omega) ?_)
    by_cases e : c = l g
    · refine bn_t (by rw [e]) (next b _ _ _ _ _ _ _ ?_)
      unfold bm1; rw [if_pos e]
    · refine bn_f (by rw [nI_eq (by omega) (by omega)]; exact e) (ev_placed hl (by omega) (by omega) ?_)
      refine ev_run hO hA (fun i => by unfold upN; split; omega; exact hl i) hC hp (fun A Co wt W => ev_isBelow ?_)
      cases hb : bl (nI (sch N C kd s1 s2 (upN l g c) p).2.1) (nI (sch N C kd s1 s2 (upN l g c) p).2.2.1) b.2.1 b.2.2 with
      | false =>
        refine br_t rfl (next b _ _ _ _ _ _ _ ?_)
        unfold bm1; rw [if_neg e, if_neg (by rw [hb]; decide)]
      | true =>
        refine br_f (by decide) (all_e (next ((10 : Int32) * nI g + nI c, nI (sch N C kd s1 s2 (upN l g c) p).2.1, nI (sch N C kd s1 s2 (upN l g c) p).2.2.1) _ _ _ _ _ _ _ ?_))
        unfold bm1; rw [if_neg e, if_pos hb]
theorem bestA_out (hO : POK N kd s1 s2 ck) (hA : PA N kd s1 s2 kinds firsts seconds sets) (hl : ∀ i, l i < 4) (hC : 1 ≤ C ∧ C ≤ 4) (hp : p < 100) {Q : Int32 → (Nat → Int32) → (Nat → Int32) → Int32 → Int32 → Int32 → Int32 → (Nat → Int32) → Prop} :
    ∀ (d g : Nat) (b : BX) (A Co : Nat → Int32) (ls se ta wt : Int32) (W : Nat → Int32), g + d = N → (∀ A Co ls se ta wt W, Q (bmg N C kd s1 s2 l p g d b).1 A Co ls se ta wt W) →
      wp_X9_bestMove_h47 (nI p) (pI l) (nI C) firsts (nI N) (sI (inF N kd)) (sI (reF N kd)) seconds sets Q (d + 1) b.1 b.2.1 b.2.2 (nI g) A Co ls se ta wt W := by
  have hN := hO.1
  intro d
  induction d with
  | zero =>
    intro g b A Co ls se ta wt W hgd hQ
    show wp_X9_bestMove_b47 (nI p) (pI l) (nI C) firsts (nI N) (sI (inF N kd)) (sI (reF N kd)) seconds sets Q _ _ _ _ _ _ _ _ _ _ _ _
    unfold wp_X9_bestMove_b47
    exact pk_le N g (fun _ => hQ _ _ _ _ _ _ _) (fun h => absurd h (by omega))
  | succ d ih =>
    intro g b A Co ls se ta wt W hgd hQ
    show wp_X9_bestMove_b47 (nI p) (pI l) (nI C) firsts (nI N) (sI (inF N kd)) (sI (reF N kd)) seconds sets Q (wp_X9_bestMove_h47 (nI p) (pI l) (nI C) firsts (nI N) (sI (inF N kd)) (sI (reF N kd)) seconds sets Q (d + 1)) _ _ _ _ _ _ _ _ _ _ _
    unfold wp_X9_bestMove_b47
    refine pk_le N g (fun h => absurd h (by omega)) (fun _ => ⟨C + 1, bestA_in hO hA hl hC hp (by omega) C 0 b _ _ _ _ _ _ _ (by omega) (fun A Co ls se ta wt W v hv => ?_)⟩)
    rw [hv, nI_1]
    exact ih (g + 1) _ _ _ _ _ _ _ _ (by omega) hQ
theorem bestB_in (hO : POK N kd s1 s2 ck) (hB : PB N kd s1 s2 kind source second) (hl : ∀ i, l i < 4) (hR : RLy N l page) (h20 : page 20 = nI p) (hC : 1 ≤ C ∧ C ≤ 4) (hp : p < 100) {g : Nat} (hg : g < N) {Q : Int32 → Int32 → (Nat → Int32) → (Nat → Int32) → Int32 → Int32 → Int32 → (Nat → Int32) → Prop} {k33 : Int32 → Int32 → Int32 → Int32 → Int32 → (Nat → Int32) → (Nat → Int32) → Int32 → Int32 → Int32 → (Nat → Int32) → Prop} :
    ∀ (d c : Nat) (b : BX) (cr : Int32) (go ha : Nat → Int32) (la ln ta : Int32) (tr : Nat → Int32), c + d = C → (∀ cr go ha la ln ta tr v, v = nI g + 1 → k33 (bmc N C kd s1 s2 l p g c d b).1 (bmc N C kd s1 s2 l p g c d b).2.1 (bmc N C kd s1 s2 l p g c d b).2.2 v cr go ha la ln ta tr) →
      wp_X10_best_h45 (nI C) (nI N) kind page second source Q k33 (d + 1) b.1 b.2.1 b.2.2 (nI g) (nI c) cr go ha la ln ta tr := by
  have hN := hO.1
  intro d
  induction d with
  | zero =>
    intro c b cr go ha la ln ta tr hcd hQ
    show wp_X10_best_b45 (nI C) (nI N) kind page second source Q k33 _ _ _ _ _ _ _ _ _ _ _ _ _
    unfold wp_X10_best_b45
    exact pk_le C c (fun _ v hv => hQ _ _ _ _ _ _ _ v hv) (fun h => absurd h (by omega))
  | succ d ih =>
    intro c b cr go ha la ln ta tr hcd hQ
    show wp_X10_best_b45 (nI C) (nI N) kind page second source Q k33 (wp_X10_best_h45 (nI C) (nI N) kind page second source Q k33 (d + 1)) _ _ _ _ _ _ _ _ _ _ _ _
    unfold wp_X10_best_b45 wp_X10_best_b126 wp_X10_best_b145
    have next : ∀ (b' : BX) (cr : Int32) (go ha : Nat → Int32) (la ln ta : Int32) (tr : Nat → Int32), b' = bm1 N C kd s1 s2 l p g c b → ∀ v, v = nI c + 1 → wp_X10_best_h45 (nI C) (nI N) kind page second source Q k33 (d + 1) b'.1 b'.2.1 b'.2.2 (nI g) v cr go ha la ln ta tr := by
      intro b' cr go ha la ln ta tr hb v hv
      rw [hv, nI_1, hb]
      exact ih (c + 1) _ _ _ _ _ _ _ _ (by omega) hQ
    have hlg := hl g
    rw [ix10, nI_clamp (by omega), hR g hg, show (20 : Int32).toNatClampNeg = 20 from by decide]
    have i22 : vp_in (nI (10 + g)) 22 := vp_in_nI (by omega) (by omega)
    refine pk_le C c (fun h => absurd h (by omega)) (fun _ => ⟨i22, ?_⟩)
    by_cases e : c = l g
    · refine br_t (by rw [e]) (next b _ _ _ _ _ _ _ ?_)
      unfold bm1; rw [if_pos e]
    · refine br_f (by rw [nI_eq (by omega) (by omega)]; exact e) (ev_layTrial (fun t' ht => ⟨i22, all_e ⟨vp_in_nI (n := 20) (by omega) (by omega), ?_⟩⟩))
      rw [upd_n (by omega), ht 20 (by omega), h20]
      refine ev_laySchedule hO hB (l := upN l g c) (fun i => by unfold upN; split; omega; exact hl i) ?_ hC hp (fun goes hand ln hH' => ?_)
      · intro i hi
        by_cases ei : i = g
        · rw [ei, upd_s, upN_s]
        · rw [upd_n (by omega), upN_n ei, ht _ (by omega)]; exact hR i hi
      have yes : bl (nI (sch N C kd s1 s2 (upN l g c) p).2.1) (nI (sch N C kd s1 s2 (upN l g c) p).2.2.1) b.2.1 b.2.2 = true → ((10 : Int32) * nI g + nI c, nI (sch N C kd s1 s2 (upN l g c) p).2.1, nI (sch N C kd s1 s2 (upN l g c) p).2.2.1) = bm1 N C kd s1 s2 l p g c b := by
        intro hb; unfold bm1; rw [if_neg e, if_pos hb]
      have no : bl (nI (sch N C kd s1 s2 (upN l g c) p).2.1) (nI (sch N C kd s1 s2 (upN l g c) p).2.2.1) b.2.1 b.2.2 = false → b = bm1 N C kd s1 s2 l p g c b := by
        intro hb; unfold bm1; rw [if_neg e, if_neg (by rw [hb]; decide)]
      unfold bl at yes no
      by_cases h1 : nI (sch N C kd s1 s2 (upN l g c) p).2.1 < b.2.1
      · exact br_t h1 (all_e (next _ _ _ _ _ _ _ _ (yes (by rw [decide_eq_true h1]; rfl))))
      · refine br_f h1 ?_
        by_cases h2 : nI (sch N C kd s1 s2 (upN l g c) p).2.1 = b.2.1
        · refine bn_t h2 ?_
          by_cases h3 : b.2.2 ≤ nI (sch N C kd s1 s2 (upN l g c) p).2.2.1
          · exact br_t h3 (next b _ _ _ _ _ _ _ (no (by rw [decide_eq_false h1, decide_eq_true h3, Bool.not_true, Bool.and_false]; rfl)))
          · exact br_f h3 (all_e (next _ _ _ _ _ _ _ _ (yes (by rw [decide_eq_true h2, decide_eq_false h3, Bool.not_false, Bool.and_true, Bool.or_true]))))
        · exact bn_f h2 (next b _ _ _ _ _ _ _ (no (by rw [decide_eq_false h1, decide_eq_false h2, Bool.false_and]; rfl)))
theorem bestB_out (hO : POK N kd s1 s2 ck) (hB : PB N kd s1 s2 kind source second) (hl : ∀ i, l i < 4) (hR : RLy N l page) (h20 : page 20 = nI p) (hC : 1 ≤ C ∧ C ≤ 4) (hp : p < 100) {Q : Int32 → Int32 → (Nat → Int32) → (Nat → Int32) → Int32 → Int32 → Int32 → (Nat → Int32) → Prop} :
    ∀ (d g : Nat) (b : BX) (cr : Int32) (go ha : Nat → Int32) (la ln ta : Int32) (tr : Nat → Int32), g + d = N → (∀ cr go ha la ln ta tr, Q (bmg N C kd s1 s2 l p g d b).1 cr go ha la ln ta tr) →
      wp_X10_best_h33 (nI C) (nI N) kind page second source Q (d + 1) b.1 b.2.1 b.2.2 (nI g) cr go ha la ln ta tr := by
  have hN := hO.1
  intro d
  induction d with
  | zero =>
    intro g b cr go ha la ln ta tr hgd hQ
    show wp_X10_best_b33 (nI C) (nI N) kind page second source Q _ _ _ _ _ _ _ _ _ _ _ _
    unfold wp_X10_best_b33
    exact pk_le N g (fun _ => hQ _ _ _ _ _ _ _) (fun h => absurd h (by omega))
  | succ d ih =>
    intro g b cr go ha la ln ta tr hgd hQ
    show wp_X10_best_b33 (nI C) (nI N) kind page second source Q (wp_X10_best_h33 (nI C) (nI N) kind page second source Q (d + 1)) _ _ _ _ _ _ _ _ _ _ _
    unfold wp_X10_best_b33
    refine pk_le N g (fun h => absurd h (by omega)) (fun _ => ⟨C + 1, bestB_in hO hB hl hR h20 hC hp (by omega) C 0 b _ _ _ _ _ _ _ (by omega) (fun cr go ha la ln ta tr v hv => ?_)⟩)
    rw [hv, nI_1]
    exact ih (g + 1) _ _ _ _ _ _ _ _ (by omega) hQ
end
set_option maxRecDepth 20000 in
set_option maxHeartbeats 2000000 in
theorem law_slots {k : Nat} {f_keptSlots : Int32} {f_lastSeed : Int64} {f_text_letters : Nat → Int32} {f_text_length : Int32} {f_plan_chips : Int32} {f_plan_gates : Int32} {f_plan_inputs : Int32} {f_plan_registers : Int32} {f_plan_slowRegisters : Int32} {f_plan_kinds : Nat → Int32} {f_plan_firsts : Nat → Int32} {f_plan_seconds : Nat → Int32} {f_plan_clocks : Nat → Int32} {f_plan_sourceSets : Nat → Int32} {f_now_ones : Int32} {f_now_unknowns : Int32} {f_now_places : Int32} {f_now_pins : Int32} {f_now_count : Int32} {f_sched_available : Nat → Int32} {f_sched_wanted : Nat → Int32} {f_sched_coming : Nat → Int32} {f_sched_waiting : Int32} {f_sched_taken : Int32} {f_sched_sent : Int32} {f_sched_lastSent : Int32} {f_hist_next : Int32} {f_hist_held : Int32} {f_ring_cells : Nat → Int32} {f_kept_cells : Nat → Int32} {f_sight_steps : Nat → Int32} {f_sight_gates : Nat → Int32} {f_sight_values : Nat → Int32} {f_sight_truths : Nat → Int32} {f_sight_held : Int32} {m_thrown : Int32} {m_text : Nat → Int32} {m_textSize : Int32} {m_chips : Int32} {m_gates : Int32} {m_kind : Nat → Int32} {m_source : Nat → Int32} {m_second : Nat → Int32} {m_clock : Nat → Int32} {m_page : Nat → Int32} {m_trial : Nat → Int32} {m_book : Nat → Int32} {m_doings : Int32} {m_kept : Nat → Int32} {m_isKept : Nat → Int32} {m_seen : Int32} {m_seenBehind : Nat → Int32} {m_seenGate : Nat → Int32} {m_seenWorth : Nat → Int32} {m_seenWas : Nat → Int32} {m_seed : Int64} {m_hand : Nat → Int32} {m_goes : Nat → Int32} {m_takes : Int32} {m_crossed : Int32} {m_last : Int32} {m_lastNow : Int32} (hk : k < 512) (hI : Inv k f_keptSlots f_lastSeed f_text_letters f_text_length f_plan_chips f_plan_gates f_plan_inputs f_plan_registers f_plan_slowRegisters f_plan_kinds f_plan_firsts f_plan_seconds f_plan_clocks f_plan_sourceSets f_now_ones f_now_unknowns f_now_places f_now_pins f_now_count f_hist_next f_hist_held f_ring_cells f_kept_cells f_sight_steps f_sight_gates f_sight_values f_sight_truths f_sight_held m_text m_textSize m_chips m_gates m_kind m_source m_second m_clock m_page m_book m_doings m_kept m_isKept m_seen m_seenBehind m_seenGate m_seenWorth m_seenWas m_seed) (a1 : Int32) :
    wp_X9_slots f_now_pins f_now_places f_plan_chips f_plan_firsts f_plan_gates f_plan_inputs f_plan_registers f_plan_seconds f_plan_sourceSets f_sched_available f_sched_coming f_sched_lastSent f_sched_sent f_sched_taken f_sched_waiting f_sched_wanted a1 (fun r y_sched_available y_sched_coming y_sched_lastSent y_sched_sent y_sched_taken y_sched_waiting y_sched_wanted => wp_X10_slots m_chips m_crossed m_gates m_goes m_hand m_kind m_last m_lastNow m_page m_second m_source m_takes m_thrown m_trial a1 (fun r2 z_crossed z_goes z_hand z_last z_lastNow z_takes z_thrown z_trial => r = r2 ∧ Inv (k + 1) f_keptSlots f_lastSeed f_text_letters f_text_length f_plan_chips f_plan_gates f_plan_inputs f_plan_registers f_plan_slowRegisters f_plan_kinds f_plan_firsts f_plan_seconds f_plan_clocks f_plan_sourceSets f_now_ones f_now_unknowns f_now_places f_now_pins f_now_count f_hist_next f_hist_held f_ring_cells f_kept_cells f_sight_steps f_sight_gates f_sight_values f_sight_truths f_sight_held m_text m_textSize m_chips m_gates m_kind m_source m_second m_clock m_page m_book m_doings m_kept m_isKept m_seen m_seenBehind m_seenGate m_seenWorth m_seenWas m_seed)) := by
  have same := inv_mono hI
  obtain ⟨hT, ⟨N, C, kd, s1, s2, ck, hP, ⟨z, hz, hA, hB⟩, hH, hK⟩, hSe, hSd⟩ := hI
  obtain ⟨hO, hC, ⟨rfl, rfl, rfl, rfl, rfl⟩, hPA, hck, ⟨rfl, rfl⟩, hPB, hckM⟩ := hP
  have hN := hO.1
  obtain ⟨rfl, rfl, rfl, rfl, rfl⟩ := hA
  have hpn := hz.2.2.2.1
  unfold wp_X9_slots wp_X10_slots
  rcases rg_ix a1 0 3 (by omega) with ⟨n, hn1, hn, rfl⟩ | ha
  · refine in_ll (L := 0) (H := 3) hn1 hn (by omega) ?_
    have i20 : vp_in (20 : Int32) 22 := vp_in_nI (n := 20) (by omega) (by omega)
    by_cases h3 : nI n = 3
    · refine bn_t h3 ?_
      unfold wp_X9_bestMove
      refine ev_run hO hPA hz.2.1 hC (by omega) (fun A Co wt W => ⟨N + 1, ?_⟩)
      refine bestA_out hO hPA hz.2.1 hC (by omega) N 0 (100, nI (sch N C kd s1 s2 z.2.1 z.2.2.1).2.1, nI (sch N C kd s1 s2 z.2.1 z.2.2.1).2.2.1) _ _ _ _ _ _ _ (by omega) (fun A Co ls se ta wt W => ?_)
      refine ev_in_t (L := 0) (H := 3) hn1 hn (by omega) (bn_f (by decide) (bn_t h3 ?_))
      unfold wp_X10_best
      rw [show (20 : Int32).toNatClampNeg = 20 from by decide, hB.2.2]
      refine ⟨i20, ev_laySchedule hO hPB hz.2.1 hB.2.1 hC (by omega) (fun goes hand ln hH' => ⟨N + 1, ?_⟩)⟩
      exact bestB_out hO hPB hz.2.1 hB.2.1 hB.2.2 hC (by omega) N 0 (100, nI (sch N C kd s1 s2 z.2.1 z.2.2.1).2.1, nI (sch N C kd s1 s2 z.2.1 z.2.2.1).2.2.1) _ _ _ _ _ _ _ (by omega) (fun cr go ha la ln ta tr => ⟨rfl, same⟩)
    · refine bn_f h3 (ev_run hO hPA hz.2.1 hC (by omega) (fun A Co wt W => ?_))
      rw [show (20 : Int32).toNatClampNeg = 20 from by decide, hB.2.2]
      by_cases h0 : nI n = 0
      · refine bn_t h0 (ev_in_t (L := 0) (H := 3) hn1 hn (by omega) (bn_f (by decide) (bn_f h3 ⟨i20, ev_laySchedule hO hPB hz.2.1 hB.2.1 hC (by omega) (fun goes hand ln hH' => ?_)⟩)))
        exact bn_t h0 ⟨rfl, same⟩
      · refine bn_f h0 ?_
        by_cases h1 : nI n = 1
        · refine bn_t h1 (ev_in_t (L := 0) (H := 3) hn1 hn (by omega) (bn_f (by decide) (bn_f h3 ⟨i20, ev_laySchedule hO hPB hz.2.1 hB.2.1 hC (by omega) (fun goes hand ln hH' => ?_)⟩)))
          exact bn_f h0 (bn_t h1 ⟨rfl, same⟩)
        · refine bn_f h1 (ev_greatestOf (ev_in_t (L := 0) (H := 3) hn1 hn (by omega) (bn_f (by decide) (bn_f h3 ⟨i20, ev_laySchedule hO hPB hz.2.1 hB.2.1 hC (by omega) (fun goes hand ln hH' => ?_)⟩))))
          exact bn_f h0 (bn_f h1 ⟨rfl, same⟩)
  · exact out_ll (L := 0) (H := 3) (by omega) (by omega) ha (ev_in_f ha (bn_t rfl ⟨rfl, same⟩))
