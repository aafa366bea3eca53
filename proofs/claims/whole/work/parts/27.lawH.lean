theorem and_1 (x : Int32) : x &&& 1 = nI (if bt x 0 = true then 1 else 0) := by
  apply b_ext
  intro i hi
  have h1 : ∀ i, i < 32 → bt (1 : Int32) i = decide (i = 0) := by decide +kernel
  rw [b_and, h1 i hi, bt_nI]
  by_cases h0 : i = 0
  · subst h0
    cases hx : bt x 0 <;> simp
  · have : (if bt x 0 = true then 1 else 0 : Nat).testBit i = false := by
      split
      · exact Nat.testBit_lt_two_pow (Nat.lt_of_lt_of_le (show 1 < 2 ^ 1 by omega) (Nat.pow_le_pow_right (by omega) (by omega)))
      · exact Nat.zero_testBit i
    rw [this]; simp [h0]
def bw (w : Int32) (k : Nat) : Nat := if bt w k = true then 1 else 0
theorem bw_le (w : Int32) (k : Nat) : bw w k ≤ 2 := by unfold bw; split <;> omega
def drw (kd : Nat → Nat) (w : Int32) : Nat → Nat → Nat → (Nat → Nat) → (Nat → Nat)
  | _, 0, _, v => v
  | g, d + 1, k, v => if kd g = 0 then drw kd w (g + 1) d (k + 1) (upN v g (bw w k)) else drw kd w (g + 1) d k v
theorem drw_le {kd : Nat → Nat} {w : Int32} : ∀ (d g k : Nat) {v : Nat → Nat}, (∀ i, v i ≤ 2) → ∀ i, drw kd w g d k v i ≤ 2
  | 0, _, _, _, h => h
  | d + 1, g, k, v, h => by
    rw [drw]
    split
    · exact drw_le d (g + 1) (k + 1) (fun i => by unfold upN; split; exact bw_le w k; exact h i)
    · exact drw_le d (g + 1) k h
section
variable {N C : Nat} {kd s1 s2 ck : Nat → Nat} {kinds firsts seconds sets kind source second clock : Nat → Int32}
theorem drawA (hO : POK N kd s1 s2 ck) (hA : PA N kd s1 s2 kinds firsts seconds sets) {w : Int32} {Q : Int32 → Int32 → Prop} :
    ∀ (d g k : Nat) (v : Nat → Nat) (rest : Int32), g + d = N → k ≤ g → (∀ i, bt rest i = bt w (k + i)) → Q (sI (sO N kd (drw kd w g d k v))) (sI (sU N kd (drw kd w g d k v))) → wp_X9_drawInputs_h4 (nI N) kinds w Q (d + 1) rest (nI g) (sI (sO N kd v)) (sI (sU N kd v)) := by
  have hN := hO.1
  intro d
  induction d with
  | zero =>
    intro g k v rest hgd hk hr hQ
    show wp_X9_drawInputs_b4 (nI N) kinds w Q _ _ _ _ _
    unfold wp_X9_drawInputs_b4
    exact pk_le N g (fun _ => hQ) (fun h => absurd h (by omega))
  | succ d ih =>
    intro g k v rest hgd hk hr hQ
    show wp_X9_drawInputs_b4 (nI N) kinds w Q (wp_X9_drawInputs_h4 (nI N) kinds w Q (d + 1)) _ _ _ _
    unfold wp_X9_drawInputs_b4 wp_X9_drawInputs_b41
    have hg : g < N := by omega
    refine pk_le N g (fun h => absurd h (by omega)) (fun _ => ev_kindOf (by omega) ?_)
    rw [(hA g hg).1]
    rw [drw] at hQ
    by_cases h0 : kd g = 0
    · rw [if_pos h0] at hQ
      refine bn_t (by rw [h0]; rfl) ?_
      rw [and_1]
      refine ev_store hO.1 hg (by rw [h0]; rfl) (by split <;> omega) (all_e (all_e ?_))
      rw [nI_1]
      have e : (if bt rest 0 = true then 1 else 0) = bw w k := by rw [hr 0]; rfl
      rw [e]
      refine ih (g + 1) (k + 1) _ _ (by omega) (by omega) (fun i => ?_) hQ
      have := b_ushr 1 (by omega) rest i
      have this : bt ((rest.toUInt32 >>> ((1 : Int32).toUInt32 &&& Int32.toUInt32 31)).toInt32) i = bt rest (1 + i) := this
      rw [this, hr, show k + (1 + i) = k + 1 + i by omega]
    · rw [if_neg h0] at hQ
      refine bn_f (by rw [← nI_0, nI_eq (by have := (hO.2 g hg).1; omega) (by omega)]; exact h0) (all_e ?_)
      rw [nI_1]
      exact ih (g + 1) k v rest (by omega) (by omega) hr hQ
def rg1 (N : Nat) (kd v : Nat → Nat) : Nat → Bool := fun i => decide (i < N) && (kd i == 5 && v i == 1)
theorem rg1_10 (hN : N ≤ 10) (v : Nat → Nat) : cN (rg1 N kd v) N = cN (rg1 N kd v) 10 := by
  have : ∀ e, cN (rg1 N kd v) (N + e) = cN (rg1 N kd v) N := by
    intro e
    induction e with
    | zero => rfl
    | succ e ih =>
      rw [← Nat.add_assoc, cN, ih]
      have : rg1 N kd v (N + e) = false := by unfold rg1; rw [decide_eq_false (by omega)]; rfl
      rw [this]; rfl
  rw [← this (10 - N)]; congr 1; omega
theorem cntB (hO : POK N kd s1 s2 ck) (hB : PB N kd s1 s2 kind source second) {v : Nat → Nat} {c : Nat} (hv : ∀ i, v i ≤ 2) {tr : Nat → Int32} (hR : RV N kd v c tr) {p1 kn th x3 : Int32} {seed : Int64} {pg wo : Nat → Int32} {sum : Nat} {Q : Int32 → Int32 → Int64 → Int32 → (Nat → Int32) → (Nat → Int32) → Prop} {k28 : Int32 → Int32 → Int32 → Int64 → Int32 → (Nat → Int32) → (Nat → Int32) → Prop} (hQ : ∀ v4, v4 = x3 + 1 → k28 (nI (sum + cN (rg1 N kd v) N)) v4 kn seed th tr wo) :
    ∀ (d g : Nat), g + d = N → wp_X10_drawn_h120 clock (nI N) kind pg second source p1 Q k28 (d + 1) (nI (sum + cN (rg1 N kd v) g)) x3 (nI g) kn seed th tr wo := by
  have hN := hO.1
  intro d
  induction d with
  | zero =>
    intro g hgd
    show wp_X10_drawn_b120 clock (nI N) kind pg second source p1 Q k28 _ _ _ _ _ _ _ _ _
    unfold wp_X10_drawn_b120
    have e : g = N := by omega
    subst e
    exact pk_le g g (fun _ => hQ) (fun h => absurd h (by omega))
  | succ d ih =>
    intro g hgd
    show wp_X10_drawn_b120 clock (nI N) kind pg second source p1 Q k28 (wp_X10_drawn_h120 clock (nI N) kind pg second source p1 Q k28 (d + 1)) _ _ _ _ _ _ _ _
    unfold wp_X10_drawn_b120 wp_X10_drawn_b156 wp_X10_drawn_b157
    have hg : g < N := by omega
    have hk := (hO.2 g hg).1
    have hvg := hv g
    rw [nI_clamp (by omega), (hB g hg).1]
    have next : ∀ b : Bool, rg1 N kd v g = b → ∀ v1, v1 = nI (sum + cN (rg1 N kd v) g) + (if b = true then 1 else 0) → ∀ v2, v2 = nI g + 1 → wp_X10_drawn_h120 clock (nI N) kind pg second source p1 Q k28 (d + 1) v1 x3 v2 kn seed th tr wo := by
      intro b hb v1 h1 v2 h2
      rw [h1, h2, nI_1]
      have e : nI (sum + cN (rg1 N kd v) g) + (if b = true then 1 else 0) = nI (sum + cN (rg1 N kd v) (g + 1)) := by
        rw [cN, hb, ← Nat.add_assoc, ← nI_add (sum + cN (rg1 N kd v) g)]
        cases b <;> rfl
      rw [e]
      exact ih (g + 1) (by omega)
    refine pk_le N g (fun h => absurd h (by omega)) (fun _ => ⟨vp_in_nI (by omega) (by omega), ?_⟩)
    by_cases h5 : kd g = 5
    · refine bn_t (by rw [h5]; rfl) ⟨vp_in_nI (by omega) (by omega), ?_⟩
      rw [hR.1 g hg (by rw [h5]; rfl)]
      by_cases h1 : v g = 1
      · exact bn_t (by rw [h1]; rfl) (next true (by unfold rg1; simp [hg, h5, h1]))
      · exact bn_f (by rw [show (1 : Int32) = nI 1 from rfl, nI_eq (by omega) (by omega)]; exact h1) (next false (by unfold rg1; simp [h1]))
    · exact bn_f (by rw [show (5 : Int32) = nI 5 from rfl, nI_eq (by omega) (by omega)]; exact h5) (next false (by unfold rg1; simp [h5]))
theorem drawB (hO : POK N kd s1 s2 ck) (hB : PB N kd s1 s2 kind source second) (hC : ∀ g, g < N → clock g = cI_ kd ck g) {w : Int32} {c : Nat} (hc : c + 1 < 2 ^ 31) {p1 th x3 : Int32} {seed : Int64} {pg : Nat → Int32} {sum : Nat} {Q : Int32 → Int32 → Int64 → Int32 → (Nat → Int32) → (Nat → Int32) → Prop} {k28 : Int32 → Int32 → Int32 → Int64 → Int32 → (Nat → Int32) → (Nat → Int32) → Prop} :
    ∀ (d g k : Nat) (v : Nat → Nat) (kn : Int32) (tr wo : Nat → Int32), g + d = N → k ≤ g → (∀ i, v i ≤ 2) → RV N kd v c tr → (∀ kn wo tr, RV N kd (stp1 N kd s1 s2 ck none (drw kd w g d k v, c)).1 (c + 1) tr → ∀ v4, v4 = x3 + 1 → k28 (nI (sum + cN (rg1 N kd (stp1 N kd s1 s2 ck none (drw kd w g d k v, c)).1) N)) v4 kn seed th tr wo) →
      wp_X10_drawn_h65 clock (nI N) kind pg second source p1 Q k28 (d + 1) (nI sum) x3 w (nI k) (nI g) kn seed th tr wo := by
  have hN := hO.1
  intro d
  induction d with
  | zero =>
    intro g k v kn tr wo hgd hk hv hR hQ
    show wp_X10_drawn_b65 clock (nI N) kind pg second source p1 Q k28 _ _ _ _ _ _ _ _ _ _ _
    unfold wp_X10_drawn_b65
    refine pk_le N g (fun _ => ?_) (fun h => absurd h (by omega))
    refine ev_stepOn (stuck := none) (x := (v, c)) hO hB hC hR hv hc (by intro g h; cases h) (fun kn wo r' hR' _ => ⟨N + 1, ?_⟩)
    exact cntB hO hB (stp1_le (x := (v, c)) hv) hR' (hQ kn wo r' hR') N 0 (by omega)
  | succ d ih =>
    intro g k v kn tr wo hgd hk hv hR hQ
    show wp_X10_drawn_b65 clock (nI N) kind pg second source p1 Q k28 (wp_X10_drawn_h65 clock (nI N) kind pg second source p1 Q k28 (d + 1)) _ _ _ _ _ _ _ _ _ _
    unfold wp_X10_drawn_b65 wp_X10_drawn_b101
    have hg : g < N := by omega
    rw [nI_clamp (by omega), (hB g hg).1]
    refine pk_le N g (fun h => absurd h (by omega)) (fun _ => ⟨vp_in_nI (by omega) (by omega), ?_⟩)
    rw [drw] at hQ
    by_cases h0 : kd g = 0
    · rw [if_pos h0] at hQ
      refine bn_t (by rw [h0]; rfl) ?_
      have e : (w >>> (nI k &&& 31)) &&& 1 = nI (bw w k) := by
        rw [and_1, b_sshr k (by omega) w (i := 0) (by omega), if_pos (show k + 0 < 32 by omega), Nat.add_zero]; rfl
      rw [e]
      refine all_e ⟨vp_in_nI (by omega) (by omega), all_e (all_e (all_e ?_))⟩
      rw [nI_1, nI_1]
      refine ih (g + 1) (k + 1) _ kn _ wo (by omega) (by omega) (fun i => by unfold upN; split; exact bw_le w k; exact hv i) ⟨fun i hi hs => ?_, by rw [upd_n (by omega)]; exact hR.2⟩ hQ
      by_cases ei : i = g
      · rw [ei, upd_s, upN_s]
      · rw [upd_n ei, upN_n ei]; exact hR.1 i hi hs
    · rw [if_neg h0] at hQ
      refine bn_f (by rw [← nI_0, nI_eq (by have := (hO.2 g hg).1; omega) (by omega)]; exact h0) (all_e ?_)
      rw [nI_1]
      exact ih (g + 1) k v kn tr wo (by omega) (by omega) hv hR hQ
theorem drawn_loop (hO : POK N kd s1 s2 ck) (hA : PA N kd s1 s2 kinds firsts seconds sets) (hB : PB N kd s1 s2 kind source second) (hC : ∀ g, g < N → clock g = cI_ kd ck g) {m : Nat} (hm : m ≤ 20) {nc no np nl nu cp cl th : Int32} {pg : Nat → Int32} :
    ∀ (d i : Nat) (x : SX) (sum : Nat) (seed : Int64), i + d = m → (∀ i, x.1 i ≤ 2) → x.2 + d < 2 ^ 30 → ∃ (res : Int32) (seed' : Int64),
      (∀ (Q : Int32 → Int32 → Int32 → Int32 → Int32 → Int32 → Int64 → Int32 → Int32 → Int32 → Prop) (lo lk lu : Int32), (∀ c0 c1 c2 c3 c4 l0 l1 l2, Q res c0 c1 c2 c3 c4 seed' l0 l1 l2) → wp_X9_drawn_h29 nc no np nl nu firsts (nI N) (sI (inF N kd)) kinds (sI (reF N kd)) seconds (sI (slF N kd ck)) sets (nI m) Q (d + 1) (nI sum) (nI i) (nI x.2) (sI (sO N kd x.1)) cp cl (sI (sU N kd x.1)) seed lo lk lu) ∧
      (∀ (Q : Int32 → Int32 → Int64 → Int32 → (Nat → Int32) → (Nat → Int32) → Prop) (kn : Int32) (tr wo : Nat → Int32), RV N kd x.1 x.2 tr → (∀ kn tr wo, Q res kn seed' th tr wo) → wp_X10_drawn_h28 clock (nI N) kind pg second source (nI m) Q (d + 1) (nI sum) (nI i) kn seed th tr wo) := by
  have hN := hO.1
  intro d
  induction d with
  | zero =>
    intro i x sum seed hid hv hc
    refine ⟨nI sum, seed, fun Q lo lk lu hQ => ?_, fun Q kn tr wo hR hQ => ?_⟩
    · show wp_X9_drawn_b29 nc no np nl nu firsts (nI N) (sI (inF N kd)) kinds (sI (reF N kd)) seconds (sI (slF N kd ck)) sets (nI m) Q _ _ _ _ _ _ _ _ _ _ _ _
      unfold wp_X9_drawn_b29
      exact pk_le m i (fun _ => hQ _ _ _ _ _ _ _ _) (fun h => absurd h (by omega))
    · show wp_X10_drawn_b28 clock (nI N) kind pg second source (nI m) Q _ _ _ _ _ _ _ _
      unfold wp_X10_drawn_b28
      exact pk_le m i (fun _ => hQ _ _ _) (fun h => absurd h (by omega))
  | succ d ih =>
    intro i x sum seed hid hv hc
    generalize hs : (seed * (6364136223846793005 : Int64)) + (1442695040888963407 : Int64) = sd
    generalize hw : (((sd).toUInt64 >>> ((33 : Int32).toInt64.toUInt64 &&& Int64.toUInt64 63)).toInt64).toInt32 = w
    have hv1 : ∀ i, drw kd w 0 N 0 x.1 i ≤ 2 := drw_le N 0 0 hv
    obtain ⟨res, seed', h1, h2⟩ := ih (i + 1) (stp1 N kd s1 s2 ck none (drw kd w 0 N 0 x.1, x.2)) (sum + cN (rg1 N kd (stp1 N kd s1 s2 ck none (drw kd w 0 N 0 x.1, x.2)).1) N) sd (by omega) (stp1_le (x := (drw kd w 0 N 0 x.1, x.2)) hv1) (by show x.2 + 1 + d < _; omega)
    refine ⟨res, seed', fun Q lo lk lu hQ => ?_, fun Q kn tr wo hR hQ => ?_⟩
    · show wp_X9_drawn_b29 nc no np nl nu firsts (nI N) (sI (inF N kd)) kinds (sI (reF N kd)) seconds (sI (slF N kd ck)) sets (nI m) Q (wp_X9_drawn_h29 nc no np nl nu firsts (nI N) (sI (inF N kd)) kinds (sI (reF N kd)) seconds (sI (slF N kd ck)) sets (nI m) Q (d + 1)) _ _ _ _ _ _ _ _ _ _ _
      unfold wp_X9_drawn_b29 wp_X9_drawInputs
      rw [hs]
      refine pk_le m i (fun h => absurd h (by omega)) (fun _ => all_e ⟨N + 1, ?_⟩)
      rw [hw]
      refine drawA hO hA N 0 0 x.1 w (by omega) (by omega) (fun i => by rw [Nat.zero_add]) ?_
      refine ev_makeSteps (n := 1) (x := (drw kd w 0 N 0 x.1, x.2)) hO hA hv1 (by show x.2 + 1 < _; omega) (fun a b e => ?_)
      rw [sI_and]
      refine ev_bitCount (all_e (all_e ?_))
      rw [nI_1, nI_add]
      have ec : cN (fun i => sO N kd (stpn N kd s1 s2 ck none 1 (drw kd w 0 N 0 x.1, x.2)).1 i && reF N kd i) 10 = cN (rg1 N kd (stp1 N kd s1 s2 ck none (drw kd w 0 N 0 x.1, x.2)).1) N := by
        rw [rg1_10 hN]
        apply cN_cong
        intro j _
        show (sO N kd (stp1 N kd s1 s2 ck none (drw kd w 0 N 0 x.1, x.2)).1 j && reF N kd j) = _
        unfold sO reF rg1 stb
        by_cases hj : j < N
        · by_cases h5 : kd j = 5
          · simp [hj, h5]
          · rw [show (kd j == 5) = false by simpa using h5]; simp
        · simp [hj]
      rw [ec]
      exact h1 Q _ _ _ hQ
    · show wp_X10_drawn_b28 clock (nI N) kind pg second source (nI m) Q (wp_X10_drawn_h28 clock (nI N) kind pg second source (nI m) Q (d + 1)) _ _ _ _ _ _ _
      unfold wp_X10_drawn_b28
      rw [hs]
      refine pk_le m i (fun h => absurd h (by omega)) (fun _ => all_e (all_e ⟨N + 1, ?_⟩))
      rw [hw]
      refine drawB hO hB hC (c := x.2) (by omega) N 0 0 x.1 kn tr wo (by omega) (by omega) hv hR (fun kn wo tr hR' => all_e ?_)
      rw [nI_1]
      exact h2 Q kn tr wo hR' hQ
end
set_option maxRecDepth 20000 in
set_option maxHeartbeats 2000000 in
theorem law_drawn {k : Nat} {f_keptSlots : Int32} {f_lastSeed : Int64} {f_text_letters : Nat → Int32} {f_text_length : Int32} {f_plan_chips : Int32} {f_plan_gates : Int32} {f_plan_inputs : Int32} {f_plan_registers : Int32} {f_plan_slowRegisters : Int32} {f_plan_kinds : Nat → Int32} {f_plan_firsts : Nat → Int32} {f_plan_seconds : Nat → Int32} {f_plan_clocks : Nat → Int32} {f_plan_sourceSets : Nat → Int32} {f_now_ones : Int32} {f_now_unknowns : Int32} {f_now_places : Int32} {f_now_pins : Int32} {f_now_count : Int32} {f_copy_ones : Int32} {f_copy_unknowns : Int32} {f_copy_places : Int32} {f_copy_pins : Int32} {f_copy_count : Int32} {f_logic_ones : Int32} {f_logic_unknowns : Int32} {f_logic_settled : Int32} {f_hist_next : Int32} {f_hist_held : Int32} {f_ring_cells : Nat → Int32} {f_kept_cells : Nat → Int32} {f_sight_steps : Nat → Int32} {f_sight_gates : Nat → Int32} {f_sight_values : Nat → Int32} {f_sight_truths : Nat → Int32} {f_sight_held : Int32} {m_thrown : Int32} {m_text : Nat → Int32} {m_textSize : Int32} {m_chips : Int32} {m_gates : Int32} {m_kind : Nat → Int32} {m_source : Nat → Int32} {m_second : Nat → Int32} {m_clock : Nat → Int32} {m_page : Nat → Int32} {m_trial : Nat → Int32} {m_book : Nat → Int32} {m_doings : Int32} {m_kept : Nat → Int32} {m_isKept : Nat → Int32} {m_seen : Int32} {m_seenBehind : Nat → Int32} {m_seenGate : Nat → Int32} {m_seenWorth : Nat → Int32} {m_seenWas : Nat → Int32} {m_seed : Int64} {m_worth : Nat → Int32} {m_known : Int32} (hk : k < 512) (hI : Inv k f_keptSlots f_lastSeed f_text_letters f_text_length f_plan_chips f_plan_gates f_plan_inputs f_plan_registers f_plan_slowRegisters f_plan_kinds f_plan_firsts f_plan_seconds f_plan_clocks f_plan_sourceSets f_now_ones f_now_unknowns f_now_places f_now_pins f_now_count f_hist_next f_hist_held f_ring_cells f_kept_cells f_sight_steps f_sight_gates f_sight_values f_sight_truths f_sight_held m_text m_textSize m_chips m_gates m_kind m_source m_second m_clock m_page m_book m_doings m_kept m_isKept m_seen m_seenBehind m_seenGate m_seenWorth m_seenWas m_seed) (a1 : Int32) :
    wp_X9_drawn f_copy_count f_copy_ones f_copy_pins f_copy_places f_copy_unknowns f_lastSeed f_logic_ones f_logic_settled f_logic_unknowns f_now_count f_now_ones f_now_pins f_now_places f_now_unknowns f_plan_firsts f_plan_gates f_plan_inputs f_plan_kinds f_plan_registers f_plan_seconds f_plan_slowRegisters f_plan_sourceSets a1 (fun r y_copy_count y_copy_ones y_copy_pins y_copy_places y_copy_unknowns y_lastSeed y_logic_ones y_logic_settled y_logic_unknowns => wp_X10_drawn m_clock m_gates m_kind m_known m_page m_second m_seed m_source m_thrown m_trial m_worth a1 (fun r2 z_known z_seed z_thrown z_trial z_worth => r = r2 ∧ Inv (k + 1) f_keptSlots y_lastSeed f_text_letters f_text_length f_plan_chips f_plan_gates f_plan_inputs f_plan_registers f_plan_slowRegisters f_plan_kinds f_plan_firsts f_plan_seconds f_plan_clocks f_plan_sourceSets f_now_ones f_now_unknowns f_now_places f_now_pins f_now_count f_hist_next f_hist_held f_ring_cells f_kept_cells f_sight_steps f_sight_gates f_sight_values f_sight_truths f_sight_held m_text m_textSize m_chips m_gates m_kind m_source m_second m_clock m_page m_book m_doings m_kept m_isKept m_seen m_seenBehind m_seenGate m_seenWorth m_seenWas z_seed)) := by
  have same := inv_mono hI
  obtain ⟨hT, ⟨N, C, kd, s1, s2, ck, hP, ⟨z, hz, hA, hB⟩, hH, hK⟩, hSe, hSd⟩ := hI
  have hP0 := hP
  have hA0 := hA
  obtain ⟨hO, hC, ⟨rfl, rfl, rfl, rfl, rfl⟩, hPA, hck, ⟨rfl, rfl⟩, hPB, hckM⟩ := hP
  have hN := hO.1
  have hct := hz.2.2.2.2
  obtain ⟨rfl, rfl, rfl, rfl, rfl⟩ := hA
  subst hSd
  unfold wp_X9_drawn wp_X10_drawn wp_X7_takeFrom
  rcases rg_ix a1 1 20 (by omega) with ⟨m, hm1, hm, rfl⟩ | ha
  · obtain ⟨res, seed', h1, h2⟩ := drawn_loop (nc := nI z.2.2.2) (no := sI (sO N kd z.1)) (np := nI z.2.2.1) (nl := pI z.2.1) (nu := sI (sU N kd z.1)) (cp := nI z.2.2.1) (cl := pI z.2.1) (th := 0) (pg := m_page) hO hPA hPB hckM hm m 0 (z.1, z.2.2.2) 0 f_lastSeed (by omega) hz.1 (by show z.2.2.2 + m < _; omega)
    refine in_ll (L := 1) (H := 20) hm1 hm (by omega) ⟨m + 1, h1 _ _ _ _ (fun c0 c1 c2 c3 c4 l0 l1 l2 => ?_)⟩
    refine ev_in_t (L := 1) (H := 20) hm1 hm (by omega) (bn_f (by decide) (ev_layTrial (fun t' ht => ⟨m + 1, h2 _ _ t' _ (hB.cong hN ht).1 (fun kn tr wo => ⟨rfl, ?_⟩)⟩)))
    exact ⟨hT, ⟨N, C, kd, s1, s2, ck, hP0, ⟨z, hz.mono, hA0, hB⟩, hH.mono, hK.mono⟩, hSe, rfl⟩
  · exact out_ll (L := 1) (H := 20) (by omega) (by omega) ha (ev_in_f ha (bn_t rfl ⟨rfl, same⟩))
